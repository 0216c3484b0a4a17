/-! TextReader: takeDigits, takeLiteral, isSignOrWord, next -/
section NXT
variable {h : pb_H} {Q : Option Value → pb_H → Prop} {c N n : Nat} {b : Nat → Nat} {s : Nat → Int32}
theorem m22 {x : Nat} (hx : x < 256) : pb_call 22 [.int (nI x)] h Q ↔ Q (some (.int (if sow x then 1 else 0))) h := by
  have e : ∀ m : Nat, m < 256 → (nI x = nI m ↔ x = m) := fun m hm => nI_eq (by omega) (by omega)
  have e42 : nI x = 42 ↔ x = 42 := e 42 (by omega)
  have e43 : nI x = 43 ↔ x = 43 := e 43 (by omega)
  have e45 : nI x = 45 ↔ x = 45 := e 45 (by omega)
  have e59 : nI x = 59 ↔ x = 59 := e 59 (by omega)
  have e61 : nI x = 61 ↔ x = 61 := e 61 (by omega)
  have e99 : nI x = 99 ↔ x = 99 := e 99 (by omega)
  have e100 : nI x = 100 ↔ x = 100 := e 100 (by omega)
  have e112 : nI x = 112 ↔ x = 112 := e 112 (by omega)
  have e115 : nI x = 115 ↔ x = 115 := e 115 (by omega)
  have e117 : nI x = 117 ↔ x = 117 := e 117 (by omega)
  have e119 : nI x = 119 ↔ x = 119 := e 119 (by omega)
  rw [pb_c22]
  simp only [pb_e22, nb1, nb0, true_and, e42, e43, e45, e59, e61, e99, e100, e112, e115, e117, e119]
  by_cases c : sow x
  · rw [if_pos c]
    rcases c with q | q | q | q | q | q | q | q | q | q | q <;> subst q <;> simp
  · rw [if_neg c]
    unfold sow at c
    simp only [not_or] at c
    obtain ⟨d1, d2, d3, d4, d5, d6, d7, d8, d9, d10, d11⟩ := c
    simp only [d1, d2, d3, d4, d5, d6, d7, d8, d9, d10, d11, if_false]
theorem h19_1 {x : Int32} {h : pb_H} (hx : 48 ≤ x ∧ x ≤ 57) : ∀ Q : Option Value → pb_H → Prop, pb_call 19 [.int x] h Q ↔ Q (some (.int 1)) h := fun Q => by rw [m19, if_pos hx]
theorem h19_0 {x : Int32} {h : pb_H} (hx : ¬ (48 ≤ x ∧ x ≤ 57)) : ∀ Q : Option Value → pb_H → Prop, pb_call 19 [.int x] h Q ↔ Q (some (.int 0)) h := fun Q => by rw [m19, if_neg hx]
/-- takeDigits -/
theorem m20_loop {st : Nat} (hT : TX h c N n b s) (hst : s 3 = nI st) (hsn : st < n) : ∀ f i s', i + f = n → st < i → (∀ k, k ≠ 4 → s' k = s k) → s' 4 = nI i → (pb_R 20 0 [some (.ref 5)] [] [] (pb_set h 5 (cx (.ref c) s')) Q ↔ Q none (pb_set h 5 (cx (.ref c) (upd (upd s' 4 (nI (den b f i))) 2 (if den b f i - st ≤ 60 then 48 else 1))))) := by
  have a6 := hT.2.2.2.2.2
  have a3 := hT.2.2.1
  have a4 := hT.2.2.2.1
  have hend : ∀ i s', i ≤ n → st < i → (∀ k, k ≠ 4 → s' k = s k) → s' 4 = nI i → (pb_R 20 38 [some (.ref 5)] [] [] (pb_set h 5 (cx (.ref c) s')) Q ↔ Q none (pb_set h 5 (cx (.ref c) (upd (upd s' 4 (nI i)) 2 (if i - st ≤ 60 then 48 else 1))))) := by
    intro i s' hi hsi hs4 h4
    have h3 : s' 3 = nI st := by rw [hs4 3 (by omega), hst]
    have hg : ∀ c, (pb_set h 5 c).2 5 = c := fun c => by rw [pb_set_get, if_pos rfl]
    have hsub : nI i - nI st = nI (i - st) := pk_sub (by omega)
    have hu : upd s' 4 (nI i) = s' := by
      funext k
      unfold upd
      split
      · rename_i e; rw [e, h4]
      · rfl
    rw [hu]
    by_cases k : i - st ≤ 60
    · have k' : ¬ (60 : Int32) < nI (i - st) := nI_nlt (a := 60) k (by omega)
      simp only [pb_e20, hg, pb_gx, pb_o_some, true_and, h4, h3, hsub, k', if_false, pb_set_same, k, if_true]
    · have k' : (60 : Int32) < nI (i - st) := nI_lt (a := 60) (by omega) (by omega)
      simp only [pb_e20, hg, pb_gx, pb_o_some, true_and, h4, h3, hsub, k', if_true, pb_set_same, k, if_false]
  intro f
  induction f with
  | zero =>
    intro i s' hi hsi hs4 h4
    obtain rfl : i = n := by omega
    have h1 : s' 1 = nI i := by rw [hs4 1 (by omega), hT.2.2.2.2.1]
    have hg : ∀ c, (pb_set h 5 c).2 5 = c := fun c => by rw [pb_set_get, if_pos rfl]
    have := hend i s' (by omega) hsi hs4 h4
    have e : pb_R 20 0 [some (.ref 5)] [] [] (pb_set h 5 (cx (.ref c) s')) Q ↔ pb_R 20 38 [some (.ref 5)] [] [] (pb_set h 5 (cx (.ref c) s')) Q := by
      rw [pb_q20_0]
      simp only [pb_e20, hg, pb_gx, pb_o_some, true_and, h4, h1, Int32.le_refl, if_true]
    rw [e, this]
    exact Iff.rfl
  | succ f ih =>
    intro i s' hi hsi hs4 h4
    have h1 : s' 1 = nI n := by rw [hs4 1 (by omega), hT.2.2.2.2.1]
    have hg : ∀ c, (pb_set h 5 c).2 5 = c := fun c => by rw [pb_set_get, if_pos rfl]
    have c1 : ¬ nI n ≤ nI i := nI_ge (by omega) (by omega)
    have hT' : TX (pb_set h 5 (cx (.ref c) s')) c N n b s' := TX_set hT (hs4 1 (by omega))
    have h15 := fun Q : Option Value → pb_H → Prop => m15 (Q := Q) hT' (show i < 2 ^ 31 by omega)
    have hs : sb b n i = b i := sb_in (by omega)
    have hd := bA_dg (n := n) (i := i) a6
    rw [hs] at hd
    by_cases d : dgt (b i)
    · have h19 := h19_1 (h := pb_set h 5 (cx (.ref c) s')) (hd.mpr d)
      have hde : den b (f + 1) i = den b f (i + 1) := by show (if _ then _ else _) = _; rw [if_pos d]
      have i10 : ¬ (1 : Int32) = 0 := by decide
      have := ih (i + 1) (upd s' 4 (nI (i + 1))) (by omega) (by omega) (fun k hk => by rw [upd_ne _ _ hk]; exact hs4 k hk) (upd_same _ _ _)
      have hu : upd (upd s' 4 (nI (i + 1))) 4 (nI (den b f (i + 1))) = upd s' 4 (nI (den b f (i + 1))) := by
        funext k
        unfold upd
        split <;> rfl
      rw [hu] at this
      rw [hde, pb_q20_0]
      simp only [pb_e20, hg, pb_gx, pb_o_some, true_and, h4, h1, c1, if_false, h15, Option.toList_some, List.singleton_append, h19, i10, nI_1, pb_set_same]
      exact this
    · have h19 := h19_0 (h := pb_set h 5 (cx (.ref c) s')) (fun e => d (hd.mp e))
      have hde : den b (f + 1) i = i := by show (if _ then _ else _) = _; rw [if_neg d]
      have := hend i s' (by omega) hsi hs4 h4
      have e : pb_R 20 0 [some (.ref 5)] [] [] (pb_set h 5 (cx (.ref c) s')) Q ↔ pb_R 20 38 [some (.ref 5)] [] [] (pb_set h 5 (cx (.ref c) s')) Q := by
        rw [pb_q20_0]
        simp only [pb_e20, hg, pb_gx, pb_o_some, true_and, h4, h1, c1, if_false, h15, Option.toList_some, List.singleton_append, h19, if_true]
      rw [hde, e, this]
theorem m20 {st : Nat} (hT : TX h c N n b s) (hst : s 3 = nI st) (hsn : st < n) (h4 : s 4 = nI (st + 1)) : pb_call 20 [.ref 5] h Q ↔ Q none (pb_set h 5 (cx (.ref c) (upd (upd s 4 (nI (den b (n - (st + 1)) (st + 1)))) 2 (if den b (n - (st + 1)) (st + 1) - st ≤ 60 then 48 else 1)))) := by
  have := m20_loop (Q := Q) hT hst hsn (n - (st + 1)) (st + 1) s (by omega) (by omega) (fun _ _ => rfl) h4
  rw [pb_set_id h hT.1] at this
  rw [pb_c20]
  exact this
/-- takeLiteral: the digits at d -/
theorem m21 {d : Nat} {sg : Int32} (hT : TX h c N n b s) (hd : d < 2 ^ 30) : pb_call 21 [.ref 5, .int (nI d), .int sg] h Q ↔ Q none (pb_set h 5 (cx (.ref c) (if dgt (sb b n d) then (if dgt (sb b n (d + 1)) then upd (upd (upd (upd (upd (upd s 2 120) 6 sg) 5 (nI (b d - 48))) 4 (nI (d + 1))) 5 (nI ((b d - 48) * 10 + (b (d + 1) - 48)))) 4 (nI (d + 2)) else upd (upd (upd (upd s 2 120) 6 sg) 5 (nI (b d - 48))) 4 (nI (d + 1))) else upd s 2 1))) := by
  have a1 := hT.1
  have a6 := hT.2.2.2.2.2
  have h15 := fun Q : Option Value → pb_H → Prop => m15 (Q := Q) hT (show d < 2 ^ 31 by omega)
  have h15' := fun Q : Option Value → pb_H → Prop => m15 (Q := Q) hT (show d + 1 < 2 ^ 31 by omega)
  have hd1 := bA_dg (n := n) (i := d) a6
  have hd2 := bA_dg (n := n) (i := d + 1) a6
  have hg : ∀ c, (pb_set h 5 c).2 5 = c := fun c => by rw [pb_set_get, if_pos rfl]
  have i10 : ¬ (1 : Int32) = 0 := by decide
  rw [pb_c21]
  by_cases g1 : dgt (sb b n d)
  · rw [if_pos g1]
    obtain ⟨l1, e1⟩ := bA_dgt g1
    have bv : bA b n d = nI (b d) := by unfold bA; rw [if_pos l1]
    have h19 := fun h => h19_1 (h := h) (hd1.mpr g1)
    have s48 : nI (b d) - 48 = nI (b d - 48) := pk_sub (a := b d) (b := 48) (by rw [e1] at g1; exact g1.1)
    by_cases g2 : dgt (sb b n (d + 1))
    · rw [if_pos g2]
      obtain ⟨l2, e2⟩ := bA_dgt g2
      have bv2 : bA b n (d + 1) = nI (b (d + 1)) := by unfold bA; rw [if_pos l2]
      have h19' := fun h => h19_1 (h := h) (hd2.mpr g2)
      rw [bv] at h19 h15
      rw [bv2] at h19' h15'
      have k10 : nI (b d - 48) * 10 = nI ((b d - 48) * 10) := pk_mul _ 10
      have k48 : nI ((b d - 48) * 10 + b (d + 1)) - 48 = nI ((b d - 48) * 10 + (b (d + 1) - 48)) := by
        rw [show nI ((b d - 48) * 10 + b (d + 1)) - 48 = nI ((b d - 48) * 10 + b (d + 1) - 48) from pk_sub (a := (b d - 48) * 10 + b (d + 1)) (b := 48) (by rw [e2] at g2; omega)]
        congr 1
        rw [e2] at g2
        omega
      have k2 : nI d + 2 = nI (d + 2) := nI_add d 2
      have r5 : ∀ (s : Nat → Int32) x y, upd (upd s 5 x) 4 y 5 = x := fun s x y => by rw [upd_ne _ _ (by omega), upd_same]
      simp only [pb_e21, h15, Option.toList_some, List.singleton_append, nI_1, h15', h19, i10, not_false_eq_true, if_true, a1, pb_gx, pb_o_some, true_and, hg, s48, pb_set_same, h19', if_false, r5, k10, nI_add, k48, k2]
    · rw [if_neg g2]
      have h19' := fun h => h19_0 (h := h) (fun e => g2 (hd2.mp e))
      rw [bv] at h19 h15
      simp only [pb_e21, h15, Option.toList_some, List.singleton_append, nI_1, h15', h19, i10, not_false_eq_true, if_true, a1, pb_gx, pb_o_some, true_and, hg, s48, pb_set_same, h19']
  · rw [if_neg g1]
    have h19 := fun h => h19_0 (h := h) (fun e => g1 (hd1.mp e))
    simp only [pb_e21, h15, Option.toList_some, List.singleton_append, nI_1, h15', h19, not_true_eq_false, if_false, a1, pb_gx, pb_o_some, true_and]
/-- what next leaves -/
def NX (b : Nat → Nat) (n e : Nat) (s s' : Nat → Int32) : Prop := s' 1 = s 1 ∧ s' 7 = s 7 ∧ s' 8 = s 8 ∧ s' 3 = nI (skp b (n - e) e false) ∧ s' 2 = nI (tkk b n (skp b (n - e) e false)) ∧ s' 4 = nI (tke b n (skp b (n - e) e false)) ∧ (tkk b n (skp b (n - e) e false) = 120 → s' 5 = nI (tkw b n (skp b (n - e) e false)) ∧ s' 6 = if b (skp b (n - e) e false) = 120 then 1 else -1)
theorem bA_neg {st : Nat} (hb : ∀ k, b k < 256) : bA b n st = -1 ↔ n ≤ st := by
  unfold bA
  by_cases d : st < n
  · rw [if_pos d]
    constructor
    · intro e
      have h1 : nI (b st) < 0 := by rw [e]; decide
      exact absurd h1 (nI_pos (by have := hb st; omega))
    · intro e; omega
  · rw [if_neg d]
    exact ⟨fun _ => by omega, fun _ => rfl⟩
/-- TextReader.next -/
theorem L23 {e : Nat} (hT : TX h c N n b s) (he : s 4 = nI e) (hen : e ≤ n) (hQ : ∀ s', NX b n e s s' → Q none (pb_set h 5 (cx (.ref c) s'))) : pb_call 23 [.ref 5] h Q := by
  have a1 := hT.1
  have a3 := hT.2.2.1
  have a4 := hT.2.2.2.1
  have a6 := hT.2.2.2.2.2
  have hg : ∀ c, (pb_set h 5 c).2 5 = c := fun c => by rw [pb_set_get, if_pos rfl]
  have h18 := fun Q : Option Value → pb_H → Prop => m18 (Q := Q) hT hen
  have hle := skp_le b (n - e) e false
  unfold NX at hQ
  generalize skp b (n - e) e false = st at h18 hle hQ
  have hT1 : ∀ s', s' 1 = s 1 → TX (pb_set h 5 (cx (.ref c) s')) c N n b s' := fun s' h1 => TX_set hT h1
  have h15 : ∀ s', s' 1 = s 1 → ∀ i, i < 2 ^ 31 → ∀ Q : Option Value → pb_H → Prop, pb_call 15 [.ref 5, .int (nI i)] (pb_set h 5 (cx (.ref c) s')) Q ↔ Q (some (.int (bA b n i))) (pb_set h 5 (cx (.ref c) s')) := fun s' h1 i hi Q => m15 (hT1 s' h1) hi
  have u31 : ∀ (s : Nat → Int32) x, upd s 3 x 1 = s 1 := fun s x => upd_ne _ _ (by omega)
  have u33 : ∀ (s : Nat → Int32) x, upd s 3 x 3 = x := fun s x => upd_same _ _ _
  have u43 : ∀ (s : Nat → Int32) x, upd s 4 x 3 = s 3 := fun s x => upd_ne _ _ (by omega)
  have u44 : ∀ (s : Nat → Int32) x, upd s 4 x 4 = x := fun s x => upd_same _ _ _
  have u41 : ∀ (s : Nat → Int32) x, upd s 4 x 1 = s 1 := fun s x => upd_ne _ _ (by omega)
  have q15 := h15 (upd s 3 (nI st)) (u31 _ _) st (by omega)
  have i10 : ¬ (1 : Int32) = 0 := by decide
  have fin : ∀ s', (∀ k, k = 1 ∨ k = 7 ∨ k = 8 → s' k = s k) → s' 3 = nI st → s' 2 = nI (tkk b n st) → s' 4 = nI (tke b n st) → (tkk b n st = 120 → s' 5 = nI (tkw b n st) ∧ s' 6 = if b st = 120 then 1 else -1) → Q none (pb_set h 5 (cx (.ref c) s')) := fun s' k1 k2 k3 k4 k5 => hQ s' ⟨k1 1 (by omega), k1 7 (by omega), k1 8 (by omega), k2, k3, k4, k5⟩
  rw [pb_c23]
  by_cases c0 : n ≤ st
  · have kk : tkk b n st = 0 := by unfold tkk; rw [if_pos c0]
    have ke : tke b n st = st := by unfold tke; rw [if_pos c0]
    have cm := (bA_neg (b := b) a6).mpr c0
    rw [cm] at q15
    have u23 : ∀ (s : Nat → Int32) x, upd s 2 x 3 = s 3 := fun s x => upd_ne _ _ (by omega)
    simp only [pb_e23, a1, pb_gx, pb_o_some, true_and, he, h18, Option.toList_some, List.singleton_append, hg, u33, q15, pb_set_same, not_true_eq_false, if_false, u43, u23, nI_1]
    refine fin _ (fun k hk => by rw [upd_ne _ _ (by omega), upd_ne _ _ (by omega), upd_ne _ _ (by omega), upd_ne _ _ (by omega)]) (by rw [upd_ne _ _ (by omega), upd_ne _ _ (by omega), upd_ne _ _ (by omega), upd_same]) (by rw [upd_ne _ _ (by omega), upd_same, kk]; rfl) (by rw [upd_same, ke]) (fun e => by omega)
  · have hsn : st < n := by omega
    have hs : sb b n st = b st := sb_in hsn
    have hbv : bA b n st = nI (b st) := by unfold bA; rw [if_pos hsn]
    have hb256 := a6 st
    have cm : ¬ nI (b st) = -1 := by rw [← hbv, bA_neg a6]; exact c0
    have hd := bA_dg (n := n) (i := st) a6
    rw [hs, hbv] at hd
    rw [hbv] at q15
    have e120 : nI (b st) = 120 ↔ b st = 120 := nI_eq (b := 120) (by omega) (by omega)
    have e126 : nI (b st) = 126 ↔ b st = 126 := nI_eq (b := 126) (by omega) (by omega)
    have e62 : nI (b st) = 62 ↔ b st = 62 := nI_eq (b := 62) (by omega) (by omega)
    have e60 : nI (b st) = 60 ↔ b st = 60 := nI_eq (b := 60) (by omega) (by omega)
    have q15e := h15 (upd (upd s 3 (nI st)) 4 (nI (st + 1))) (by rw [u41, u31]) (st + 1) (by omega)
    have hT2 : TX (pb_set h 5 (cx (.ref c) (upd (upd s 3 (nI st)) 4 (nI (st + 1))))) c N n b (upd (upd s 3 (nI st)) 4 (nI (st + 1))) := hT1 _ (by rw [u41, u31])
    by_cases cd : dgt (b st)
    · have h19 := fun h => h19_1 (h := h) (hd.mpr cd)
      have h20 := fun Q : Option Value → pb_H → Prop => m20 (Q := Q) hT2 (st := st) (by rw [u43, u33]) hsn (u44 _ _)
      have kk : tkk b n st = if den b (n - (st + 1)) (st + 1) - st ≤ 60 then 48 else 1 := by unfold tkk; rw [if_neg c0, if_pos cd]
      have ke : tke b n st = den b (n - (st + 1)) (st + 1) := by unfold tke; rw [if_neg c0, if_pos cd]
      simp only [pb_e23, a1, pb_gx, pb_o_some, true_and, he, h18, Option.toList_some, List.singleton_append, hg, u33, q15, pb_set_same, cm, not_false_eq_true, if_true, nI_1, h19, i10, if_false, h20, Option.toList_none, List.nil_append]
      refine fin _ (fun k hk => by rw [upd_ne _ _ (by omega), upd_ne _ _ (by omega), upd_ne _ _ (by omega), upd_ne _ _ (by omega)]) (by rw [upd_ne _ _ (by omega), upd_ne _ _ (by omega), upd_ne _ _ (by omega), upd_same]) ?_ (by rw [upd_ne _ _ (by omega), upd_same, ke]) (fun e => ?_)
      · rw [upd_same, kk]
        split <;> rfl
      · rw [kk] at e
        split at e <;> omega
    · have h19 := fun h => h19_0 (h := h) (fun e => cd (hd.mp e))
      by_cases cx' : b st = 120
      · have h21 := fun Q : Option Value → pb_H → Prop => m21 (Q := Q) (sg := 1) hT2 (d := st + 1) (by omega)
        have k120 := e120.mpr cx'
        have kd : tkd b st = st + 1 := by unfold tkd; rw [if_pos cx']
        have kk : tkk b n st = if dgt (sb b n (st + 1)) then 120 else 1 := by unfold tkk; rw [if_neg c0, if_neg cd, if_pos cx']
        have ke : tke b n st = if dgt (sb b n (st + 1)) then (if dgt (sb b n (st + 2)) then st + 3 else st + 2) else st + 1 := by unfold tke; rw [if_neg c0, if_neg cd, if_pos cx']
        rw [k120] at q15 cm h19
        simp only [pb_e23, a1, pb_gx, pb_o_some, true_and, he, h18, Option.toList_some, List.singleton_append, hg, u33, q15, pb_set_same, cm, not_false_eq_true, if_true, nI_1, h19, u43, not_true_eq_false, if_false, h21, Option.toList_none, List.nil_append]
        by_cases g1 : dgt (sb b n (st + 1))
        · rw [if_pos g1] at kk ke
          by_cases g2 : dgt (sb b n (st + 2))
          · have g2' : dgt (sb b n (st + 1 + 1)) := g2
            rw [if_pos g2] at ke
            rw [if_pos g1, if_pos g2']
            refine fin _ (fun k hk => by rw [upd_ne _ _ (by omega), upd_ne _ _ (by omega), upd_ne _ _ (by omega), upd_ne _ _ (by omega), upd_ne _ _ (by omega), upd_ne _ _ (by omega), upd_ne _ _ (by omega), upd_ne _ _ (by omega)]) (by rw [upd_ne _ _ (by omega), upd_ne _ _ (by omega), upd_ne _ _ (by omega), upd_ne _ _ (by omega), upd_ne _ _ (by omega), upd_ne _ _ (by omega), upd_ne _ _ (by omega), upd_same]) (by rw [upd_ne _ _ (by omega), upd_ne _ _ (by omega), upd_ne _ _ (by omega), upd_ne _ _ (by omega), upd_ne _ _ (by omega), upd_same, kk]; rfl) (by rw [upd_same, ke]) (fun _ => ⟨?_, ?_⟩)
            · rw [upd_ne _ _ (by omega), upd_same]
              unfold tkw
              rw [kd, if_pos g2']
            · rw [upd_ne _ _ (by omega), upd_ne _ _ (by omega), upd_ne _ _ (by omega), upd_ne _ _ (by omega), upd_same, if_pos cx']
          · have g2' : ¬ dgt (sb b n (st + 1 + 1)) := g2
            rw [if_neg g2] at ke
            rw [if_pos g1, if_neg g2']
            refine fin _ (fun k hk => by rw [upd_ne _ _ (by omega), upd_ne _ _ (by omega), upd_ne _ _ (by omega), upd_ne _ _ (by omega), upd_ne _ _ (by omega), upd_ne _ _ (by omega)]) (by rw [upd_ne _ _ (by omega), upd_ne _ _ (by omega), upd_ne _ _ (by omega), upd_ne _ _ (by omega), upd_ne _ _ (by omega), upd_same]) (by rw [upd_ne _ _ (by omega), upd_ne _ _ (by omega), upd_ne _ _ (by omega), upd_same, kk]; rfl) (by rw [upd_same, ke]) (fun _ => ⟨?_, ?_⟩)
            · rw [upd_ne _ _ (by omega), upd_same]
              unfold tkw
              rw [kd, if_neg g2']
            · rw [upd_ne _ _ (by omega), upd_ne _ _ (by omega), upd_same, if_pos cx']
        · rw [if_neg g1] at kk ke
          rw [if_neg g1]
          exact fin _ (fun k hk => by rw [upd_ne _ _ (by omega), upd_ne _ _ (by omega), upd_ne _ _ (by omega)]) (by rw [upd_ne _ _ (by omega), upd_ne _ _ (by omega), upd_same]) (by rw [upd_same, kk]; rfl) (by rw [upd_ne _ _ (by omega), upd_same, ke]) (fun e => by omega)
      · have k120 : ¬ nI (b st) = 120 := fun e => cx' (e120.mp e)
        have es1 : bA b n (st + 1) = 120 ↔ sb b n (st + 1) = 120 := bA_eq (m := 120) a6 (by omega)
        have es2 : bA b n (st + 1) = 61 ↔ sb b n (st + 1) = 61 := bA_eq (m := 61) a6 (by omega)
        by_cases ct : b st = 126 ∧ sb b n (st + 1) = 120
        · have h21 := fun Q : Option Value → pb_H → Prop => m21 (Q := Q) (sg := -1) hT2 (d := st + 2) (by omega)
          have k126 := e126.mpr ct.1
          have kd : tkd b st = st + 2 := by unfold tkd; rw [if_neg cx']
          have k2 : nI st + 2 = nI (st + 2) := nI_add st 2
          have kk : tkk b n st = if dgt (sb b n (st + 2)) then 120 else 1 := by unfold tkk; rw [if_neg c0, if_neg cd, if_neg cx', if_pos ct]
          have ke : tke b n st = if dgt (sb b n (st + 2)) then (if dgt (sb b n (st + 3)) then st + 4 else st + 3) else st + 1 := by unfold tke; rw [if_neg c0, if_neg cd, if_neg cx', if_pos ct]
          have kx := es1.mpr ct.2
          rw [kx] at q15e
          rw [k126] at q15 cm h19 k120
          simp only [pb_e23, a1, pb_gx, pb_o_some, true_and, he, h18, Option.toList_some, List.singleton_append, hg, u33, q15, pb_set_same, cm, not_false_eq_true, if_true, nI_1, h19, k120, u43, u44, not_true_eq_false, if_false, q15e, k2, h21, Option.toList_none, List.nil_append]
          by_cases g1 : dgt (sb b n (st + 2))
          · rw [if_pos g1] at kk ke
            by_cases g2 : dgt (sb b n (st + 3))
            · have g2' : dgt (sb b n (st + 2 + 1)) := g2
              rw [if_pos g2] at ke
              rw [if_pos g1, if_pos g2']
              refine fin _ (fun k hk => by rw [upd_ne _ _ (by omega), upd_ne _ _ (by omega), upd_ne _ _ (by omega), upd_ne _ _ (by omega), upd_ne _ _ (by omega), upd_ne _ _ (by omega), upd_ne _ _ (by omega), upd_ne _ _ (by omega)]) (by rw [upd_ne _ _ (by omega), upd_ne _ _ (by omega), upd_ne _ _ (by omega), upd_ne _ _ (by omega), upd_ne _ _ (by omega), upd_ne _ _ (by omega), upd_ne _ _ (by omega), upd_same]) (by rw [upd_ne _ _ (by omega), upd_ne _ _ (by omega), upd_ne _ _ (by omega), upd_ne _ _ (by omega), upd_ne _ _ (by omega), upd_same, kk]; rfl) (by rw [upd_same, ke]) (fun _ => ⟨?_, ?_⟩)
              · rw [upd_ne _ _ (by omega), upd_same]
                unfold tkw
                rw [kd, if_pos g2']
              · rw [upd_ne _ _ (by omega), upd_ne _ _ (by omega), upd_ne _ _ (by omega), upd_ne _ _ (by omega), upd_same, if_neg cx']
            · have g2' : ¬ dgt (sb b n (st + 2 + 1)) := g2
              rw [if_neg g2] at ke
              rw [if_pos g1, if_neg g2']
              refine fin _ (fun k hk => by rw [upd_ne _ _ (by omega), upd_ne _ _ (by omega), upd_ne _ _ (by omega), upd_ne _ _ (by omega), upd_ne _ _ (by omega), upd_ne _ _ (by omega)]) (by rw [upd_ne _ _ (by omega), upd_ne _ _ (by omega), upd_ne _ _ (by omega), upd_ne _ _ (by omega), upd_ne _ _ (by omega), upd_same]) (by rw [upd_ne _ _ (by omega), upd_ne _ _ (by omega), upd_ne _ _ (by omega), upd_same, kk]; rfl) (by rw [upd_same, ke]) (fun _ => ⟨?_, ?_⟩)
              · rw [upd_ne _ _ (by omega), upd_same]
                unfold tkw
                rw [kd, if_neg g2']
              · rw [upd_ne _ _ (by omega), upd_ne _ _ (by omega), upd_same, if_neg cx']
          · rw [if_neg g1] at kk ke
            rw [if_neg g1]
            exact fin _ (fun k hk => by rw [upd_ne _ _ (by omega), upd_ne _ _ (by omega), upd_ne _ _ (by omega)]) (by rw [upd_ne _ _ (by omega), upd_ne _ _ (by omega), upd_same]) (by rw [upd_same, kk]; rfl) (by rw [upd_ne _ _ (by omega), upd_same, ke]) (fun e => by omega)
        · have stop : pb_R 23 86 [some (.ref 5), some (.int (nI (b st)))] [] [] (pb_set h 5 (cx (.ref c) (upd (upd s 3 (nI st)) 4 (nI (st + 1))))) Q ↔ pb_R 23 119 [some (.ref 5), some (.int (nI (b st)))] [] [] (pb_set h 5 (cx (.ref c) (upd (upd s 3 (nI st)) 4 (nI (st + 1))))) Q := by
            by_cases c126 : b st = 126
            · have k126 := e126.mpr c126
              have kx : ¬ bA b n (st + 1) = 120 := fun e => ct ⟨c126, es1.mp e⟩
              simp only [pb_e23, hg, pb_gx, pb_o_some, true_and, k126, not_true_eq_false, if_false, u44, q15e, Option.toList_some, List.singleton_append, kx, not_false_eq_true, if_true]
            · have k126 : ¬ nI (b st) = 126 := fun e => c126 (e126.mp e)
              simp only [pb_e23, hg, pb_gx, pb_o_some, true_and, k126, not_false_eq_true, if_true]
          have st86 : pb_R 23 0 [some (.ref 5), none] [] [] h Q ↔ pb_R 23 86 [some (.ref 5), some (.int (nI (b st)))] [] [] (pb_set h 5 (cx (.ref c) (upd (upd s 3 (nI st)) 4 (nI (st + 1))))) Q := by
            simp only [pb_e23, a1, pb_gx, pb_o_some, true_and, he, h18, Option.toList_some, List.singleton_append, hg, u33, q15, pb_set_same, cm, not_false_eq_true, if_true, nI_1, h19, k120]
          rw [st86, stop]
          have hs2 : ∀ (s' : Nat → Int32), s' = upd (upd s 3 (nI st)) 4 (nI (st + 1)) → (∀ k, k = 1 ∨ k = 7 ∨ k = 8 → s' k = s k) ∧ s' 3 = nI st ∧ s' 4 = nI (st + 1) := fun s' e => by
            rw [e]
            exact ⟨fun k hk => by rw [upd_ne _ _ (by omega), upd_ne _ _ (by omega)], by rw [u43, u33], u44 _ _⟩
          generalize hs2' : upd (upd s 3 (nI st)) 4 (nI (st + 1)) = s2 at *
          obtain ⟨t1, t3, t4⟩ := hs2 s2 rfl
          by_cases cr : b st = 62 ∨ b st = 60
          · have ke : tke b n st = st + 2 := by unfold tke; rw [if_neg c0, if_neg cd, if_neg cx', if_neg ct, if_pos cr]
            have s131 : pb_R 23 119 [some (.ref 5), some (.int (nI (b st)))] [] [] (pb_set h 5 (cx (.ref c) s2)) Q ↔ pb_R 23 131 [some (.ref 5), some (.int (nI (b st)))] [] [] (pb_set h 5 (cx (.ref c) s2)) Q := by
              rcases cr with q | q
              · have k := e62.mpr q
                simp only [pb_e23, hg, pb_gx, pb_o_some, true_and, k, if_true]
              · have k := e60.mpr q
                have k' : ¬ (60 : Int32) = 62 := by decide
                simp only [pb_e23, hg, pb_gx, pb_o_some, true_and, k, k', if_false, not_true_eq_false]
            rw [s131]
            have u24 : ∀ (s : Nat → Int32) x, upd s 2 x 4 = s 4 := fun s x => upd_ne _ _ (by omega)
            by_cases ce : sb b n (st + 1) = 61
            · have kk : tkk b n st = b st := by unfold tkk; rw [if_neg c0, if_neg cd, if_neg cx', if_neg ct, if_pos cr, if_pos ce]
              have k61 := es2.mpr ce
              rw [k61] at q15e
              simp only [pb_e23, hg, pb_gx, pb_o_some, true_and, t4, q15e, Option.toList_some, List.singleton_append, not_true_eq_false, if_false, pb_set_same, u24, nI_1]
              exact fin _ (fun k hk => by rw [upd_ne _ _ (by omega), upd_ne _ _ (by omega)]; exact t1 k hk) (by rw [upd_ne _ _ (by omega), upd_ne _ _ (by omega), t3]) (by rw [upd_ne _ _ (by omega), upd_same, kk]) (by rw [upd_same, ke]) (fun e => by omega)
            · have kk : tkk b n st = 1 := by unfold tkk; rw [if_neg c0, if_neg cd, if_neg cx', if_neg ct, if_pos cr, if_neg ce]
              have k61 : ¬ bA b n (st + 1) = 61 := fun e => ce (es2.mp e)
              simp only [pb_e23, hg, pb_gx, pb_o_some, true_and, t4, q15e, Option.toList_some, List.singleton_append, k61, not_false_eq_true, if_true, pb_set_same, u24, nI_1]
              exact fin _ (fun k hk => by rw [upd_ne _ _ (by omega), upd_ne _ _ (by omega)]; exact t1 k hk) (by rw [upd_ne _ _ (by omega), upd_ne _ _ (by omega), t3]) (by rw [upd_ne _ _ (by omega), upd_same, kk]; rfl) (by rw [upd_same, ke]) (fun e => by omega)
          · have k62 : ¬ nI (b st) = 62 := fun e => cr (Or.inl (e62.mp e))
            have k60 : ¬ nI (b st) = 60 := fun e => cr (Or.inr (e60.mp e))
            have ke : tke b n st = st + 1 := by unfold tke; rw [if_neg c0, if_neg cd, if_neg cx', if_neg ct, if_neg cr]
            by_cases cs : sow (b st)
            · have kk : tkk b n st = b st := by unfold tkk; rw [if_neg c0, if_neg cd, if_neg cx', if_neg ct, if_neg cr, if_pos cs]
              have h22 : ∀ h, ∀ Q : Option Value → pb_H → Prop, pb_call 22 [.int (nI (b st))] h Q ↔ Q (some (.int 1)) h := fun h Q => by rw [m22 hb256, if_pos cs]
              simp only [pb_e23, hg, pb_gx, pb_o_some, true_and, k62, k60, if_false, not_false_eq_true, if_true, h22, Option.toList_some, List.singleton_append, i10, pb_set_same]
              exact fin _ (fun k hk => by rw [upd_ne _ _ (by omega)]; exact t1 k hk) (by rw [upd_ne _ _ (by omega), t3]) (by rw [upd_same, kk]) (by rw [upd_ne _ _ (by omega), t4, ke]) (fun e => by omega)
            · have kk : tkk b n st = 1 := by unfold tkk; rw [if_neg c0, if_neg cd, if_neg cx', if_neg ct, if_neg cr, if_neg cs]
              have h22 : ∀ h, ∀ Q : Option Value → pb_H → Prop, pb_call 22 [.int (nI (b st))] h Q ↔ Q (some (.int 0)) h := fun h Q => by rw [m22 hb256, if_neg cs]
              simp only [pb_e23, hg, pb_gx, pb_o_some, true_and, k62, k60, if_false, not_false_eq_true, if_true, h22, Option.toList_some, List.singleton_append, pb_set_same]
              exact fin _ (fun k hk => by rw [upd_ne _ _ (by omega)]; exact t1 k hk) (by rw [upd_ne _ _ (by omega), t3]) (by rw [upd_same, kk]; rfl) (by rw [upd_ne _ _ (by omega), t4, ke]) (fun e => by omega)
end NXT
