/-! TextReader.open, Search.forget, start; PlaneBench.load -/
abbrev csr (st lv ch le ac pb : Int32) : pb_E := .inr (6, [.ref 2, .ref 57, .ref 48, .int st, .int lv, .int ch, .int le, .int ac, .int pb, .ref 61, .ref 63, .ref 50, .ref 54, .ref 55, .ref 56])
abbrev ctr (V : Nat) (sz tb fb lt : Int32) : pb_E := .inr (9, [.int (nI V), .ref 58, .ref 59, .ref 60, .int sz, .int tb, .int fb, .int lt])
section OPN
variable {h : pb_H} {Q : Option Value → pb_H → Prop} {V c N n : Nat} {b : Nat → Nat} {ov : Int32}
/-- TextReader.open -/
theorem L121 {cc : Value} {s : Nat → Int32} (h5 : h.2 5 = cx cc s) (hB : BR h 9 4000 c N n ov b)
    (hQ : ∀ s', TX (pb_set h 5 (cx (.ref c) s')) c N n b s' → TS b n (st0 b n) s' → s' 7 = 0 → s' 8 = -1 → Q none (pb_set h 5 (cx (.ref c) s'))) : pb_call 121 [.ref 5, .ref 9] h Q := by
  obtain ⟨b1, b2, b3, b4, b5, b6, b7, b8, b9, b10⟩ := hB
  have hc5 : c ≠ 5 := fun e => by rw [e, h5] at b2; exact cb_inr b2.symm
  have g5 : ∀ (H : pb_H) x, (pb_set H 5 x).2 5 = x := fun H x => by rw [pb_set_get, if_pos rfl]
  have g9 : ∀ x, (pb_set h 5 x).2 9 = cw 4000 c n ov := fun x => by rw [pb_set_get, if_neg (by omega), b1]
  have gc : ∀ x, (pb_set h 5 x).2 c = cb N b := fun x => by rw [pb_set_get, if_neg hc5, b2]
  have hmn : (if Int32.ofNat N < nI n then Int32.ofNat N else nI n) = nI n := if_neg (nI_nlt (a := N) b3 (by omega))
  rw [pb_c121]
  simp only [pb_e121, h5, b1, pb_g0, pb_gx, pb_o_some, g5, g9, gc, cb_len, hmn, pb_set_same, true_and]
  have T0 : TX (pb_set h 5 (cx (.ref c) (upd (upd (upd (upd s 1 (nI n)) 4 0) 7 0) 8 (-1)))) c N n b (upd (upd (upd (upd s 1 (nI n)) 4 0) 7 0) 8 (-1)) := ⟨g5 _ _, gc _, b3, b4, rfl, b7⟩
  refine L23 (e := 0) T0 rfl (Nat.zero_le _) ?_
  intro s' hN
  obtain ⟨n1, n7, n8, n3, n2, n4, n5⟩ := hN
  simp only [Option.toList_none, List.nil_append, pb_e121, pb_set_same]
  exact hQ s' ⟨g5 _ _, gc _, b3, b4, n1, b7⟩ ⟨n3, n2, n4, n5, st0_le b n⟩ n7 n8
abbrev sS : Nat → Prop := fun b => b = 47 ∨ b = 48 ∨ b = 57
theorem L96 {st lv ch le ac pb : Int32} {sz tb fb lt : Int32} {l c s o : Value} (h47 : h.2 47 = csr st lv ch le ac pb) (h57 : h.2 57 = ctr V sz tb fb lt) (h48 : h.2 48 = .inr (0, [l, c, s, o]))
    (hQ : ∀ h', fr sS h h' → h'.2 47 = csr 0 0 0 0 0 pb → h'.2 57 = ctr V 0 0 0 0 → h'.2 48 = .inr (0, [l, c, .int 0, .int 0]) → Q none h') : pb_call 96 [.ref 47] h Q := by
  have g47 : ∀ (H : pb_H) x, (pb_set H 47 x).2 47 = x := fun H x => by rw [pb_set_get, if_pos rfl]
  have g57 : ∀ (H : pb_H) x, (pb_set H 57 x).2 57 = x := fun H x => by rw [pb_set_get, if_pos rfl]
  have e57 : ∀ x, (pb_set h 47 x).2 57 = ctr V sz tb fb lt := fun x => by rw [pb_set_get, if_neg (by omega), h57]
  have e47 : ∀ x y, (pb_set (pb_set h 47 x) 57 y).2 47 = x := fun x y => by rw [pb_set_get, if_neg (by omega), g47]
  have e48 : ∀ x y, (pb_set (pb_set h 47 x) 57 y).2 48 = .inr (0, [l, c, s, o]) := fun x y => by rw [pb_set_get, if_neg (by omega), pb_set_get, if_neg (by omega), h48]
  have h95 : ∀ (x : pb_E) (Q : Option Value → pb_H → Prop), pb_call 95 [.ref 57] (pb_set h 47 x) Q ↔ Q none (pb_set (pb_set h 47 x) 57 (ctr V 0 0 0 0)) := fun x Q => by
    rw [pb_c95]
    simp only [pb_e95, e57, pb_g9, pb_o_some, g57, pb_set_same]
  have h10 := fun (x y : pb_E) (z : Int32) (Q : Option Value → pb_H → Prop) => m10 (Q := Q) (n := z) (e48 x y)
  rw [pb_c96]
  simp only [pb_e96, h47, pb_g6, pb_o_some, g47, pb_set_same, e57, pb_g9, true_and, h95, Option.toList_none, List.nil_append, e47, e48, pb_g0, h10]
  refine hQ _ (fr_trans (fr_set (Or.inl rfl) (by rw [h47]; rfl)) (fr_trans (fr_set (Or.inr (Or.inr rfl)) (by rw [e57]; rfl)) (fr_set (Or.inr (Or.inl rfl)) (by rw [e48]; rfl)))) (by rw [pb_set_get, if_neg (by omega), e47]) (by rw [pb_set_get, if_neg (by omega), g57]) (by rw [pb_set_get, if_pos rfl])
theorem L97 {st lv ch le ac pb : Int32} {sz tb fb lt : Int32} {l c s o : Value} (h47 : h.2 47 = csr st lv ch le ac pb) (h57 : h.2 57 = ctr V sz tb fb lt) (h48 : h.2 48 = .inr (0, [l, c, s, o]))
    (hQ : ∀ h', fr sS h h' → h'.2 47 = csr 1 0 0 0 0 pb → h'.2 57 = ctr V 0 0 0 0 → h'.2 48 = .inr (0, [l, c, .int 0, .int 0]) → Q none h') : pb_call 97 [.ref 47] h Q := by
  rw [pb_c97]
  simp only [pb_e97, h47, pb_g6, true_and]
  refine L96 h47 h57 h48 ?_
  intro h' F k47 k57 k48
  simp only [Option.toList_none, List.nil_append, pb_e97, k47, pb_g6, pb_o_some]
  exact hQ _ (fr_trans F (fr_set (Or.inl rfl) (by rw [k47]; rfl))) (by rw [pb_set_get, if_pos rfl]) (by rw [pb_set_get, if_neg (by omega), k57]) (by rw [pb_set_get, if_neg (by omega), k48])
end OPN
/-- the pool of Lines -/
def PW (h : pb_H) (V : Nat) (F D : Nat → Option Nat) : Prop := (∀ i a, i < 300 → F i = some a → lok h V a) ∧ (∀ i a, i < 40 → D i = some a → lok h V a) ∧ (∀ i j a, i < 300 → j < 300 → F i = some a → F j = some a → i = j) ∧ (∀ i j a, i < 40 → j < 40 → D i = some a → D j = some a → i = j) ∧ (∀ i j a, i < 300 → j < 40 → F i = some a → D j = some a → False)
/-- the LINES -/
def SL (h : pb_H) (V m : Nat) (F : Nat → Option Nat) (X : Nat → LN) (og : Nat → Nat) : Prop := ∀ k, 1 ≤ k → k ≤ m → ∃ a, F (k - 1) = some a ∧ LA h V a (nI (og k)) (X k)
theorem nul_up {f : Nat → Option Nat} {i : Nat} {r : Option Nat} : ∀ {N : Nat}, i < N → nul (va_up f i r) N + (if f i = none then 1 else 0) = nul f N + (if r = none then 1 else 0)
  | 0, h => by omega
  | N + 1, h => by
    show nul (va_up f i r) N + (if va_up f i r N = none then 1 else 0) + _ = nul f N + (if f N = none then 1 else 0) + _
    by_cases e : i = N
    · subst e
      rw [nul_congr (g := f) (fun j hj => up_ne (by omega)), up_same]
      omega
    · rw [up_ne (fun q => e q.symm)]
      have := nul_up (f := f) (r := r) (N := N) (i := i) (by omega)
      omega
theorem nul_sw {F D : Nat → Option Nat} : ∀ {m : Nat}, m ≤ 40 → nul (swF F D m) 300 + nul (swF D F m) 40 = nul F 300 + nul D 40
  | 0, _ => by rw [swF_0, swF_0]
  | m + 1, h => by
    have ih := nul_sw (F := F) (D := D) (m := m) (by omega)
    have u1 := nul_up (f := swF F D m) (i := m) (r := D m) (N := 300) (by omega)
    have u2 := nul_up (f := swF D F m) (i := m) (r := F m) (N := 40) (by omega)
    rw [← swF_up, swF_at] at u1 u2
    omega
section LOD
variable {h : pb_H} {Q : Option Value → pb_H → Prop} {V c N n : Nat} {b : Nat → Nat} {ov : Int32} {F D : Nat → Option Nat}
theorem PW_PI {h2 : pb_H} {D2 : Nat → Option Nat} {m : Nat} {X : Nat → LN} (hP : PW h V F D) (hI : PI V h D h2 D2 m X) : PW h2 V F D2 := by
  obtain ⟨w1, w2, w3, w4, w5⟩ := hP
  obtain ⟨p1, p2, p3, p4, p5, p6, p7, p8, p9⟩ := hI
  refine ⟨fun i a i1 i2 => ?_, p3, w3, p4, fun i j a i1 j1 i2 j2 => ?_⟩
  · have l := w1 i a i1 i2
    have l83 := l.1
    have key : ∀ x, (x = a ∨ x = a + 1) → ¬ pS D x := fun x hx w => by
      rcases w with w | w | w | ⟨j, a', j1, j2, j3⟩
      · omega
      · omega
      · omega
      · have la := w2 j a' j1 j2
        have sp := lc_sep la.2.2 l.2.2 (fun e => w5 i j a i1 j1 i2 (by rw [e]; exact j2))
        rcases hx with hx | hx
        · subst hx; exact sp.1 j3
        · subst hx; exact sp.2 j3
    exact lok_fg p1 (key a (Or.inl rfl)) (key (a + 1) (Or.inr rfl)) l
  · rcases p5 j a j1 j2 with w | ⟨_, w⟩
    · exact w5 i j a i1 j1 i2 w
    · have := (w1 i a i1 i2).2.1
      omega
theorem PW_RP {h3 : pb_H} {M : Nat} {X : Nat → LN} (hM : M ≤ 40) (hP : PW h V F D) (hI : RPI V M F D X h h3 M) : PW h3 V (swF F D M) (swF D F M) := by
  obtain ⟨w1, w2, w3, w4, w5⟩ := hP
  obtain ⟨i1, i2, i3, i4, i12, i5, i6⟩ := hI
  have ne : ∀ x, 83 ≤ x → (∀ k a, k < M → D k = some a → x ≠ a) → ¬ rpS D M x := fun x x1 x2 w => by
    rcases w with w | w | w | w | ⟨k, a, k1, k2, k3⟩
    · omega
    · omega
    · omega
    · omega
    · exact x2 k a k1 k2 k3
  have lF : ∀ i a, i < 300 → F i = some a → lok h3 V a := fun i a q1 q2 => by
    have l := w1 i a q1 q2
    have l83 := l.1
    refine lok_fg (fg_fr i1) (ne a l83 (fun k a' k1 k2 e => w5 i k a q1 (by omega) q2 (by rw [e]; exact k2))) (ne (a + 1) (by omega) (fun k a' k1 k2 e => ?_)) l
    exact LG_ne l.2.2 (w2 k a' (by omega) k2).2.2 e.symm
  have lD : ∀ i a, i < 40 → D i = some a → lok h3 V a := fun i a q1 q2 => by
    have l := w2 i a q1 q2
    have l83 := l.1
    by_cases c : i < M
    · obtain ⟨a', e1, e2⟩ := i5 i c
      rw [q2] at e1
      injection e1 with e1
      subst e1
      exact ⟨l83, by rw [i1.1]; exact l.2.1, LA_LG e2⟩
    · refine lok_fg (fg_fr i1) (ne a l83 (fun k a' k1 k2 e => ?_)) (ne (a + 1) (by omega) (fun k a' k1 k2 e => ?_)) l
      · have := w4 i k a q1 (by omega) q2 (by rw [e]; exact k2)
        omega
      · exact LG_ne l.2.2 (w2 k a' (by omega) k2).2.2 e.symm
  have sF : ∀ i, swF F D M i = if i < M then D i else F i := fun i => rfl
  have sD : ∀ i, swF D F M i = if i < M then F i else D i := fun i => rfl
  refine ⟨fun i a q1 q2 => ?_, fun i a q1 q2 => ?_, fun i j a q1 r1 q2 r2 => ?_, fun i j a q1 r1 q2 r2 => ?_, fun i j a q1 r1 q2 r2 => ?_⟩
  · rw [sF] at q2
    by_cases c : i < M
    · rw [if_pos c] at q2; exact lD i a (by omega) q2
    · rw [if_neg c] at q2; exact lF i a q1 q2
  · rw [sD] at q2
    by_cases c : i < M
    · rw [if_pos c] at q2; exact lF i a (by omega) q2
    · rw [if_neg c] at q2; exact lD i a q1 q2
  · rw [sF] at q2 r2
    by_cases c : i < M
    · rw [if_pos c] at q2
      by_cases c' : j < M
      · rw [if_pos c'] at r2; exact w4 i j a (by omega) (by omega) q2 r2
      · rw [if_neg c'] at r2; exact (w5 j i a r1 (by omega) r2 q2).elim
    · rw [if_neg c] at q2
      by_cases c' : j < M
      · rw [if_pos c'] at r2; exact (w5 i j a q1 (by omega) q2 r2).elim
      · rw [if_neg c'] at r2; exact w3 i j a q1 r1 q2 r2
  · rw [sD] at q2 r2
    by_cases c : i < M
    · rw [if_pos c] at q2
      by_cases c' : j < M
      · rw [if_pos c'] at r2; exact w3 i j a (by omega) (by omega) q2 r2
      · rw [if_neg c'] at r2; exact (w5 i j a (by omega) r1 q2 r2).elim
    · rw [if_neg c] at q2
      by_cases c' : j < M
      · rw [if_pos c'] at r2; exact (w5 j i a (by omega) q1 r2 q2).elim
      · rw [if_neg c'] at r2; exact w4 i j a q1 r1 q2 r2
  · rw [sF] at q2
    rw [sD] at r2
    by_cases c : i < M
    · rw [if_pos c] at q2
      by_cases c' : j < M
      · rw [if_pos c'] at r2; exact w5 j i a (by omega) (by omega) r2 q2
      · rw [if_neg c'] at r2
        have := w4 i j a (by omega) r1 q2 r2
        omega
    · rw [if_neg c] at q2
      by_cases c' : j < M
      · rw [if_pos c'] at r2
        have := w3 i j a q1 (by omega) q2 r2
        omega
      · rw [if_neg c'] at r2; exact w5 i j a q1 r1 q2 r2
/-- cells that load touches -/
abbrev ldS (D : Nat → Option Nat) : Nat → Prop := fun b => (2 ≤ b ∧ b ≤ 12 ∧ b ≠ 10) ∨ sS b ∨ ∃ i a, i < 40 ∧ D i = some a ∧ lc a b
/-- the room of Lines -/
def RM (V : Nat) (h : pb_H) (F D : Nat → Option Nat) (h' : pb_H) (F' D' : Nat → Option Nat) : Prop := h'.1 + 2 * (nul F' 300 + nul D' 40) = h.1 + 2 * (nul F 300 + nul D 40) ∧ pb_sl h' + (9 + (V + 1) * 8) * (nul F' 300 + nul D' 40) = pb_sl h + (9 + (V + 1) * 8) * (nul F 300 + nul D 40)
/-- PlaneBench.load -/
theorem L126 {cc : Value} {s fs g r : Nat → Int32} {rel : Int32} {m0 m p q : Nat} {st lv ch le ac pb sz tb fb lt : Int32} {lw wc sw ow : Value} (hV : V ≤ 16) (h1 : h.2 1 = cpb V) (hB : BR h 9 4000 c N n ov b) (hc8 : 8 < c) (h5 : h.2 5 = cx cc s) (h6 : h.2 6 = cco V rel) (h7 : h.2 7 = ci 8 g) (h8 : h.2 8 = ci ((V + 1) * 8) fs) (h11 : h.2 11 = cpr V m0) (h12 : h.2 12 = co 40 D)
    (h2 : h.2 2 = csh V m p q) (h3 : h.2 3 = ci 8 r) (h4 : h.2 4 = co 300 F) (hP : PW h V F D) (h83 : 83 ≤ h.1) (h47 : h.2 47 = csr st lv ch le ac pb) (h57 : h.2 57 = ctr V sz tb fb lt) (h48 : h.2 48 = .inr (0, [lw, wc, sw, ow]))
    (hQ1 : ∀ h' s' fs' g' r' rel' F' D' M X, sPrb b n V (n + 1) (st0 b n) 0 X00 = .inr (M, X) → M ≤ 40 → fg (ldS D) h h' → h'.2 9 = cw 4000 c 0 0 → h'.2 5 = cx (.ref c) s' → s' 7 = 0 → s' 8 = -1 → h'.2 6 = cco V rel' → h'.2 7 = ci 8 g' → h'.2 8 = ci ((V + 1) * 8) fs' → h'.2 11 = cpr V M → h'.2 12 = co 40 D' → h'.2 2 = csh V M M (nfl V (fun k => X (k - 1)) M) → h'.2 3 = ci 8 r' → h'.2 4 = co 300 F' → PW h' V F' D' → SL h' V M F' (fun k => X (k - 1)) (fun _ => 1) → RM V h F D h' F' D' → h'.2 47 = csr 0 0 0 0 0 pb → h'.2 57 = ctr V 0 0 0 0 → h'.2 48 = .inr (0, [lw, wc, .int 0, .int 0]) → Q (some (.int (nI M))) h')
    (hQ0 : ∀ h' s' fs' g' rel' D' m' e, sPrb b n V (n + 1) (st0 b n) 0 X00 = .inl e → fg (fun b => pS D b ∨ b = 9) h h' → h'.2 9 = cw 4000 c 0 0 → h'.2 5 = cx (.ref c) s' → FT s' e → h'.2 6 = cco V rel' → h'.2 7 = ci 8 g' → h'.2 8 = ci ((V + 1) * 8) fs' → h'.2 11 = cpr V m' → h'.2 12 = co 40 D' → PW h' V F D' → RM V h F D h' F D' → Q (some (.int (-1))) h') : pb_call 126 [.ref 1] h Q := by
  have i10 : ¬ (1 : Int32) = 0 := by decide
  have hc12 : c ≠ 12 := fun e => by have := hB.2.1; rw [e, h12] at this; exact cb_co this.symm
  have hc9 : c ≠ 9 := BR_c1 hB hB.1
  have hc11 : c ≠ 11 := BR_c1 hB h11
  have hcl := hB.2.2.2.2.2.2.2.2.1
  rw [pb_c126]
  simp only [pb_e126, h1, pb_g11, h5, pb_gx, pb_o_some, true_and]
  refine L121 h5 hB ?_
  intro s1 T1 S1 z7 z8
  have F1 : fr (fun b => b = 5) h (pb_set h 5 (cx (.ref c) s1)) := fr_set rfl (by rw [h5]; rfl)
  have C1 : CD (pb_set h 5 (cx (.ref c) s1)) V c N n b s1 fs g rel := ⟨T1, (F1.2.2 6 (by omega)).trans h6, (F1.2.2 7 (by omega)).trans h7, (F1.2.2 8 (by omega)).trans h8, hc8⟩
  have P1 : PW (pb_set h 5 (cx (.ref c) s1)) V F D := by
    obtain ⟨w1, w2, w3, w4, w5⟩ := hP
    refine ⟨fun i a q1 q2 => ?_, fun i a q1 q2 => ?_, w3, w4, w5⟩
    · have l := w1 i a q1 q2
      have := l.1
      exact lok_fg (fg_fr F1) (by omega) (by omega) l
    · have l := w2 i a q1 q2
      have := l.1
      exact lok_fg (fg_fr F1) (by omega) (by omega) l
  have k1 : (pb_set h 5 (cx (.ref c) s1)).2 1 = cpb V := (F1.2.2 1 (by omega)).trans h1
  have k11 : (pb_set h 5 (cx (.ref c) s1)).2 11 = cpr V m0 := (F1.2.2 11 (by omega)).trans h11
  have k12 : (pb_set h 5 (cx (.ref c) s1)).2 12 = co 40 D := (F1.2.2 12 (by omega)).trans h12
  have k9 : (pb_set h 5 (cx (.ref c) s1)).2 9 = cw 4000 c n ov := (F1.2.2 9 (by omega)).trans hB.1
  simp only [Option.toList_none, List.nil_append, pb_e126, k1, pb_g11, k11, pb_g5, pb_o_some, true_and]
  generalize hH1 : pb_set h 5 (cx (.ref c) s1) = H1 at F1 C1 P1 k1 k11 k12 k9 ⊢
  -- frames of reading
  have big : ∀ {h2 : pb_H} {D2 : Nat → Option Nat} {m2 : Nat} {X2 : Nat → LN}, PI V H1 D h2 D2 m2 X2 → ∀ x, x < h.1 → ¬ pS D x → h2.2 x = H1.2 x := fun I x x1 x2 => I.1.2 x (by rw [F1.1]; exact x1) x2
  have nl : ∀ x, x < 83 → x ≠ 5 → x ≠ 6 → x ≠ 7 → x ≠ 8 → x ≠ 11 → x ≠ 12 → ¬ pS D x := fun x x1 x2 x3 x4 x5 x6 x7 w => by
    rcases w with w | w | w | ⟨i, a, i1, i2, i3⟩
    · omega
    · omega
    · omega
    · have := (hP.2.1 i a i1 i2).1
      omega
  refine L92 (s0 := s1) hV C1 S1 k11 k12 P1.2.1 P1.2.2.2.1 (by rw [F1.1]; exact hcl) (by rw [F1.1]; exact h83) ?_ ?_
  · intro h2' s2 fs2 g2 rel2 D2 M X hPr C2 K2 k112 I2 hM
    have hle : h.1 ≤ h2'.1 := by have := I2.1.1; rw [F1.1] at this; exact this
    have e1 : h2'.2 1 = cpb V := (big I2 1 (by omega) (nl 1 (by omega) (by omega) (by omega) (by omega) (by omega) (by omega) (by omega))).trans k1
    have e9 : h2'.2 9 = cw 4000 c n ov := (big I2 9 (by omega) (nl 9 (by omega) (by omega) (by omega) (by omega) (by omega) (by omega) (by omega))).trans k9
    have h10 := fun (z : Int32) (Q : Option Value → pb_H → Prop) => m10 (Q := Q) (n := z) e9
    have W2 := PW_PI P1 I2
    have F3 : fr (fun b => b = 9) h2' (pb_set h2' 9 (cw 4000 c 0 0)) := fr_set rfl (by rw [e9]; rfl)
    have j1 : (pb_set h2' 9 (cw 4000 c 0 0)).2 1 = cpb V := (F3.2.2 1 (by omega)).trans e1
    have j11 : (pb_set h2' 9 (cw 4000 c 0 0)).2 11 = cpr V M := (F3.2.2 11 (by omega)).trans k112
    have j12 : (pb_set h2' 9 (cw 4000 c 0 0)).2 12 = co 40 D2 := (F3.2.2 12 (by omega)).trans I2.2.1
    have old : ∀ x, x < 83 → x ≠ 5 → x ≠ 6 → x ≠ 7 → x ≠ 8 → x ≠ 11 → x ≠ 12 → x ≠ 9 → (pb_set h2' 9 (cw 4000 c 0 0)).2 x = h.2 x := fun x x1 x2 x3 x4 x5 x6 x7 x8 => (F3.2.2 x x8).trans ((big I2 x (by omega) (nl x x1 x2 x3 x4 x5 x6 x7)).trans (F1.2.2 x x2))
    have j2 : (pb_set h2' 9 (cw 4000 c 0 0)).2 2 = csh V m p q := (old 2 (by omega) (by omega) (by omega) (by omega) (by omega) (by omega) (by omega) (by omega)).trans h2
    have j3 : (pb_set h2' 9 (cw 4000 c 0 0)).2 3 = ci 8 r := (old 3 (by omega) (by omega) (by omega) (by omega) (by omega) (by omega) (by omega) (by omega)).trans h3
    have j4 : (pb_set h2' 9 (cw 4000 c 0 0)).2 4 = co 300 F := (old 4 (by omega) (by omega) (by omega) (by omega) (by omega) (by omega) (by omega) (by omega)).trans h4
    have j47 : (pb_set h2' 9 (cw 4000 c 0 0)).2 47 = csr st lv ch le ac pb := (old 47 (by omega) (by omega) (by omega) (by omega) (by omega) (by omega) (by omega) (by omega)).trans h47
    have j48 : (pb_set h2' 9 (cw 4000 c 0 0)).2 48 = .inr (0, [lw, wc, sw, ow]) := (old 48 (by omega) (by omega) (by omega) (by omega) (by omega) (by omega) (by omega) (by omega)).trans h48
    have j57 : (pb_set h2' 9 (cw 4000 c 0 0)).2 57 = ctr V sz tb fb lt := (old 57 (by omega) (by omega) (by omega) (by omega) (by omega) (by omega) (by omega) (by omega)).trans h57
    have W3 : PW (pb_set h2' 9 (cw 4000 c 0 0)) V F D2 := by
      obtain ⟨w1, w2, w3, w4, w5⟩ := W2
      refine ⟨fun i a q1 q2 => ?_, fun i a q1 q2 => ?_, w3, w4, w5⟩
      · have l := w1 i a q1 q2
        have := l.1
        exact lok_fg (fg_fr F3) (by omega) (by omega) l
      · have l := w2 i a q1 q2
        have := l.1
        exact lok_fg (fg_fr F3) (by omega) (by omega) l
    have X3 : ∀ k, k < M → ∃ a so, D2 k = some a ∧ LA (pb_set h2' 9 (cw 4000 c 0 0)) V a so (X k) := fun k hk => by
      obtain ⟨a, so, q1, q2⟩ := I2.2.2.2.2.2.2.1 k hk
      have := (W2.2.1 k a (by omega) q1).1
      exact ⟨a, so, q1, LA_fr F3 (by omega) (by omega) q2⟩
    have e0 : (Sum.inr (0, [Value.int (nI 4000), Value.ref c, Value.int 0, Value.int 0]) : pb_E) = cw 4000 c 0 0 := rfl
    simp only [Option.toList_some, List.singleton_append, pb_e126, e1, pb_g11, e9, pb_g0, pb_o_some, true_and, h10, Option.toList_none, List.nil_append, e0, i10, not_false_eq_true, if_true, j1, j11, pb_g5, j2, pb_g7]
    refine L119 hV hM j2 j3 j4 j12 W3.1 W3.2.1 W3.2.2.2.1 W3.2.2.2.2 X3 ?_
    intro h4' R4
    have W4 := PW_RP hM W3 R4
    obtain ⟨i1, i2, ⟨r4, i3⟩, i4, i12, i5, i6⟩ := R4
    have nr : ∀ x, x < 83 → x ≠ 2 → x ≠ 3 → x ≠ 4 → x ≠ 12 → ¬ rpS D2 M x := fun x x1 x2 x3 x4 x5 w => by
      rcases w with w | w | w | w | ⟨i, a, q1, q2, q3⟩
      · omega
      · omega
      · omega
      · omega
      · have := (W3.2.1 i a (by omega) q2).1
        omega
    have l1 : h4'.2 1 = cpb V := (i1.2.2 1 (nr 1 (by omega) (by omega) (by omega) (by omega) (by omega))).trans j1
    have l47 : h4'.2 47 = csr st lv ch le ac pb := (i1.2.2 47 (nr 47 (by omega) (by omega) (by omega) (by omega) (by omega))).trans j47
    have l48 : h4'.2 48 = .inr (0, [lw, wc, sw, ow]) := (i1.2.2 48 (nr 48 (by omega) (by omega) (by omega) (by omega) (by omega))).trans j48
    have l57 : h4'.2 57 = ctr V sz tb fb lt := (i1.2.2 57 (nr 57 (by omega) (by omega) (by omega) (by omega) (by omega))).trans j57
    simp only [Option.toList_none, List.nil_append, pb_e126, l1, pb_g11, l47, pb_g6, pb_o_some, true_and]
    refine L96 l47 l57 l48 ?_
    intro h5' F5 k47 k57 k48
    have f1 : h5'.2 1 = cpb V := (F5.2.2 1 (by omega)).trans l1
    have f2 : h5'.2 2 = csh V M M (nfl V (fun k => X (k - 1)) M) := (F5.2.2 2 (by omega)).trans i2
    have lowr : ∀ x, x < 83 → x ≠ 2 → x ≠ 3 → x ≠ 4 → x ≠ 12 → ¬ sS x → h5'.2 x = (pb_set h2' 9 (cw 4000 c 0 0)).2 x := fun x x1 x2 x3 x4 x5 x6 => (F5.2.2 x x6).trans (i1.2.2 x (nr x x1 x2 x3 x4 x5))
    simp only [Option.toList_none, List.nil_append, pb_e126, f1, pb_g11, f2, pb_g7, pb_o_some]
    have W5 : PW h5' V (swF F D2 M) (swF D2 F M) := by
      obtain ⟨w1, w2, w3, w4, w5⟩ := W4
      refine ⟨fun i a q1 q2 => ?_, fun i a q1 q2 => ?_, w3, w4, w5⟩
      · have l := w1 i a q1 q2
        have := l.1
        exact lok_fg (fg_fr F5) (by omega) (by omega) l
      · have l := w2 i a q1 q2
        have := l.1
        exact lok_fg (fg_fr F5) (by omega) (by omega) l
    have hnl := nul_sw (F := F) (D := D2) (m := M) hM
    refine hQ1 h5' s2 fs2 g2 r4 rel2 (swF F D2 M) (swF D2 F M) M X hPr hM ⟨by rw [F5.1, i1.1]; exact hle, fun x x1 x2 => ?_⟩ ?_ ?_ ?_ ?_ ?_ ?_ ?_ ?_ ?_ f2 ?_ ?_ W5 ?_ ?_ k47 k57 k48
    · have n10 : ¬ (2 ≤ x ∧ x ≤ 12 ∧ x ≠ 10) := fun w => x2 (Or.inl w)
      have ns : ¬ sS x := fun w => x2 (Or.inr (Or.inl w))
      have nln : ∀ i a, i < 40 → D i = some a → ¬ lc a x := fun i a q1 q2 q3 => x2 (Or.inr (Or.inr ⟨i, a, q1, q2, q3⟩))
      rw [F5.2.2 x ns]
      rw [i1.2.2 x (fun w => by
        rcases w with w | w | w | w | ⟨i, a, q1, q2, q3⟩
        · omega
        · omega
        · omega
        · omega
        · rcases I2.2.2.2.2.1 i a (by omega) q2 with w | ⟨_, w⟩
          · exact nln i a (by omega) w (Or.inl q3)
          · rw [F1.1] at w
            omega)]
      rw [F3.2.2 x (by omega), big I2 x x1 (fun w => by
        rcases w with w | w | w | ⟨i, a, q1, q2, q3⟩
        · omega
        · omega
        · omega
        · exact nln i a q1 q2 q3), F1.2.2 x (by omega)]
    · rw [lowr 9 (by omega) (by omega) (by omega) (by omega) (by omega) (by omega), pb_set_get, if_pos rfl]
    · rw [lowr 5 (by omega) (by omega) (by omega) (by omega) (by omega) (by omega), F3.2.2 5 (by omega)]; exact C2.1.1
    · rw [K2.1]; exact z7
    · rw [K2.2]; exact z8
    · rw [lowr 6 (by omega) (by omega) (by omega) (by omega) (by omega) (by omega), F3.2.2 6 (by omega)]; exact C2.2.1
    · rw [lowr 7 (by omega) (by omega) (by omega) (by omega) (by omega) (by omega), F3.2.2 7 (by omega)]; exact C2.2.2.1
    · rw [lowr 8 (by omega) (by omega) (by omega) (by omega) (by omega) (by omega), F3.2.2 8 (by omega)]; exact C2.2.2.2.1
    · rw [lowr 11 (by omega) (by omega) (by omega) (by omega) (by omega) (by omega)]; exact j11
    · rw [F5.2.2 12 (by omega)]; exact i12
    · rw [F5.2.2 3 (by omega)]; exact i3
    · rw [F5.2.2 4 (by omega)]; exact i4
    · intro k k1 k2
      obtain ⟨a, q1, q2⟩ := i5 (k - 1) (by omega)
      have := (W3.2.1 (k - 1) a (by omega) q1).1
      refine ⟨a, ?_, LA_fr F5 (by omega) (by omega) q2⟩
      show (if k - 1 < M then D2 (k - 1) else F (k - 1)) = _
      rw [if_pos (by omega), q1]
    · have p8 := I2.2.2.2.2.2.2.2.1
      have p9 := I2.2.2.2.2.2.2.2.2
      rw [F1.1] at p8
      rw [fr_sl F1] at p9
      have q1 : h5'.1 = h2'.1 := by rw [F5.1, i1.1, F3.1]
      have q2 : pb_sl h5' = pb_sl h2' := by rw [fr_sl F5, fr_sl i1, fr_sl F3]
      refine ⟨by omega, ?_⟩
      rw [q2, hnl, Nat.mul_add, Nat.mul_add]
      omega
  · intro h2' s2 fs2 g2 rel2 D2 M X e hPr C2 ft k112 I2
    have hle : h.1 ≤ h2'.1 := by have := I2.1.1; rw [F1.1] at this; exact this
    have e1 : h2'.2 1 = cpb V := (big I2 1 (by omega) (nl 1 (by omega) (by omega) (by omega) (by omega) (by omega) (by omega) (by omega))).trans k1
    have e9 : h2'.2 9 = cw 4000 c n ov := (big I2 9 (by omega) (nl 9 (by omega) (by omega) (by omega) (by omega) (by omega) (by omega) (by omega))).trans k9
    have h10 := fun (z : Int32) (Q : Option Value → pb_H → Prop) => m10 (Q := Q) (n := z) e9
    have W2 := PW_PI P1 I2
    have F3 : fr (fun b => b = 9) h2' (pb_set h2' 9 (cw 4000 c 0 0)) := fr_set rfl (by rw [e9]; rfl)
    have W3 : PW (pb_set h2' 9 (cw 4000 c 0 0)) V F D2 := by
      obtain ⟨w1, w2, w3, w4, w5⟩ := W2
      refine ⟨fun i a q1 q2 => ?_, fun i a q1 q2 => ?_, w3, w4, w5⟩
      · have l := w1 i a q1 q2
        have := l.1
        exact lok_fg (fg_fr F3) (by omega) (by omega) l
      · have l := w2 i a q1 q2
        have := l.1
        exact lok_fg (fg_fr F3) (by omega) (by omega) l
    have e0 : (Sum.inr (0, [Value.int (nI 4000), Value.ref c, Value.int 0, Value.int 0]) : pb_E) = cw 4000 c 0 0 := rfl
    simp only [Option.toList_some, List.singleton_append, pb_e126, e1, pb_g11, e9, pb_g0, pb_o_some, true_and, h10, Option.toList_none, List.nil_append, e0, not_true_eq_false, if_false]
    refine hQ0 _ s2 fs2 g2 rel2 D2 M e hPr ⟨hle, fun x x1 x2 => ?_⟩ (by rw [pb_set_get, if_pos rfl]) ((F3.2.2 5 (by omega)).trans C2.1.1) ft ((F3.2.2 6 (by omega)).trans C2.2.1) ((F3.2.2 7 (by omega)).trans C2.2.2.1) ((F3.2.2 8 (by omega)).trans C2.2.2.2.1) ((F3.2.2 11 (by omega)).trans k112) ((F3.2.2 12 (by omega)).trans I2.2.1) W3 ?_
    · rw [F3.2.2 x (fun w => x2 (Or.inr w)), big I2 x x1 (fun w => x2 (Or.inl w)), F1.2.2 x (fun w => x2 (Or.inl (Or.inl (Or.inl w))))]
    · have p8 := I2.2.2.2.2.2.2.2.1
      have p9 := I2.2.2.2.2.2.2.2.2
      rw [F1.1] at p8
      rw [fr_sl F1] at p9
      have q1 : (pb_set h2' 9 (cw 4000 c 0 0)).1 = h2'.1 := F3.1
      have q2 := fr_sl F3
      refine ⟨by omega, ?_⟩
      rw [q2, Nat.mul_add, Nat.mul_add]
      omega
end LOD
