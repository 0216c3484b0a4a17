/-! What a SUM, relation and INT say; Condition: readFactor, addLiteral -/
abbrev FL : Type := Nat × Nat
/-- a FACTOR: where the next TOKEN stands, its value; or a FAULT -/
def sFac (b : Nat → Nat) (n st : Nat) : Sum FL (Nat × Int) :=
  if tkk b n st = 120 then .inr (st, 1)
  else if tkk b n (if tkk b n st = 45 ∨ tkk b n st = 43 then nxt b n st else st) = 48 then .inr (nxt b n (if tkk b n st = 45 ∨ tkk b n st = 43 then nxt b n st else st), if tkk b n st = 45 then - (tkn b n (if tkk b n st = 45 ∨ tkk b n st = 43 then nxt b n st else st) : Int) else (tkn b n (if tkk b n st = 45 ∨ tkk b n st = 43 then nxt b n st else st) : Int))
  else .inl (1, if tkk b n st = 45 ∨ tkk b n st = 43 then nxt b n st else st)
def addt (t : Nat → Int) (v : Nat) (pos : Prop) [Decidable pos] (z : Int) : Nat → Int := fun u => if u = v then (if pos then t u + z else t u - z) else if u = 0 ∧ ¬ pos then t u - z else t u
def sLit (b : Nat → Nat) (n V st : Nat) (z : Int) (t : Nat → Int) : Sum FL (Nat × (Nat → Int)) :=
  if tkk b n st = 120 then (if 1 ≤ tkw b n st ∧ tkw b n st ≤ V then .inr (nxt b n st, addt t (tkw b n st) (b st = 120) z) else .inl (2, st)) else .inl (1, st)
abbrev bTm (k : Nat) : Prop := k = 120 ∨ k = 48 ∨ k = 43 ∨ k = 45
/-- the SUM -/
def sTms (b : Nat → Nat) (n V : Nat) : Nat → Nat → (Nat → Int) → Sum FL (Nat × (Nat → Int))
  | 0, st, t => .inr (st, t)
  | f + 1, st, t => if bTm (tkk b n st) then (match sFac b n st with
    | .inl e => .inl e
    | .inr p => match sLit b n V p.1 p.2 t with
      | .inl e => .inl e
      | .inr q => sTms b n V f q.1 q.2) else .inr (st, t)
abbrev sRl (any : Bool) (k : Nat) : Prop := k = 62 ∨ (any = true ∧ (k = 60 ∨ k = 61))
/-- SUM, relation and INT: where ; stands, the relation, the sums -/
def sCnd (b : Nat → Nat) (n V : Nat) (any : Bool) (st : Nat) : Sum FL (Nat × Nat × (Nat → Int)) :=
  match sTms b n V (n + 1) st (fun _ => 0) with
  | .inl e => .inl e
  | .inr p => if sRl any (tkk b n p.1) then
      (if tkk b n (nxt b n p.1) = 120 then .inl (1, nxt b n p.1) else match sFac b n (nxt b n p.1) with
        | .inl e => .inl e
        | .inr q => if tkk b n q.1 = 59 then .inr (q.1, tkk b n p.1, fun u => if u = 0 then p.2 u + q.2 else p.2 u) else .inl (1, q.1))
    else .inl (1, p.1)
abbrev cco (V : Nat) (rel : Int32) : pb_E := .inr (2, [.ref 5, .int (nI V), .ref 8, .ref 7, .int rel])
def CD (h : pb_H) (V c N n : Nat) (b : Nat → Nat) (s f g : Nat → Int32) (rel : Int32) : Prop := TX h c N n b s ∧ h.2 6 = cco V rel ∧ h.2 7 = ci 8 g ∧ h.2 8 = ci ((V + 1) * 8) f ∧ 8 < c
abbrev cS : Nat → Prop := fun b => b = 5 ∨ b = 6 ∨ b = 7 ∨ b = 8
abbrev FT (s' : Nat → Int32) (e : FL) : Prop := s' 7 = nI e.1 ∧ s' 8 = nI e.2
abbrev KF (s s' : Nat → Int32) : Prop := s' 7 = s 7 ∧ s' 8 = s 8
section CON
variable {h : pb_H} {Q : Option Value → pb_H → Prop} {V c N n st : Nat} {b : Nat → Nat} {s f g : Nat → Int32} {rel : Int32}
theorem CD_s (hC : CD h V c N n b s f g rel) {s' : Nat → Int32} (h1 : s' 1 = s 1) : CD (pb_set h 5 (cx (.ref c) s')) V c N n b s' f g rel ∧ fr cS h (pb_set h 5 (cx (.ref c) s')) := by
  obtain ⟨a1, a2, a3, a4, a5⟩ := hC
  exact ⟨⟨TX_set a1 h1, by rw [pb_set_get, if_neg (by omega), a2], by rw [pb_set_get, if_neg (by omega), a3], by rw [pb_set_get, if_neg (by omega), a4], a5⟩, fr_set (Or.inl rfl) (by rw [a1.1]; rfl)⟩
theorem TX_o (hT : TX h c N n b s) {a : Nat} {z : pb_E} (h1 : a ≠ 5) (h2 : a ≠ c) : TX (pb_set h a z) c N n b s := by
  obtain ⟨a1, a2, a3⟩ := hT
  exact ⟨by rw [pb_set_get, if_neg (Ne.symm h1), a1], by rw [pb_set_get, if_neg (Ne.symm h2), a2], a3⟩
theorem CD_g (hC : CD h V c N n b s f g rel) {g' : Nat → Int32} : CD (pb_set h 7 (ci 8 g')) V c N n b s f g' rel ∧ fr cS h (pb_set h 7 (ci 8 g')) := by
  obtain ⟨a1, a2, a3, a4, a5⟩ := hC
  exact ⟨⟨TX_o a1 (by omega) (by omega), by rw [pb_set_get, if_neg (by omega), a2], by rw [pb_set_get, if_pos rfl], by rw [pb_set_get, if_neg (by omega), a4], a5⟩, fr_set (Or.inr (Or.inr (Or.inl rfl))) (by rw [a3]; rfl)⟩
theorem CD_f (hC : CD h V c N n b s f g rel) {f' : Nat → Int32} : CD (pb_set h 8 (ci ((V + 1) * 8) f')) V c N n b s f' g rel ∧ fr cS h (pb_set h 8 (ci ((V + 1) * 8) f')) := by
  obtain ⟨a1, a2, a3, a4, a5⟩ := hC
  exact ⟨⟨TX_o a1 (by omega) (by omega), by rw [pb_set_get, if_neg (by omega), a2], by rw [pb_set_get, if_neg (by omega), a3], by rw [pb_set_get, if_pos rfl], a5⟩, fr_set (Or.inr (Or.inr (Or.inr rfl))) (by rw [a4]; rfl)⟩
theorem CD_r (hC : CD h V c N n b s f g rel) {rel' : Int32} : CD (pb_set h 6 (cco V rel')) V c N n b s f g rel' ∧ fr cS h (pb_set h 6 (cco V rel')) := by
  obtain ⟨a1, a2, a3, a4, a5⟩ := hC
  exact ⟨⟨TX_o a1 (by omega) (by omega), by rw [pb_set_get, if_pos rfl], by rw [pb_set_get, if_neg (by omega), a3], by rw [pb_set_get, if_neg (by omega), a4], a5⟩, fr_set (Or.inr (Or.inl rfl)) (by rw [a2]; rfl)⟩
theorem tkk_256 (hb : ∀ k, b k < 256) (st : Nat) : tkk b n st < 256 := by
  unfold tkk
  have := hb st
  split
  · omega
  · split
    · split <;> omega
    · split
      · split <;> omega
      · split
        · split <;> omega
        · split
          · split <;> omega
          · split <;> omega
theorem kd_eq (hS : TS b n st s) (hb : ∀ k, b k < 256) {m : Nat} (hm : m < 256) : s 2 = nI m ↔ tkk b n st = m := by
  rw [hS.2.1]
  exact nI_eq (by have := tkk_256 (n := n) hb st; omega) (by omega)
theorem m76_1 {k : Int32} {cc : Value} (h5 : h.2 5 = cx cc s) (e : s 2 = k) : ∀ Q : Option Value → pb_H → Prop, pb_call 76 [.ref 5, .int k] h Q ↔ Q (some (.int 1)) h := fun Q => by rw [m76 h5, if_pos e]
theorem m76_0 {k : Int32} {cc : Value} (h5 : h.2 5 = cx cc s) (e : ¬ s 2 = k) : ∀ Q : Option Value → pb_H → Prop, pb_call 76 [.ref 5, .int k] h Q ↔ Q (some (.int 0)) (pb_set h 5 (cx cc (upd (upd s 7 1) 8 (s 3)))) := fun Q => by rw [m76 h5, if_neg e]
/-- the rest of readFactor, behind the sign -/
theorem L77_64 {st1 : Nat} {bl : Bool} (hC : CD h V c N n b s f g rel) (hS : TS b n st1 s)
    (hQ1 : ∀ h' s' g', tkk b n st1 = 48 → fr cS h h' → CD h' V c N n b s' f g' rel → TS b n (nxt b n st1) s' → KF s s' → TC g' 0 (if bl = true then - (tkn b n st1 : Int) else (tkn b n st1 : Int)) → Q (some (.int 1)) h')
    (hQ0 : ∀ h' s' g', tkk b n st1 ≠ 48 → fr cS h h' → CD h' V c N n b s' f g' rel → FT s' (1, st1) → Q (some (.int 0)) h') : pb_R 77 64 [some (.ref 6), some (.int (if bl = true then 1 else 0))] [] [] h Q := by
  have hb := hC.1.2.2.2.2.2
  have k48 : s 2 = 48 ↔ tkk b n st1 = 48 := kd_eq hS hb (m := 48) (by omega)
  have i10 : ¬ (1 : Int32) = 0 := by decide
  by_cases c48 : tkk b n st1 = 48
  · have q := k48.mpr c48
    have h76 := m76_1 hC.1.1 q
    simp only [pb_e77, hC.2.1, pb_g2, hC.1.1, pb_gx, pb_o_some, true_and, h76, Option.toList_some, List.singleton_append, i10, not_false_eq_true, if_true]
    refine L26 hC.1 hS c48 hC.2.2.1 rfl (by have := hC.2.2.2.2; omega) ?_
    intro g1 hg1
    obtain ⟨C1, F1⟩ := CD_g hC (g' := g1)
    have hlt := tkn_lt c48
    have hp : 10 ^ 60 < 4294967296 ^ 7 := by decide
    have hT1 : TC g1 0 (tkn b n st1 : Int) := Or.inl ⟨by omega, by rw [hg1]⟩
    have hn1 : tkk b n st1 ≠ 1 := by omega
    cases bl
    · simp only [Option.toList_none, List.nil_append, pb_e77, C1.2.1, pb_g2, pb_o_some, Bool.false_eq_true, if_false, if_true, C1.1.1, pb_gx, true_and]
      refine T23 C1.1 hS hn1 ?_
      intro s2 T2 S2 k7 k8
      obtain ⟨C2, F2⟩ := CD_s C1 (s' := s2) (by rw [T2.2.2.2.2.1, hC.1.2.2.2.2.1])
      simp only [Option.toList_none, List.nil_append, pb_e77, nb1, true_and]
      exact hQ1 _ s2 g1 c48 (fr_trans F1 F2) C2 S2 ⟨k7, k8⟩ hT1
    · have h62 := fun Q : Option Value → pb_H → Prop => m62 (Q := Q) (h := pb_set h 7 (ci 8 g1)) (i := 0) C1.2.2.1 (by omega) (by omega)
      have h62' : ∀ Q : Option Value → pb_H → Prop, pb_call 62 [.ref 7, .int 0] (pb_set h 7 (ci 8 g1)) Q ↔ Q none (pb_set h 7 (ci 8 (wn g1 0 8).1)) := fun Q => by
        have := h62 Q
        rw [pb_set_same] at this
        exact this
      obtain ⟨C3, F3⟩ := CD_g hC (g' := (wn g1 0 8).1)
      have hT3 := TC_neg hT1 (by omega)
      simp only [Option.toList_none, List.nil_append, pb_e77, C1.2.1, pb_g2, pb_o_some, if_true, i10, if_false, h62', C3.2.1, C3.1.1, pb_gx, true_and]
      refine T23 C3.1 hS hn1 ?_
      intro s2 T2 S2 k7 k8
      obtain ⟨C2, F2⟩ := CD_s C3 (s' := s2) (by rw [T2.2.2.2.2.1, hC.1.2.2.2.2.1])
      simp only [Option.toList_none, List.nil_append, pb_e77, nb1, true_and]
      exact hQ1 _ s2 _ c48 (fr_trans F3 F2) C2 S2 ⟨k7, k8⟩ hT3
  · have q : ¬ s 2 = 48 := fun e => c48 (k48.mp e)
    have h76 := m76_0 hC.1.1 q
    obtain ⟨C2, F2⟩ := CD_s hC (s' := upd (upd s 7 1) 8 (s 3)) (by rw [upd_ne _ _ (by omega), upd_ne _ _ (by omega)])
    simp only [pb_e77, hC.2.1, pb_g2, hC.1.1, pb_gx, pb_o_some, true_and, h76, Option.toList_some, List.singleton_append, not_true_eq_false, if_false, nb0]
    exact hQ0 _ _ g c48 F2 C2 ⟨by rw [upd_ne _ _ (by omega), upd_same]; rfl, by rw [upd_same, hS.1]⟩
theorem TC_1 (g : Nat → Int32) : TC (wss g 0 1 8) 0 1 := by
  have h7 : wv (wss g 0 1 8) 0 8 = wu 1 := wss_val _ _ _ 7
  refine Or.inl ⟨by omega, ?_⟩
  rw [h7]
  rfl
/-- Condition.readFactor -/
theorem L77 (hC : CD h V c N n b s f g rel) (hS : TS b n st s)
    (hQ1 : ∀ h' s' g' st1 z, sFac b n st = .inr (st1, z) → fr cS h h' → CD h' V c N n b s' f g' rel → TS b n st1 s' → KF s s' → TC g' 0 z → z.natAbs ≤ 10 ^ 60 → Q (some (.int 1)) h')
    (hQ0 : ∀ h' s' g' e, sFac b n st = .inl e → fr cS h h' → CD h' V c N n b s' f g' rel → FT s' e → Q (some (.int 0)) h') : pb_call 77 [.ref 6] h Q := by
  have hb := hC.1.2.2.2.2.2
  have k120 : s 2 = 120 ↔ tkk b n st = 120 := kd_eq hS hb (m := 120) (by omega)
  have k45 : s 2 = 45 ↔ tkk b n st = 45 := kd_eq hS hb (m := 45) (by omega)
  have k43 : s 2 = 43 ↔ tkk b n st = 43 := kd_eq hS hb (m := 43) (by omega)
  have i10 : ¬ (1 : Int32) = 0 := by decide
  rw [pb_c77]
  by_cases c1 : tkk b n st = 120
  · have q := k120.mpr c1
    have hF : sFac b n st = .inr (st, 1) := by unfold sFac; rw [if_pos c1]
    have h52 := fun Q : Option Value → pb_H → Prop => m52 (Q := Q) (i := 0) (x := 1) hC.2.2.1 (by omega) (by omega)
    have h52' : ∀ Q : Option Value → pb_H → Prop, pb_call 52 [.ref 7, .int 0, .int 1] h Q ↔ Q none (pb_set h 7 (ci 8 (wss g 0 1 8))) := h52
    obtain ⟨C1, F1⟩ := CD_g hC (g' := wss g 0 1 8)
    simp only [pb_e77, hC.2.1, pb_g2, hC.1.1, pb_gx, pb_o_some, true_and, q, not_true_eq_false, if_false, h52', Option.toList_none, List.nil_append, nb1]
    exact hQ1 _ s _ st 1 hF F1 C1 hS ⟨rfl, rfl⟩ (TC_1 g) (by decide)
  · have q : ¬ s 2 = 120 := fun e => c1 (k120.mp e)
    by_cases c2 : tkk b n st = 45
    · have q2 := k45.mpr c2
      have hg1 : (if tkk b n st = 45 ∨ tkk b n st = 43 then nxt b n st else st) = nxt b n st := if_pos (Or.inl c2)
      have q' : ¬ (45 : Int32) = 120 := by decide
      simp only [pb_e77, hC.2.1, pb_g2, hC.1.1, pb_gx, pb_o_some, true_and, q2, q', not_false_eq_true, if_true, not_true_eq_false, if_false, i10]
      refine T23 hC.1 hS (by omega) ?_
      intro s2 T2 S2 k7 k8
      obtain ⟨C2, F2⟩ := CD_s hC (s' := s2) (by rw [T2.2.2.2.2.1, hC.1.2.2.2.2.1])
      suffices key : pb_R 77 64 [some (.ref 6), some (.int (if true = true then 1 else 0))] [] [] (pb_set h 5 (cx (.ref c) s2)) Q by
        simp only [if_true, if_false, Bool.false_eq_true, pb_e77, C2.2.1, pb_g2, pb_o_some, C2.1.1, pb_gx, true_and] at key
        simp only [Option.toList_none, List.nil_append, pb_e77, C2.2.1, pb_g2, pb_o_some, C2.1.1, pb_gx, true_and]
        exact key
      refine L77_64 (bl := true) C2 S2 ?_ ?_
      · intro h3 s3 g3 c48 F3 C3 S3 K3 T3
        have hF : sFac b n st = .inr (nxt b n (nxt b n st), - (tkn b n (nxt b n st) : Int)) := by unfold sFac; rw [if_neg c1, hg1, if_pos c48, if_pos c2]
        have hlt := tkn_lt c48
        exact hQ1 h3 s3 g3 _ _ hF (fr_trans F2 F3) C3 S3 ⟨K3.1.trans k7, K3.2.trans k8⟩ T3 (by omega)
      · intro h3 s3 g3 c48 F3 C3 ft
        have hF : sFac b n st = .inl (1, nxt b n st) := by unfold sFac; rw [if_neg c1, hg1, if_neg c48]
        exact hQ0 h3 s3 g3 _ hF (fr_trans F2 F3) C3 ft
    · have q2 : ¬ s 2 = 45 := fun e => c2 (k45.mp e)
      by_cases c3 : tkk b n st = 43
      · have q3 := k43.mpr c3
        have hg1 : (if tkk b n st = 45 ∨ tkk b n st = 43 then nxt b n st else st) = nxt b n st := if_pos (Or.inr c3)
        have q' : ¬ (43 : Int32) = 120 := by decide
        have q'' : ¬ (43 : Int32) = 45 := by decide
        simp only [pb_e77, hC.2.1, pb_g2, hC.1.1, pb_gx, pb_o_some, true_and, q3, q', q'', not_false_eq_true, if_true, not_true_eq_false, if_false]
        refine T23 hC.1 hS (by omega) ?_
        intro s2 T2 S2 k7 k8
        obtain ⟨C2, F2⟩ := CD_s hC (s' := s2) (by rw [T2.2.2.2.2.1, hC.1.2.2.2.2.1])
        suffices key : pb_R 77 64 [some (.ref 6), some (.int (if false = true then 1 else 0))] [] [] (pb_set h 5 (cx (.ref c) s2)) Q by
          simp only [if_true, if_false, Bool.false_eq_true, pb_e77, C2.2.1, pb_g2, pb_o_some, C2.1.1, pb_gx, true_and] at key
          simp only [Option.toList_none, List.nil_append, pb_e77, C2.2.1, pb_g2, pb_o_some, C2.1.1, pb_gx, true_and]
          exact key
        refine L77_64 (bl := false) C2 S2 ?_ ?_
        · intro h3 s3 g3 c48 F3 C3 S3 K3 T3
          have hF : sFac b n st = .inr (nxt b n (nxt b n st), (tkn b n (nxt b n st) : Int)) := by unfold sFac; rw [if_neg c1, hg1, if_pos c48, if_neg c2]
          have hlt := tkn_lt c48
          exact hQ1 h3 s3 g3 _ _ hF (fr_trans F2 F3) C3 S3 ⟨K3.1.trans k7, K3.2.trans k8⟩ T3 (by omega)
        · intro h3 s3 g3 c48 F3 C3 ft
          have hF : sFac b n st = .inl (1, nxt b n st) := by unfold sFac; rw [if_neg c1, hg1, if_neg c48]
          exact hQ0 h3 s3 g3 _ hF (fr_trans F2 F3) C3 ft
      · have q3 : ¬ s 2 = 43 := fun e => c3 (k43.mp e)
        have hg1 : (if tkk b n st = 45 ∨ tkk b n st = 43 then nxt b n st else st) = st := if_neg (by omega)
        have hst : pb_R 77 0 [some (.ref 6), none] [] [] h Q ↔ pb_R 77 64 [some (.ref 6), some (.int (if false = true then 1 else 0))] [] [] h Q := by
          simp only [pb_e77, hC.2.1, pb_g2, hC.1.1, pb_gx, pb_o_some, true_and, q, q2, q3, not_false_eq_true, if_true, not_true_eq_false, if_false, Bool.false_eq_true]
        rw [hst]
        refine L77_64 (bl := false) hC hS ?_ ?_
        · intro h3 s3 g3 c48 F3 C3 S3 K3 T3
          have hF : sFac b n st = .inr (nxt b n st, (tkn b n st : Int)) := by unfold sFac; rw [if_neg c1, hg1, if_pos c48, if_neg c2]
          have hlt := tkn_lt c48
          exact hQ1 h3 s3 g3 _ _ hF F3 C3 S3 K3 T3 (by omega)
        · intro h3 s3 g3 c48 F3 C3 ft
          have hF : sFac b n st = .inl (1, st) := by unfold sFac; rw [if_neg c1, hg1, if_neg c48]
          exact hQ0 h3 s3 g3 _ hF F3 C3 ft
end CON
