/-! Condition.read -/
theorem Bd_mono {t : Nat → Int} {K L : Nat} (h : Bd t K) (hKL : K ≤ L) : Bd t L := fun u => Nat.le_trans (h u) (Nat.mul_le_mul_right _ hKL)
theorem sFac_le {b : Nat → Nat} {n st st1 : Nat} {z : Int} (hs : st ≤ n) (h : sFac b n st = .inr (st1, z)) : st1 ≤ n ∧ st ≤ st1 ∧ (tkk b n st ≠ 120 → st < st1) := by
  unfold sFac at h
  by_cases c1 : tkk b n st = 120
  · rw [if_pos c1] at h
    injection h with h
    injection h with h1 h2
    subst h1
    exact ⟨hs, Nat.le_refl _, fun q => absurd c1 q⟩
  · rw [if_neg c1] at h
    have hg : (if tkk b n st = 45 ∨ tkk b n st = 43 then nxt b n st else st) ≤ n ∧ st ≤ (if tkk b n st = 45 ∨ tkk b n st = 43 then nxt b n st else st) := by
      by_cases c2 : tkk b n st = 45 ∨ tkk b n st = 43
      · rw [if_pos c2]
        have h0 := nxt_le (b := b) hs (by omega)
        have h1 : st < n := tkk_lt (b := b) (by omega)
        omega
      · rw [if_neg c2]; omega
    generalize (if tkk b n st = 45 ∨ tkk b n st = 43 then nxt b n st else st) = s1 at *
    by_cases c3 : tkk b n s1 = 48
    · rw [if_pos c3] at h
      injection h with h
      injection h with h1 h2
      subst h1
      have h0 := nxt_le (b := b) hg.1 (by omega)
      have h1 : s1 < n := tkk_lt (b := b) (by omega)
      exact ⟨h0.1, by omega, fun _ => by omega⟩
    · rw [if_neg c3] at h
      cases h
theorem sLit_le {b : Nat → Nat} {n V st st1 : Nat} {z : Int} {t t' : Nat → Int} (hs : st ≤ n) (h : sLit b n V st z t = .inr (st1, t')) : st1 ≤ n ∧ st < st1 := by
  unfold sLit at h
  by_cases c1 : tkk b n st = 120
  · rw [if_pos c1] at h
    by_cases c2 : 1 ≤ tkw b n st ∧ tkw b n st ≤ V
    · rw [if_pos c2] at h
      injection h with h
      injection h with h1 h2
      subst h1
      have h0 := nxt_le (b := b) hs (by omega)
      have h1 : st < n := tkk_lt (b := b) (by omega)
      omega
    · rw [if_neg c2] at h; cases h
  · rw [if_neg c1] at h; cases h
section CO3
variable {h : pb_H} {Q : Option Value → pb_H → Prop} {V c N n st : Nat} {b : Nat → Nat} {s : Nat → Int32}
theorem KF_tr {s s' s'' : Nat → Int32} (a : KF s s') (b : KF s' s'') : KF s s'' := ⟨b.1.trans a.1, b.2.trans a.2⟩
theorem L80_loop {rel : Int32} {an : Int32} (hV : V ≤ 16) (hn : n ≤ 4000) : ∀ fu i st t h' s' f g, fu + i = n + 1 → i ≤ st → fr cS h h' → CD h' V c N n b s' f g rel → TS b n st s' → KF s s' → (∀ u, u ≤ V → TC f (u * 8) (t u)) → Bd t i →
    (∀ h2 s2 f2 g2 st1 t1 l2, sTms b n V fu st t = .inr (st1, t1) → fr cS h h2 → CD h2 V c N n b s2 f2 g2 rel → TS b n st1 s2 → KF s s2 → (∀ u, u ≤ V → TC f2 (u * 8) (t1 u)) → Bd t1 (n + 1) → pb_R 80 50 [some (.ref 6), some (.int an), l2] [] [] h2 Q) →
    (∀ h2 s2 f2 g2 e, sTms b n V fu st t = .inl e → fr cS h h2 → CD h2 V c N n b s2 f2 g2 rel → FT s2 e → Q (some (.int 0)) h2) →
    pb_R 80 10 [some (.ref 6), some (.int an), some (.int (nI i))] [] [] h' Q := by
  intro fu
  induction fu with
  | zero =>
    intro i st t h' s' f g hf hi F C S
    have := S.2.2.2.2
    omega
  | succ fu ih =>
    intro i st t h' s' f g hf hi F C S K T B hE hQ0
    have hsn := S.2.2.2.2
    have c1 : ¬ nI n < nI i := nI_nlt (by omega) (by omega)
    have i10 : ¬ (1 : Int32) = 0 := by decide
    have h1 : s' 1 = nI n := C.1.2.2.2.2.1
    by_cases ct : bTm (tkk b n st)
    · have h75 : ∀ Q : Option Value → pb_H → Prop, pb_call 75 [.ref 6] h' Q ↔ Q (some (.int 1)) h' := fun Q => by rw [m75 C S, if_pos ct]
      have hT : sTms b n V (fu + 1) st t = (match sFac b n st with
        | .inl e => .inl e
        | .inr p => match sLit b n V p.1 p.2 t with
          | .inl e => .inl e
          | .inr q => sTms b n V fu q.1 q.2) := by
        show (if _ then _ else _) = _
        rw [if_pos ct]
        rfl
      rw [pb_q80_10]
      simp only [pb_e80, C.2.1, pb_g2, C.1.1, pb_gx, pb_o_some, true_and, h1, c1, if_false, h75, Option.toList_some, List.singleton_append, i10]
      refine L77 C S ?_ ?_
      · intro h2 s2 g2 st1 z hF F2 C2 S2 K2 Tg hz
        obtain ⟨l1, l2, l3⟩ := sFac_le hsn hF
        rw [hF] at hT
        simp only at hT
        simp only [Option.toList_some, List.singleton_append, pb_e80, i10, if_false, C2.2.1, pb_g2, true_and]
        refine L78 hV C2 S2 T B (by omega) Tg hz ?_ ?_
        · intro h3 s3 f3 st2 t2 hL F3 C3 S3 K3 T3 B3
          obtain ⟨m1, m2⟩ := sLit_le l1 hL
          rw [hL] at hT
          simp only at hT
          simp only [Option.toList_some, List.singleton_append, pb_e80, i10, not_false_eq_true, if_true, nI_1]
          refine ih (i + 1) st2 t2 h3 s3 f3 g2 (by omega) (by omega) (fr_trans F (fr_trans F2 F3)) C3 S3 (KF_tr K (KF_tr K2 K3)) T3 B3 ?_ ?_
          · intro h4 s4 f4 g4 st4 t4 l4 hh
            exact hE h4 s4 f4 g4 st4 t4 l4 (by rw [hT]; exact hh)
          · intro h4 s4 f4 g4 e hh
            exact hQ0 h4 s4 f4 g4 e (by rw [hT]; exact hh)
        · intro h3 s3 e hL F3 C3 ft
          rw [hL] at hT
          simp only [Option.toList_some, List.singleton_append, pb_e80, not_true_eq_false, if_false, nb0, true_and]
          exact hQ0 h3 s3 f g2 e hT (fr_trans F (fr_trans F2 F3)) C3 ft
      · intro h2 s2 g2 e hF F2 C2 ft
        rw [hF] at hT
        simp only [Option.toList_some, List.singleton_append, pb_e80, if_true, nb0, true_and]
        exact hQ0 h2 s2 f g2 e hT (fr_trans F F2) C2 ft
    · have h75 : ∀ Q : Option Value → pb_H → Prop, pb_call 75 [.ref 6] h' Q ↔ Q (some (.int 0)) h' := fun Q => by rw [m75 C S, if_neg ct]
      have hT : sTms b n V (fu + 1) st t = .inr (st, t) := by
        show (if _ then _ else _) = _
        rw [if_neg ct]
      have hh := hE h' s' f g st t (some (.int (nI i))) hT F C S K T (Bd_mono B (by omega))
      have s1 : pb_R 80 10 [some (.ref 6), some (.int an), some (.int (nI i))] [] [] h' Q ↔ pb_R 80 50 [some (.ref 6), some (.int an), some (.int (nI i))] [] [] h' Q := by
        rw [pb_q80_10]
        simp only [pb_e80, C.2.1, pb_g2, C.1.1, pb_gx, pb_o_some, true_and, h1, c1, if_false, h75, Option.toList_some, List.singleton_append, if_true]
      exact s1.mpr hh
/-- Condition.read -/
theorem L80 {rel : Int32} {f g : Nat → Int32} {any : Bool} (hV : V ≤ 16) (hC : CD h V c N n b s f g rel) (hS : TS b n st s)
    (hQ1 : ∀ h' s' f' g' st1 k t, sCnd b n V any st = .inr (st1, k, t) → fr cS h h' → CD h' V c N n b s' f' g' (nI k) → TS b n st1 s' → KF s s' → (∀ u, u ≤ V → TC f' (u * 8) (t u)) → Bd t 4500 → Q (some (.int 1)) h')
    (hQ0 : ∀ h' s' f' g' rel' e, sCnd b n V any st = .inl e → fr cS h h' → CD h' V c N n b s' f' g' rel' → FT s' e → Q (some (.int 0)) h') : pb_call 80 [.ref 6, .int (if any = true then 1 else 0)] h Q := by
  have hn : n ≤ 4000 := Nat.le_trans hC.1.2.2.1 hC.1.2.2.2.1
  have hb := hC.1.2.2.2.2.2
  have h24 := fun Q : Option Value → pb_H → Prop => m24 (Q := Q) (x := 0) hC.2.2.2.1 (by omega)
  obtain ⟨C0, F0⟩ := CD_f hC (f' := fun z => if z < (V + 1) * 8 then 0 else f z)
  have hT0 : ∀ u, u ≤ V → TC (fun z => if z < (V + 1) * 8 then (0 : Int32) else f z) (u * 8) ((fun _ => (0 : Int)) u) := fun u hu => Or.inl ⟨Int.le_refl _, by
    rw [wv_of_zero (fun i hi => if_pos (by omega))]
    rfl⟩
  have i10 : ¬ (1 : Int32) = 0 := by decide
  rw [pb_c80]
  simp only [pb_e80, hC.2.1, pb_g2, pb_o_some, true_and, h24, Option.toList_none, List.nil_append]
  refine L80_loop (s := s) hV hn (n + 1) 0 st (fun _ => 0) _ s _ g (by omega) (by omega) F0 C0 hS ⟨rfl, rfl⟩ hT0 (fun u => Nat.zero_le _) ?_ ?_
  · intro h2 s2 f2 g2 st1 t1 l2 hTm F2 C2 S2 K2 T2 B2
    obtain ⟨C3, F3⟩ := CD_r C2 (rel' := s2 2)
    rw [S2.2.1] at C3 F3
    have k62 : nI (tkk b n st1) = 62 ↔ tkk b n st1 = 62 := nI_eq (b := 62) (by have := tkk_256 (n := n) hb st1; omega) (by omega)
    have h79 := fun Q : Option Value → pb_H → Prop => m79 (Q := Q) C3.2.1 (tkk_256 hb st1)
    have hCn : sCnd b n V any st = if sRl any (tkk b n st1) then
      (if tkk b n (nxt b n st1) = 120 then .inl (1, nxt b n st1) else match sFac b n (nxt b n st1) with
        | .inl e => .inl e
        | .inr q => if tkk b n q.1 = 59 then .inr (q.1, tkk b n st1, fun u => if u = 0 then t1 u + q.2 else t1 u) else .inl (1, q.1))
      else .inl (1, st1) := by
      unfold sCnd
      rw [hTm]
      rfl
    have hgo : pb_R 80 50 [some (.ref 6), some (.int (if any = true then 1 else 0)), l2] [] [] h2 Q ↔ if sRl any (tkk b n st1) then pb_R 80 90 [some (.ref 6), some (.int (if any = true then 1 else 0)), l2] [] [] (pb_set h2 6 (cco V (nI (tkk b n st1)))) Q else pb_R 80 81 [some (.ref 6), some (.int (if any = true then 1 else 0)), l2] [] [] (pb_set h2 6 (cco V (nI (tkk b n st1)))) Q := by
      by_cases c1 : tkk b n st1 = 62
      · have q := k62.mpr c1
        rw [if_pos (Or.inl c1)]
        rw [q] at C3 ⊢
        have s22 : s2 2 = 62 := by rw [S2.2.1, q]
        simp only [pb_e80, C2.2.1, pb_g2, C2.1.1, pb_gx, pb_o_some, true_and, s22, C3.2.1, if_true]
      · have q : ¬ nI (tkk b n st1) = 62 := fun e => c1 (k62.mp e)
        cases any
        · have hno : ¬ sRl false (tkk b n st1) := fun w => by
            rcases w with e | e
            · exact c1 e
            · exact absurd e.1 (by decide)
          rw [if_neg hno]
          simp only [pb_e80, C2.2.1, pb_g2, C2.1.1, pb_gx, pb_o_some, true_and, S2.2.1, C3.2.1, q, if_false, Bool.false_eq_true, if_true]
        · by_cases c2 : tkk b n st1 = 60 ∨ tkk b n st1 = 61
          · have h79' : ∀ Q : Option Value → pb_H → Prop, pb_call 79 [.ref 6] (pb_set h2 6 (cco V (nI (tkk b n st1)))) Q ↔ Q (some (.int 1)) (pb_set h2 6 (cco V (nI (tkk b n st1)))) := fun Q => by rw [h79, if_pos c2]
            rw [if_pos (Or.inr ⟨rfl, c2⟩)]
            simp only [pb_e80, C2.2.1, pb_g2, C2.1.1, pb_gx, pb_o_some, true_and, S2.2.1, C3.2.1, q, if_false, if_true, i10, h79', Option.toList_some, List.singleton_append, not_false_eq_true]
          · have h79' : ∀ Q : Option Value → pb_H → Prop, pb_call 79 [.ref 6] (pb_set h2 6 (cco V (nI (tkk b n st1)))) Q ↔ Q (some (.int 0)) (pb_set h2 6 (cco V (nI (tkk b n st1)))) := fun Q => by rw [h79, if_neg c2]
            have hno : ¬ sRl true (tkk b n st1) := fun w => by
              rcases w with e | e
              · exact c1 e
              · exact c2 e.2
            rw [if_neg hno]
            simp only [pb_e80, C2.2.1, pb_g2, C2.1.1, pb_gx, pb_o_some, true_and, S2.2.1, C3.2.1, q, if_false, if_true, i10, h79', Option.toList_some, List.singleton_append, not_true_eq_false]
    rw [hgo]
    by_cases cr : sRl any (tkk b n st1)
    · rw [if_pos cr] at hCn ⊢
      have hk1 : tkk b n st1 ≠ 1 := by
        intro e
        rw [e] at cr
        unfold sRl at cr
        omega
      simp only [pb_e80, C3.2.1, pb_g2, C3.1.1, pb_gx, pb_o_some, true_and]
      refine T23 C3.1 S2 hk1 ?_
      intro s4 T4 S4 k7 k8
      obtain ⟨C4, F4⟩ := CD_s C3 (s' := s4) (by rw [T4.2.2.2.2.1, C3.1.2.2.2.2.1])
      have k120 : s4 2 = 120 ↔ tkk b n (nxt b n st1) = 120 := kd_eq S4 hb (m := 120) (by omega)
      by_cases c5 : tkk b n (nxt b n st1) = 120
      · rw [if_pos c5] at hCn
        have q := k120.mpr c5
        have h29 := fun Q : Option Value → pb_H → Prop => m29 (Q := Q) (f := 1) C4.1.1
        obtain ⟨C5, F5⟩ := CD_s C4 (s' := upd (upd s4 7 1) 8 (s4 3)) (by rw [upd_ne _ _ (by omega), upd_ne _ _ (by omega)])
        simp only [Option.toList_none, List.nil_append, pb_e80, C4.2.1, pb_g2, C4.1.1, pb_gx, pb_o_some, true_and, q, not_true_eq_false, if_false, h29, Option.toList_some, List.singleton_append, nb0]
        exact hQ0 _ _ f2 g2 _ _ hCn (fr_trans F2 (fr_trans F3 (fr_trans F4 F5))) C5 ⟨by rw [upd_ne _ _ (by omega), upd_same]; rfl, by rw [upd_same, S4.1]⟩
      · rw [if_neg c5] at hCn
        have q : ¬ s4 2 = 120 := fun e => c5 (k120.mp e)
        simp only [Option.toList_none, List.nil_append, pb_e80, C4.2.1, pb_g2, C4.1.1, pb_gx, pb_o_some, true_and, q, not_false_eq_true, if_true]
        refine L77 C4 S4 ?_ ?_
        · intro h5 s5 g5 st5 z hF F5 C5 S5 K5 Tg hz
          rw [hF] at hCn
          simp only at hCn
          have h59 : ∀ Q : Option Value → pb_H → Prop, pb_call 59 [.ref 8, .int 0, .ref 7, .int 0, .int 8] h5 Q ↔ Q (some (.int (nI (wa f2 g5 0 0 8).2))) (pb_set h5 8 (ci ((V + 1) * 8) (wa f2 g5 0 0 8).1)) := fun Q => m59 (i := 0) (j := 0) (W := 8) C5.2.2.2.1 C5.2.2.1 (fun e => by omega) (by omega) (by omega) (by omega) (by omega)
          obtain ⟨C6, F6⟩ := CD_f C5 (f' := (wa f2 g5 0 0 8).1)
          have hFr : fr cS h (pb_set h5 8 (ci ((V + 1) * 8) (wa f2 g5 0 0 8).1)) := fr_trans F2 (fr_trans F3 (fr_trans F4 (fr_trans F5 F6)))
          have k59 : s5 2 = 59 ↔ tkk b n st5 = 59 := kd_eq S5 hb (m := 59) (by omega)
          by_cases c6 : tkk b n st5 = 59
          · rw [if_pos c6] at hCn
            have h76 := m76_1 C6.1.1 (k59.mpr c6)
            simp only [Option.toList_some, List.singleton_append, pb_e80, i10, not_false_eq_true, if_true, C5.2.1, pb_g2, pb_o_some, true_and, h59, C6.2.1, C6.1.1, pb_gx, h76, nb1]
            refine hQ1 _ s5 _ g5 _ _ _ hCn hFr C6 S5 (KF_tr K2 (KF_tr ⟨k7, k8⟩ K5)) (fun u hu => ?_) (fun u => ?_)
            · by_cases u0 : u = 0
              · subst u0
                rw [Nat.zero_mul]
                show TC _ 0 (if (0 : Nat) = 0 then t1 0 + z else t1 0)
                rw [if_pos rfl]
                have h0 := T2 0 (by omega)
                rw [Nat.zero_mul] at h0
                exact TC_add h0 Tg (Bd_lt B2 (by omega) 0) (z_lt hz)
              · show TC _ (u * 8) (if u = 0 then t1 u + z else t1 u)
                rw [if_neg u0]
                exact TC_congr (fun i hi => wa_out _ _ _ _ _ _ (by omega)) (T2 u hu)
            · have b1 := B2 u
              have b2 : (n + 1) * 10 ^ 60 + 10 ^ 60 ≤ 4500 * 10 ^ 60 := by
                have : (n + 1 + 1) * 10 ^ 60 ≤ 4500 * 10 ^ 60 := Nat.mul_le_mul_right _ (by omega)
                rw [Nat.add_mul (n + 1), Nat.one_mul] at this
                exact this
              show Int.natAbs (if u = 0 then t1 u + z else t1 u) ≤ _
              generalize 10 ^ 60 = P at *
              split <;> omega
          · rw [if_neg c6] at hCn
            have h76 := m76_0 C6.1.1 (fun e => c6 (k59.mp e))
            obtain ⟨C7, F7⟩ := CD_s C6 (s' := upd (upd s5 7 1) 8 (s5 3)) (by rw [upd_ne _ _ (by omega), upd_ne _ _ (by omega)])
            simp only [Option.toList_some, List.singleton_append, pb_e80, i10, not_false_eq_true, if_true, C5.2.1, pb_g2, pb_o_some, true_and, h59, C6.2.1, C6.1.1, pb_gx, h76, nb0]
            exact hQ0 _ _ _ g5 _ _ hCn (fr_trans hFr F7) C7 ⟨by rw [upd_ne _ _ (by omega), upd_same]; rfl, by rw [upd_same, S5.1]⟩
        · intro h5 s5 g5 e hF F5 C5 ft
          rw [hF] at hCn
          simp only [Option.toList_some, List.singleton_append, pb_e80, not_true_eq_false, if_false, nb0, true_and]
          exact hQ0 _ _ f2 g5 _ _ hCn (fr_trans F2 (fr_trans F3 (fr_trans F4 F5))) C5 ft
    · rw [if_neg cr] at hCn ⊢
      have h29 := fun Q : Option Value → pb_H → Prop => m29 (Q := Q) (f := 1) C3.1.1
      obtain ⟨C5, F5⟩ := CD_s C3 (s' := upd (upd s2 7 1) 8 (s2 3)) (by rw [upd_ne _ _ (by omega), upd_ne _ _ (by omega)])
      simp only [pb_e80, C3.2.1, pb_g2, pb_o_some, C3.1.1, pb_gx, true_and, h29, Option.toList_some, List.singleton_append, nb0]
      exact hQ0 _ _ f2 g2 _ _ hCn (fr_trans F2 (fr_trans F3 F5)) C5 ⟨by rw [upd_ne _ _ (by omega), upd_same]; rfl, by rw [upd_same, S2.1]⟩
  · intro h2 s2 f2 g2 e hTm F2 C2 ft
    have hCn : sCnd b n V any st = .inl e := by unfold sCnd; rw [hTm]
    exact hQ0 h2 s2 f2 g2 rel e hCn F2 C2 ft
end CO3
