/-! Condition: addLiteral, beginsTerm, isOtherRelation, read -/
def Bd (t : Nat → Int) (K : Nat) : Prop := ∀ u, (t u).natAbs ≤ K * 10 ^ 60
theorem Bd_add {t : Nat → Int} {K v : Nat} {z : Int} {pos : Prop} [Decidable pos] (h : Bd t K) (hz : z.natAbs ≤ 10 ^ 60) : Bd (addt t v pos z) (K + 1) := by
  intro u
  have h1 := h u
  rw [Nat.add_mul, Nat.one_mul]
  generalize 10 ^ 60 = P at *
  unfold addt
  by_cases e : u = v
  · rw [if_pos e]
    split <;> omega
  · rw [if_neg e]
    split <;> omega
theorem Bd_lt {t : Nat → Int} {K : Nat} (h : Bd t K) (hK : K ≤ 5000) (u : Nat) : (t u).natAbs < 4294967296 ^ 7 := by
  have h1 := h u
  have h2 : K * 10 ^ 60 ≤ 5000 * 10 ^ 60 := Nat.mul_le_mul_right _ hK
  have h3 : 5000 * 10 ^ 60 < 4294967296 ^ 7 := by decide
  exact Nat.lt_of_le_of_lt (Nat.le_trans h1 h2) h3
theorem Bd_64 {t : Nat → Int} {K : Nat} (h : Bd t K) (hK : K ≤ 5000) (u : Nat) : (t u).natAbs < 10 ^ 64 := by
  have h1 := h u
  have h2 : K * 10 ^ 60 ≤ 5000 * 10 ^ 60 := Nat.mul_le_mul_right _ hK
  have h3 : 5000 * 10 ^ 60 < 10 ^ 64 := by decide
  exact Nat.lt_of_le_of_lt (Nat.le_trans h1 h2) h3
theorem z_lt {z : Int} (hz : z.natAbs ≤ 10 ^ 60) : z.natAbs < 4294967296 ^ 7 := Nat.lt_of_le_of_lt hz (by decide)
section CO2
variable {h : pb_H} {Q : Option Value → pb_H → Prop} {V c N n st : Nat} {b : Nat → Nat} {s f g : Nat → Int32} {rel : Int32} {t : Nat → Int} {z : Int} {K : Nat}
/-- Condition.addLiteral -/
theorem L78 (hV : V ≤ 16) (hC : CD h V c N n b s f g rel) (hS : TS b n st s) (hf : ∀ u, u ≤ V → TC f (u * 8) (t u)) (hBd : Bd t K) (hK : K ≤ 4500) (hg : TC g 0 z) (hz : z.natAbs ≤ 10 ^ 60)
    (hQ1 : ∀ h' s' f' st2 t', sLit b n V st z t = .inr (st2, t') → fr cS h h' → CD h' V c N n b s' f' g rel → TS b n st2 s' → KF s s' → (∀ u, u ≤ V → TC f' (u * 8) (t' u)) → Bd t' (K + 1) → Q (some (.int 1)) h')
    (hQ0 : ∀ h' s' e, sLit b n V st z t = .inl e → fr cS h h' → CD h' V c N n b s' f g rel → FT s' e → Q (some (.int 0)) h') : pb_call 78 [.ref 6] h Q := by
  have hb := hC.1.2.2.2.2.2
  have k120 : s 2 = 120 ↔ tkk b n st = 120 := kd_eq hS hb (m := 120) (by omega)
  have i10 : ¬ (1 : Int32) = 0 := by decide
  rw [pb_c78]
  by_cases c1 : tkk b n st = 120
  · have h76 := m76_1 hC.1.1 (k120.mpr c1)
    obtain ⟨s5, s6⟩ := hS.2.2.2.1 c1
    have hwl := tkw_lt c1
    have h50 := fun Q : Option Value → pb_H → Prop => m50 (Q := Q) (V := V) hC.1.1 s5 (by omega) (by omega)
    by_cases c2 : 1 ≤ tkw b n st ∧ tkw b n st ≤ V
    · have h50' : ∀ Q : Option Value → pb_H → Prop, pb_call 50 [.ref 5, .int (nI V)] h Q ↔ Q (some (.int 1)) h := fun Q => by rw [h50, if_pos c2]
      have hL : sLit b n V st z t = .inr (nxt b n st, addt t (tkw b n st) (b st = 120) z) := by unfold sLit; rw [if_pos c1, if_pos c2]
      have hBd' : Bd (addt t (tkw b n st) (b st = 120) z) (K + 1) := Bd_add hBd hz
      have hzl := z_lt hz
      have htl := fun u => Bd_lt hBd (by omega) u
      have e8 : nI (tkw b n st) * 8 = nI (tkw b n st * 8) := pk_mul _ 8
      generalize tkw b n st = v at *
      have hfin : ∀ f', (∀ u, u ≤ V → TC f' (u * 8) (addt t v (b st = 120) z u)) → pb_call 23 [.ref 5] (pb_set h 8 (ci ((V + 1) * 8) f')) (fun v1 t => pb_R 78 117 [some (.ref 6), some (.int (nI (v * 8)))] [] (.int 1 :: v1.toList) t Q) := by
        intro f' hf'
        obtain ⟨C1, F1⟩ := CD_f hC (f' := f')
        refine T23 C1.1 hS (by omega) ?_
        intro s2 T2 S2 k7 k8
        obtain ⟨C2, F2⟩ := CD_s C1 (s' := s2) (by rw [T2.2.2.2.2.1, hC.1.2.2.2.2.1])
        simp only [Option.toList_none, pb_e78, nb1, true_and]
        exact hQ1 _ s2 f' _ _ hL (fr_trans F1 F2) C2 S2 ⟨k7, k8⟩ hf' hBd'
      have hR6 : ∀ z, (pb_set h 8 z).2 6 = cco V rel := fun z => by rw [pb_set_get, if_neg (by omega), hC.2.1]
      have hR5 : ∀ z, (pb_set h 8 z).2 5 = cx (.ref c) s := fun z => by rw [pb_set_get, if_neg (by omega), hC.1.1]
      have hR7 : ∀ z, (pb_set h 8 z).2 7 = ci 8 g := fun z => by rw [pb_set_get, if_neg (by omega), hC.2.2.1]
      have hR8 : ∀ z, (pb_set h 8 z).2 8 = z := fun z => by rw [pb_set_get, if_pos rfl]
      by_cases c3 : b st = 120
      · have hs6 : ¬ s 6 ≤ 0 := by rw [s6, if_pos c3]; decide
        have h59 : ∀ Q : Option Value → pb_H → Prop, pb_call 59 [.ref 8, .int (nI (v * 8)), .ref 7, .int 0, .int 8] h Q ↔ Q (some (.int (nI (wa f g (v * 8) 0 8).2))) (pb_set h 8 (ci ((V + 1) * 8) (wa f g (v * 8) 0 8).1)) := fun Q => m59 (j := 0) (W := 8) hC.2.2.2.1 hC.2.2.1 (fun e => by omega) (by omega) (by omega) (by omega) (by omega)
        have hh := hfin (wa f g (v * 8) 0 8).1 (fun u hu => ?_)
        · simp only [pb_e78, hC.2.1, pb_g2, hC.1.1, pb_gx, pb_o_some, true_and, h76, Option.toList_some, List.singleton_append, i10, not_false_eq_true, if_true, h50', s5, e8, hs6, if_false, h59, hR6, hR5, List.append_nil]
          exact hh
        · unfold addt
          by_cases e : u = v
          · subst e
            rw [if_pos rfl, if_pos c3]
            exact TC_add (hf u hu) hg (htl u) hzl
          · rw [if_neg e, if_neg (by rintro ⟨_, q⟩; exact q c3)]
            exact TC_congr (fun i hi => wa_out _ _ _ _ _ _ (by omega)) (hf u hu)
      · have hs6 : s 6 ≤ 0 := by rw [s6, if_neg c3]; decide
        have h51 : ∀ Q : Option Value → pb_H → Prop, pb_call 51 [.ref 8, .int (nI (v * 8)), .ref 7, .int 0, .int 8] h Q ↔ Q (some (.int (nI (wsb f g (v * 8) 0 8).2))) (pb_set h 8 (ci ((V + 1) * 8) (wsb f g (v * 8) 0 8).1)) := fun Q => m51 (j := 0) (W := 8) hC.2.2.2.1 hC.2.2.1 (fun e => by omega) (by omega) (by omega) (by omega) (by omega)
        have h51' : ∀ Q : Option Value → pb_H → Prop, pb_call 51 [.ref 8, .int 0, .ref 7, .int 0, .int 8] (pb_set h 8 (ci ((V + 1) * 8) (wsb f g (v * 8) 0 8).1)) Q ↔ Q (some (.int (nI (wsb (wsb f g (v * 8) 0 8).1 g 0 0 8).2))) (pb_set h 8 (ci ((V + 1) * 8) (wsb (wsb f g (v * 8) 0 8).1 g 0 0 8).1)) := fun Q => by
          have := m51 (Q := Q) (h := pb_set h 8 (ci ((V + 1) * 8) (wsb f g (v * 8) 0 8).1)) (i := 0) (j := 0) (W := 8) (hR8 _) (hR7 _) (fun e => by omega) (by omega) (by omega) (by omega) (by omega)
          rw [pb_set_same] at this
          exact this
        have hh := hfin (wsb (wsb f g (v * 8) 0 8).1 g 0 0 8).1 (fun u hu => ?_)
        · simp only [pb_e78, hC.2.1, pb_g2, hC.1.1, pb_gx, pb_o_some, true_and, h76, Option.toList_some, List.singleton_append, i10, not_false_eq_true, if_true, h50', s5, e8, hs6, h51, hR6, hR5, h51', List.append_nil]
          exact hh
        · unfold addt
          by_cases e : u = v
          · subst e
            rw [if_pos rfl, if_neg c3]
            exact TC_congr (fun i hi => wsb_out _ _ _ _ _ _ (by omega)) (TC_sub (hf u hu) hg (htl u) hzl)
          · rw [if_neg e]
            by_cases u0 : u = 0
            · subst u0
              rw [if_pos ⟨rfl, c3⟩]
              have h0 : TC (wsb f g (v * 8) 0 8).1 0 (t 0) := TC_congr (fun i hi => wsb_out _ _ _ _ _ _ (by omega)) (by have := hf 0 (by omega); rwa [Nat.zero_mul] at this)
              have := TC_sub h0 hg (htl 0) hzl
              rw [Nat.zero_mul]
              exact this
            · rw [if_neg (by rintro ⟨q, _⟩; exact u0 q)]
              exact TC_congr (fun i hi => by rw [wsb_out _ _ _ _ _ _ (by omega), wsb_out _ _ _ _ _ _ (by omega)]) (hf u hu)
    · have h50' : ∀ Q : Option Value → pb_H → Prop, pb_call 50 [.ref 5, .int (nI V)] h Q ↔ Q (some (.int 0)) h := fun Q => by rw [h50, if_neg c2]
      have h29 := fun Q : Option Value → pb_H → Prop => m29 (Q := Q) (f := 2) hC.1.1
      have hL : sLit b n V st z t = .inl (2, st) := by unfold sLit; rw [if_pos c1, if_neg c2]
      obtain ⟨C2, F2⟩ := CD_s hC (s' := upd (upd s 7 2) 8 (s 3)) (by rw [upd_ne _ _ (by omega), upd_ne _ _ (by omega)])
      simp only [pb_e78, hC.2.1, pb_g2, hC.1.1, pb_gx, pb_o_some, true_and, h76, Option.toList_some, List.singleton_append, i10, not_false_eq_true, if_true, h50', not_true_eq_false, if_false, h29, nb0]
      exact hQ0 _ _ _ hL F2 C2 ⟨by rw [upd_ne _ _ (by omega), upd_same]; rfl, by rw [upd_same, hS.1]⟩
  · have h76 := m76_0 hC.1.1 (fun e => c1 (k120.mp e))
    have hL : sLit b n V st z t = .inl (1, st) := by unfold sLit; rw [if_neg c1]
    obtain ⟨C2, F2⟩ := CD_s hC (s' := upd (upd s 7 1) 8 (s 3)) (by rw [upd_ne _ _ (by omega), upd_ne _ _ (by omega)])
    simp only [pb_e78, hC.2.1, pb_g2, hC.1.1, pb_gx, pb_o_some, true_and, h76, Option.toList_some, List.singleton_append, not_true_eq_false, if_false, nb0]
    exact hQ0 _ _ _ hL F2 C2 ⟨by rw [upd_ne _ _ (by omega), upd_same]; rfl, by rw [upd_same, hS.1]⟩
theorem m75 (hC : CD h V c N n b s f g rel) (hS : TS b n st s) : pb_call 75 [.ref 6] h Q ↔ Q (some (.int (if bTm (tkk b n st) then 1 else 0))) h := by
  have hb := hC.1.2.2.2.2.2
  have k120 : s 2 = 120 ↔ tkk b n st = 120 := kd_eq hS hb (m := 120) (by omega)
  have k48 : s 2 = 48 ↔ tkk b n st = 48 := kd_eq hS hb (m := 48) (by omega)
  have k43 : s 2 = 43 ↔ tkk b n st = 43 := kd_eq hS hb (m := 43) (by omega)
  have k45 : s 2 = 45 ↔ tkk b n st = 45 := kd_eq hS hb (m := 45) (by omega)
  rw [pb_c75]
  simp only [pb_e75, hC.2.1, pb_g2, hC.1.1, pb_gx, pb_o_some, true_and, k120, k48, k43, k45, nb0, nb1]
  by_cases c1 : tkk b n st = 120
  · simp [c1, bTm]
  · by_cases c2 : tkk b n st = 48
    · simp [c2, bTm]
    · by_cases c3 : tkk b n st = 43
      · simp [c3, bTm]
      · by_cases c4 : tkk b n st = 45
        · simp [c4, bTm]
        · simp [c1, c2, c3, c4, bTm]
theorem m79 {k : Nat} (h6 : h.2 6 = cco V (nI k)) (hk : k < 256) : pb_call 79 [.ref 6] h Q ↔ Q (some (.int (if k = 60 ∨ k = 61 then 1 else 0))) h := by
  have k60 : nI k = 60 ↔ k = 60 := nI_eq (b := 60) (by omega) (by omega)
  have k61 : nI k = 61 ↔ k = 61 := nI_eq (b := 61) (by omega) (by omega)
  rw [pb_c79]
  simp only [pb_e79, h6, pb_g2, pb_o_some, true_and, k60, k61, nb0, nb1]
  by_cases c1 : k = 60
  · simp [c1]
  · by_cases c2 : k = 61
    · simp [c2]
    · simp [c1, c2]
end CO2
