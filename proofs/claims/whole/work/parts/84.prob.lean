/-! PROBLEMS: what they say; the reference's problems -/
def lput (X : Nat → LN) (m : Nat) (x : LN) : Nat → LN := fun i => if i = m then x else X i
def sPrb (b : Nat → Nat) (n V : Nat) : Nat → Nat → Nat → (Nat → LN) → Sum FL (Nat × (Nat → LN))
  | 0, _, m, X => .inr (m, X)
  | f + 1, st, m, X => if tkk b n st = 0 then .inr (m, X) else match sCnd b n V true st with
    | .inl e => .inl e
    | .inr p => if 40 < m + (if p.2.1 = 61 then 2 else 1) then .inl (5, p.1)
      else if p.2.1 = 62 then sPrb b n V f (nxt b n p.1) (m + 1) (lput X m (ln_of V p.2.2))
      else if p.2.1 = 60 then sPrb b n V f (nxt b n p.1) (m + 1) (lput X m (ln_of V (fun u => - p.2.2 u)))
      else sPrb b n V f (nxt b n p.1) (m + 2) (lput (lput X m (ln_of V p.2.2)) (m + 1) (ln_of V (fun u => - p.2.2 u)))
theorem sTms_le {b : Nat → Nat} {n V : Nat} : ∀ {f st : Nat} {t : Nat → Int} {st1 : Nat} {t1 : Nat → Int}, st ≤ n → sTms b n V f st t = .inr (st1, t1) → st ≤ st1 ∧ st1 ≤ n
  | 0, st, t, st1, t1, hs, h => by
    have h' : Sum.inr (st, t) = (Sum.inr (st1, t1) : Sum FL (Nat × (Nat → Int))) := h
    injection h' with h'
    injection h' with h1 h2
    omega
  | f + 1, st, t, st1, t1, hs, h => by
    have h' : (if bTm (tkk b n st) then (match sFac b n st with
      | .inl e => .inl e
      | .inr p => match sLit b n V p.1 p.2 t with
        | .inl e => .inl e
        | .inr q => sTms b n V f q.1 q.2) else .inr (st, t)) = (Sum.inr (st1, t1) : Sum FL (Nat × (Nat → Int))) := h
    by_cases c : bTm (tkk b n st)
    · rw [if_pos c] at h'
      cases hF : sFac b n st with
      | inl e => rw [hF] at h'; cases h'
      | inr p =>
        rw [hF] at h'
        obtain ⟨s1, z⟩ := p
        obtain ⟨w1, w2, _⟩ := sFac_le hs hF
        simp only at h'
        cases hL : sLit b n V s1 z t with
        | inl e => rw [hL] at h'; cases h'
        | inr q =>
          rw [hL] at h'
          obtain ⟨s2, t2⟩ := q
          obtain ⟨m1, m2⟩ := sLit_le w1 hL
          simp only at h'
          obtain ⟨r1, r2⟩ := sTms_le m1 h'
          omega
    · rw [if_neg c] at h'
      injection h' with h'
      injection h' with h1 h2
      omega
theorem sCnd_le {b : Nat → Nat} {n V st st1 k : Nat} {any : Bool} {t : Nat → Int} (hs : st ≤ n) (h : sCnd b n V any st = .inr (st1, k, t)) : st ≤ st1 ∧ st1 ≤ n ∧ tkk b n st1 = 59 ∧ sRl any k := by
  unfold sCnd at h
  cases hT : sTms b n V (n + 1) st (fun _ => 0) with
  | inl e => rw [hT] at h; cases h
  | inr p =>
    rw [hT] at h
    obtain ⟨s1, t1⟩ := p
    obtain ⟨w1, w2⟩ := sTms_le hs hT
    simp only at h
    by_cases c : sRl any (tkk b n s1)
    · rw [if_pos c] at h
      have hk1 : tkk b n s1 ≠ 1 := by
        intro e
        rw [e] at c
        unfold sRl at c
        omega
      obtain ⟨x1, x2⟩ := nxt_le w2 hk1
      have hlt : s1 < n := tkk_lt (b := b) (by
        intro e
        rw [e] at c
        unfold sRl at c
        omega)
      by_cases c2 : tkk b n (nxt b n s1) = 120
      · rw [if_pos c2] at h; cases h
      · rw [if_neg c2] at h
        cases hF : sFac b n (nxt b n s1) with
        | inl e => rw [hF] at h; cases h
        | inr q =>
          rw [hF] at h
          obtain ⟨s2, z⟩ := q
          obtain ⟨y1, y2, _⟩ := sFac_le x1 hF
          simp only at h
          by_cases c3 : tkk b n s2 = 59
          · rw [if_pos c3] at h
            injection h with h
            injection h with h1 h2
            injection h2 with h2 h3
            subst h1 h2
            exact ⟨by omega, y1, c3, c⟩
          · rw [if_neg c3] at h; cases h
    · rw [if_neg c] at h; cases h
/-- sCnd in the reference's order -/
theorem sCnd_ref {b : Nat → Nat} {n V st : Nat} {any : Bool} : sCnd b n V any st = match sTms b n V (n + 1) st (fun _ => 0) with
    | .inl e => .inl e
    | .inr p => if sRl any (tkk b n p.1) then (match sBnd b n (nxt b n p.1) p.2 with
        | .inl e => .inl e
        | .inr q => .inr (q.1, tkk b n p.1, q.2)) else .inl (1, p.1) := by
  unfold sCnd sBnd
  cases sTms b n V (n + 1) st (fun _ => 0) with
  | inl e => rfl
  | inr p =>
    simp only
    by_cases c : sRl any (tkk b n p.1)
    · rw [if_pos c, if_pos c]
      by_cases c2 : tkk b n (nxt b n p.1) = 120
      · rw [if_pos c2, if_pos c2]
      · rw [if_neg c2, if_neg c2]
        cases sFac b n (nxt b n p.1) with
        | inl e => rfl
        | inr q =>
          simp only
          by_cases c3 : tkk b n q.1 = 59
          · rw [if_pos c3, if_pos c3]
          · rw [if_neg c3, if_neg c3]
    · rw [if_neg c, if_neg c]
theorem tk3 {b : Nat → Nat} {n st : Nat} (q : kR (tkk b n st) = 3) : st < n ∧ tkk b n st = b st := by
  have hlt : st < n := tkk_lt (b := b) (fun z => by rw [z] at q; exact absurd q (by decide))
  refine ⟨hlt, ?_⟩
  unfold tkk at q ⊢
  rw [if_neg (by omega)] at q ⊢
  by_cases cd : dgt (b st)
  · rw [if_pos cd] at q
    split at q <;> exact absurd q (by decide)
  · rw [if_neg cd] at q ⊢
    by_cases c1 : b st = 120
    · rw [if_pos c1] at q
      split at q <;> exact absurd q (by decide)
    · rw [if_neg c1] at q ⊢
      by_cases c2 : b st = 126 ∧ sb b n (st + 1) = 120
      · rw [if_pos c2] at q
        split at q <;> exact absurd q (by decide)
      · rw [if_neg c2] at q ⊢
        by_cases c3 : b st = 62 ∨ b st = 60
        · rw [if_pos c3] at q ⊢
          by_cases c4 : sb b n (st + 1) = 61
          · rw [if_pos c4]
          · rw [if_neg c4] at q; exact absurd q (by decide)
        · rw [if_neg c3] at q ⊢
          by_cases c5 : sow (b st)
          · rw [if_pos c5]
          · rw [if_neg c5] at q; exact absurd q (by decide)
section PRB
variable {h : pb_H} {Q : Option Value → pb_H → Prop} {V n st : Nat} {b : Nat → Nat} {s sg : Nat → Int32} {G : Nat → Nat}
abbrev sgS : Nat → Prop := fun i => (5372 ≤ i ∧ i < 5406) ∨ (5440 ≤ i ∧ i < 6137)
/-- staged: rows 321 and on -/
def RG (V : Nat) (G : Nat → Nat) (sg : Nat → Int32) (m : Nat) (X : Nat → LN) : Prop := m ≤ 40 ∧ ∀ i, i < m → RR V G sg (321 + i) (X i)
theorem RG_NF {G' : Nat → Nat} {sg' : Nat → Int32} {m : Nat} {X : Nat → LN} (hV : V ≤ 16) (hR : RG V G sg m X) (N : NF abS G sg G' sg') : RG V G' sg' m X := ⟨hR.1, fun i hi => RR_NF N (fun v hv => by have := hR.1; omega) (hR.2 i hi)⟩
theorem RG_put {G' : Nat → Nat} {sg' : Nat → Int32} {m : Nat} {X : Nat → LN} {x : LN} (hV : V ≤ 16) (hR : RG V G sg m X) (hm : m < 40) (N : NF (rwS (321 + m)) G sg G' sg') (hx : RR V G' sg' (321 + m) x) : RG V G' sg' (m + 1) (lput X m x) := by
  refine ⟨by omega, fun i hi => ?_⟩
  unfold lput
  by_cases e : i = m
  · subst e; rw [if_pos rfl]; exact hx
  · rw [if_neg e]
    exact RR_NF N (fun v hv => by omega) (hR.2 i (by omega))
theorem n321 {m : Nat} : (321 : Int32) + nI m = nI (321 + m) := nI_add 321 m
theorem U188t {r K : Nat} {t : Nat → Int} (hV : V ≤ 16) (hX : RX h s G sg) (hs3 : s 3 = nI V) (hr : r < 363) (hr1 : r ≠ 316 ∧ r ≠ 317) (hA : RA V G t K) (hK : K ≤ 20000)
    (hQ : ∀ h' G' sg', fr rS h h' → RX h' s G' sg' → NF (rwS r) G sg G' sg' → RR V G' sg' r (ln_of V t) → Q none h') : pb_call 188 [.ref 65, .int (nI r), .int 1] h Q := U188 (least := true) hV hX hs3 hr hr1 hA hK hQ
theorem U188f {r K : Nat} {t : Nat → Int} (hV : V ≤ 16) (hX : RX h s G sg) (hs3 : s 3 = nI V) (hr : r < 363) (hr1 : r ≠ 316 ∧ r ≠ 317) (hA : RA V G t K) (hK : K ≤ 20000)
    (hQ : ∀ h' G' sg', fr rS h h' → RX h' s G' sg' → NF (rwS r) G sg G' sg' → RR V G' sg' r (ln_of V (fun u => - t u)) → Q none h') : pb_call 188 [.ref 65, .int (nI r), .int 0] h Q := U188 (least := false) hV hX hs3 hr hr1 hA hK hQ
theorem RA_row {t : Nat → Int} {K r : Nat} {G' : Nat → Nat} {sg' : Nat → Int32} (hV : V ≤ 16) (hr : 321 ≤ r) (hA : RA V G t K) (N : NF (rwS r) G sg G' sg') : RA V G' t K := fun u hu => by
  rw [NF_rv N (show ¬ rwS r (5372 + u) by omega), NF_rv N (show ¬ rwS r (5389 + u) by omega)]
  exact hA u hu
theorem U190_loop (hV : V ≤ 16) : ∀ fu i st m X h' s' G' sg' l2, fu + i = n + 1 → i ≤ st → fr rS h h' → RZ h' V n b s' G' sg' → RSt b n st s' → kp tkS s s' → NF sgS G sg G' sg' → RG V G' sg' m X → s' 19 = 0 →
    (∀ h2 s2 G2 sg2 m2 X2, sPrb b n V fu st m X = .inr (m2, X2) → fr rS h h2 → RZ h2 V n b s2 G2 sg2 → kp tkS s s2 → NF sgS G sg G2 sg2 → RG V G2 sg2 m2 X2 → Q (some (.int (nI m2))) h2) →
    (∀ h2 s2 G2 sg2 e, sPrb b n V fu st m X = .inl e → fr rS h h2 → RZ h2 V n b s2 G2 sg2 → kp ftS s s2 → NF sgS G sg G2 sg2 → FR s2 e → Q (some (.int (-1))) h2) →
    pb_R 190 6 [some (.ref 65), some (.int (nI m)), l2] [] [] h' Q := by
  intro fu
  induction fu with
  | zero =>
    intro i st m X h' s' G' sg' l2 hf hi F Z S
    have := S.2.2.2.2
    omega
  | succ fu ih =>
    intro i st m X h' s' G' sg' l2 hf hi F Z S K N R z19 hE hQ0
    have hsn := S.2.2.2.2
    have hn : n ≤ 4000 := Z.2.2.2.1
    have hm := R.1
    have k0 : s' 15 = 0 ↔ kR (tkk b n st) = 0 := kR_eq S (m := 0) (by omega)
    have kR0 : kR (tkk b n st) = 0 ↔ tkk b n st = 0 := by
      unfold kR
      by_cases c0 : tkk b n st = 0
      · rw [if_pos c0]; omega
      · rw [if_neg c0]
        split
        · omega
        · split
          · omega
          · split <;> omega
    rw [kR0] at k0
    rw [pb_q190_6]
    by_cases c0 : tkk b n st = 0
    · have q := k0.mpr c0
      have hP : sPrb b n V (fu + 1) st m X = .inr (m, X) := by
        show (if _ then _ else _) = _
        rw [if_pos c0]
      simp only [pb_e190, Z.1.1, pb_gr, pb_o_some, true_and, q, if_true]
      exact hE h' s' G' sg' m X hP F Z K N R
    · have q : ¬ s' 15 = 0 := fun e => c0 (k0.mp e)
      have hP : sPrb b n V (fu + 1) st m X = (match sCnd b n V true st with
        | .inl e => .inl e
        | .inr p => if 40 < m + (if p.2.1 = 61 then 2 else 1) then .inl (5, p.1)
          else if p.2.1 = 62 then sPrb b n V fu (nxt b n p.1) (m + 1) (lput X m (ln_of V p.2.2))
          else if p.2.1 = 60 then sPrb b n V fu (nxt b n p.1) (m + 1) (lput X m (ln_of V (fun u => - p.2.2 u)))
          else sPrb b n V fu (nxt b n p.1) (m + 2) (lput (lput X m (ln_of V p.2.2)) (m + 1) (ln_of V (fun u => - p.2.2 u)))) := by
        show (if _ then _ else _) = _
        rw [if_neg c0]
      have hC := sCnd_ref (b := b) (n := n) (V := V) (st := st) (any := true)
      have i10 : ¬ (1 : Int32) = 0 := by decide
      simp only [pb_e190, Z.1.1, pb_gr, pb_o_some, true_and, q, if_false]
      refine U187 hV Z S z19 ?_ ?_
      · intro h2 s2 G2 sg2 st1 t1 hT F2 Z2 S2 K2 N2 A2 y19
        obtain ⟨w1, w2⟩ := sTms_le hsn hT
        rw [hT] at hC
        simp only at hC
        have hb := Z2.2.2.2.2.1
        have R2 := RG_NF hV R N2
        have k3 : s2 15 = 3 ↔ kR (tkk b n st1) = 3 := kR_eq S2 (m := 3) (by omega)
        rw [kR_3] at k3
        have FR2 := fr_trans F F2
        have NN2 : NF sgS G sg G2 sg2 := NF_trans N (NF_mono (fun k q => by omega) N2)
        have h183 := fun (f p : Int32) (Q : Option Value → pb_H → Prop) => R183 (Q := Q) (f := f) (p := p) Z2.1.1
        by_cases cr : sRl true (tkk b n st1)
        · rw [if_pos cr] at hC
          have hkk : tkk b n st1 = 62 ∨ tkk b n st1 = 60 ∨ tkk b n st1 = 61 := by unfold sRl at cr; omega
          have hlt : st1 < n := tkk_lt (b := b) (by omega)
          have q3 := k3.mpr ⟨by omega, by omega, by omega, by omega⟩
          have hbk : s2 18 = nI (tkk b n st1) := by
            rw [S2.2.2.1 hlt, ← (tk3 (b := b) (n := n) (st := st1) (kR_3.mpr ⟨by omega, by omega, by omega, by omega⟩)).2]
            exact sB_lo (by omega)
          have how : pb_R 190 22 [some (.ref 65), some (.int (nI m)), l2] [] [] h2 Q ↔ pb_R 190 82 [some (.ref 65), some (.int (nI m)), some (.int (nI (tkk b n st1)))] [] [] h2 Q := by
            rcases hkk with e | e | e
            · have hv : s2 18 = 62 := by rw [hbk, e]; rfl
              have hv' : nI (tkk b n st1) = 62 := by rw [e]; rfl
              have k : ¬ (62 : Int32) = 0 := by decide
              rw [hv']
              simp only [pb_e190, Z2.1.1, pb_gr, pb_o_some, true_and, q3, not_true_eq_false, if_false, hv, if_true, k, not_false_eq_true]
            · have hv : s2 18 = 60 := by rw [hbk, e]; rfl
              have hv' : nI (tkk b n st1) = 60 := by rw [e]; rfl
              have k : ¬ (60 : Int32) = 0 := by decide
              have k2 : ¬ (60 : Int32) = 62 := by decide
              rw [hv']
              simp only [pb_e190, Z2.1.1, pb_gr, pb_o_some, true_and, q3, not_true_eq_false, if_false, hv, if_true, k, k2, not_false_eq_true]
            · have hv : s2 18 = 61 := by rw [hbk, e]; rfl
              have hv' : nI (tkk b n st1) = 61 := by rw [e]; rfl
              have k : ¬ (61 : Int32) = 0 := by decide
              have k2 : ¬ (61 : Int32) = 62 := by decide
              have k3 : ¬ (61 : Int32) = 60 := by decide
              rw [hv']
              simp only [pb_e190, Z2.1.1, pb_gr, pb_o_some, true_and, q3, not_true_eq_false, if_false, hv, if_true, k, k2, k3, not_false_eq_true]
          suffices key : pb_R 190 22 [some (.ref 65), some (.int (nI m)), l2] [] [] h2 Q by
            simp only [pb_e190, Z2.1.1, pb_gr, pb_o_some, true_and] at key
            simp only [Option.toList_some, List.singleton_append, pb_e190, i10, not_false_eq_true, if_true, Z2.1.1, pb_gr, pb_o_some, true_and]
            exact key
          rw [how]
          simp only [pb_e190, Z2.1.1, pb_gr, true_and]
          refine Z177 Z2 S2 (by omega) ?_
          intro h3 s3 F3 Z3 S3 K3
          simp only [Option.toList_none, List.nil_append, pb_e190, Z3.1.1, pb_gr, true_and]
          refine U189 hV Z3 S3 A2 (by omega) ?_ ?_
          · intro h4 s4 G4 st4 t4 hBd F4 Z4 S4 K4 N4 A4 x19
            rw [hBd] at hC
            simp only at hC
            rw [hC] at hP
            simp only at hP
            obtain ⟨u1, u2, u3, u4⟩ := sCnd_le hsn hC
            have hlt4 : st4 < n := tkk_lt (b := b) (by omega)
            obtain ⟨v1, v2⟩ := nxt_le (b := b) u2 (by omega)
            have R4 := RG_NF hV R2 N4
            have FR4 := fr_trans FR2 (fr_trans F3 F4)
            have NN4 : NF sgS G sg G4 sg2 := NF_trans NN2 (NF_mono (fun k q => by omega) N4)
            have KK4 : kp tkS s s4 := kp_trans K (kp_trans K2 (kp_trans (kp_mono (fun k q => by omega) K3) K4))
            have hfin : ∀ m6 X6 h6 G6 sg6 l2, fr rS h h6 → RX h6 s4 G6 sg6 → NF sgS G sg G6 sg6 → RG V G6 sg6 m6 X6 → sPrb b n V (fu + 1) st m X = sPrb b n V fu (nxt b n st4) m6 X6 → pb_R 190 163 [some (.ref 65), some (.int (nI m6)), l2] [] [] h6 Q := by
              intro m6 X6 h6 G6 sg6 l2 F6 X6' N6 R6 hE6
              have Z6 : RZ h6 V n b s4 G6 sg6 := ⟨X6', (F6.2.2 69 (by omega)).trans ((F.2.2 69 (by omega)).symm.trans Z.2.1), Z4.2.2.1, Z4.2.2.2.1, Z4.2.2.2.2.1, Z4.2.2.2.2.2⟩
              simp only [pb_e190, X6'.1, pb_gr, true_and]
              refine Z177 Z6 S4 (by omega) ?_
              intro h7 s7 F7 Z7 S7 K7
              simp only [Option.toList_none, List.nil_append, pb_e190]
              refine ih (i + 1) (nxt b n st4) m6 X6 h7 s7 G6 sg6 _ (by omega) (by omega) (fr_trans F6 F7) Z7 S7 (kp_trans KK4 (kp_mono (fun k q => by omega) K7)) N6 R6 (by rw [K7 19 (by omega), x19]) ?_ ?_
              · intro h8 s8 G8 sg8 m8 X8 hh
                exact hE h8 s8 G8 sg8 m8 X8 (by rw [hE6]; exact hh)
              · intro h8 s8 G8 sg8 e hh
                exact hQ0 h8 s8 G8 sg8 e (by rw [hE6]; exact hh)
            have h183' := fun (f p : Int32) (Q : Option Value → pb_H → Prop) => R183 (Q := Q) (f := f) (p := p) Z4.1.1
            have hroom : sPrb b n V (fu + 1) st m X = .inl (5, st4) → Q (some (.int (-1))) (pb_set h4 65 (rm (upd (upd s4 8 5) 9 (nI st4)))) := by
              intro hh
              obtain ⟨Z5, F5⟩ := RZ_obj Z4 (s' := upd (upd s4 8 5) 9 (nI st4)) (by rw [upd_ne _ _ (by omega), upd_ne _ _ (by omega)]) (by rw [upd_ne _ _ (by omega), upd_ne _ _ (by omega)])
              exact hQ0 _ _ G4 sg2 _ hh (fr_trans FR4 F5) Z5 (kp_trans (kp_mono (fun k q => by omega) KK4) (kp_trans (kp_upd (by omega)) (kp_upd (by omega)))) NN4 ⟨by rw [upd_ne _ _ (by omega), upd_same]; rfl, by rw [upd_same]⟩
            have o1 : (1 : Int32) = nI 1 := rfl
            have o2 : (2 : Int32) = nI 2 := rfl
            rcases hkk with e | e | e
            · rw [e] at hP
              rw [if_neg (show ¬ (62 : Nat) = 61 by omega), if_pos (show (62 : Nat) = 62 from rfl)] at hP
              have hv' : nI (tkk b n st1) = 62 := by rw [e]; rfl
              have k1 : ¬ (62 : Int32) = 61 := by decide
              have k2 : ¬ (62 : Int32) = 60 := by decide
              by_cases c40 : 40 < m + 1
              · rw [if_pos c40] at hP
                have kk : ¬ nI (m + 1) ≤ 40 := nI_ge (a := 40) c40 (by omega)
                simp only [hv', Option.toList_some, List.singleton_append, pb_e190, i10, not_false_eq_true, if_true, k1, nI_1, kk, if_false, Z4.1.1, pb_gr, pb_o_some, true_and, S4.1, h183']
                exact hroom hP
              · rw [if_neg c40] at hP
                have kk : nI (m + 1) ≤ 40 := nI_le (b := 40) (by omega) (by omega)
                simp only [hv', Option.toList_some, List.singleton_append, pb_e190, i10, not_false_eq_true, if_true, k1, nI_1, kk, k2, if_false, Z4.1.1, pb_gr, pb_o_some, true_and, n321]
                refine U188t hV Z4.1 Z4.2.2.2.2.2 (by omega) (by omega) A4 (by omega) ?_
                intro h6 G6 sg6 F6 X6 N6 R6
                have key := hfin (m + 1) _ h6 G6 sg6 (some (.int 62)) (fr_trans FR4 F6) X6 (NF_trans NN4 (NF_mono (fun k q => by omega) N6)) (RG_put hV R4 (by omega) N6 R6) hP
                simp only [pb_e190, X6.1, pb_gr, true_and] at key
                simp only [Option.toList_none, List.nil_append, pb_e190, if_true, nI_1, X6.1, pb_gr, true_and]
                exact key
            · rw [e] at hP
              rw [if_neg (show ¬ (60 : Nat) = 61 by omega), if_neg (show ¬ (60 : Nat) = 62 by omega), if_pos (show (60 : Nat) = 60 from rfl)] at hP
              have hv' : nI (tkk b n st1) = 60 := by rw [e]; rfl
              have k1 : ¬ (60 : Int32) = 61 := by decide
              have k2 : ¬ (60 : Int32) = 62 := by decide
              by_cases c40 : 40 < m + 1
              · rw [if_pos c40] at hP
                have kk : ¬ nI (m + 1) ≤ 40 := nI_ge (a := 40) c40 (by omega)
                simp only [hv', Option.toList_some, List.singleton_append, pb_e190, i10, not_false_eq_true, if_true, k1, nI_1, kk, if_false, Z4.1.1, pb_gr, pb_o_some, true_and, S4.1, h183']
                exact hroom hP
              · rw [if_neg c40] at hP
                have kk : nI (m + 1) ≤ 40 := nI_le (b := 40) (by omega) (by omega)
                simp only [hv', Option.toList_some, List.singleton_append, pb_e190, i10, not_false_eq_true, if_true, k1, nI_1, kk, k2, if_false, Z4.1.1, pb_gr, pb_o_some, true_and, n321]
                refine U188f hV Z4.1 Z4.2.2.2.2.2 (by omega) (by omega) A4 (by omega) ?_
                intro h6 G6 sg6 F6 X6 N6 R6
                have key := hfin (m + 1) _ h6 G6 sg6 (some (.int 60)) (fr_trans FR4 F6) X6 (NF_trans NN4 (NF_mono (fun k q => by omega) N6)) (RG_put hV R4 (by omega) N6 R6) hP
                simp only [pb_e190, X6.1, pb_gr, true_and] at key
                simp only [Option.toList_none, List.nil_append, pb_e190, nI_1, X6.1, pb_gr, true_and]
                exact key
            · rw [e] at hP
              rw [if_pos (show (61 : Nat) = 61 from rfl), if_neg (show ¬ (61 : Nat) = 62 by omega), if_neg (show ¬ (61 : Nat) = 60 by omega)] at hP
              have hv' : nI (tkk b n st1) = 61 := by rw [e]; rfl
              have k1 : ¬ (61 : Int32) = 60 := by decide
              have k2 : ¬ (61 : Int32) = 62 := by decide
              have a2 : nI m + 2 = nI (m + 2) := nI_add m 2
              by_cases c40 : 40 < m + 2
              · rw [if_pos c40] at hP
                have kk : ¬ nI (m + 2) ≤ 40 := nI_ge (a := 40) c40 (by omega)
                simp only [hv', Option.toList_some, List.singleton_append, pb_e190, i10, not_false_eq_true, not_true_eq_false, if_true, a2, kk, if_false, Z4.1.1, pb_gr, pb_o_some, true_and, S4.1, h183']
                exact hroom hP
              · rw [if_neg c40] at hP
                have kk : nI (m + 2) ≤ 40 := nI_le (b := 40) (by omega) (by omega)
                simp only [hv', Option.toList_some, List.singleton_append, pb_e190, i10, not_false_eq_true, not_true_eq_false, if_true, a2, kk, k1, if_false, Z4.1.1, pb_gr, pb_o_some, true_and, n321]
                refine U188t hV Z4.1 Z4.2.2.2.2.2 (by omega) (by omega) A4 (by omega) ?_
                intro h5 G5 sg5 F5 X5 N5 R5
                have R5' := RG_put hV R4 (by omega) N5 R5
                simp only [Option.toList_none, List.nil_append, pb_e190, nI_1, k2, if_false, X5.1, pb_gr, true_and, n321]
                refine U188f (r := 321 + (m + 1)) hV X5 Z4.2.2.2.2.2 (by omega) (by omega) (RA_row hV (by omega) A4 N5) (by omega) ?_
                intro h6 G6 sg6 F6 X6 N6 R6
                have key := hfin (m + 2) _ h6 G6 sg6 (some (.int 61)) (fr_trans FR4 (fr_trans F5 F6)) X6 (NF_trans NN4 (NF_trans (NF_mono (fun k q => by omega) N5) (NF_mono (fun k q => by omega) N6))) (RG_put hV R5' (by omega) N6 R6) hP
                simp only [pb_e190, X6.1, pb_gr, true_and] at key
                simp only [Option.toList_none, List.nil_append, pb_e190, nI_1, X6.1, pb_gr, true_and]
                exact key
          · intro h4 s4 G4 e hBd F4 Z4 K4 N4 ft _
            rw [hBd] at hC
            simp only at hC
            rw [hC] at hP
            simp only [Option.toList_some, List.singleton_append, pb_e190, not_true_eq_false, if_false]
            exact hQ0 h4 s4 G4 sg2 e hP (fr_trans FR2 (fr_trans F3 F4)) Z4 (kp_trans (kp_mono (fun k q => by omega) K) (kp_trans (kp_mono (fun k q => by omega) K2) (kp_trans (kp_mono (fun k q => by omega) K3) K4))) (NF_trans NN2 (NF_mono (fun k q => by omega) N4)) ft
        · rw [if_neg cr] at hC
          rw [hC] at hP
          simp only at hP
          have h0 : pb_R 190 22 [some (.ref 65), some (.int (nI m)), l2] [] [] h2 Q ↔ pb_R 190 66 [some (.ref 65), some (.int (nI m)), some (.int 0)] [] [] h2 Q := by
            by_cases q3 : s2 15 = 3
            · have hk3 := tk3 (kR_3.mpr (k3.mp q3))
              have hbk : s2 18 = nI (tkk b n st1) := by
                rw [S2.2.2.1 hk3.1, ← hk3.2]
                have : tkk b n st1 < 128 := by
                  have hx := (k3.mp q3)
                  rw [hk3.2]
                  rw [hk3.2] at hx
                  have := hk3.2
                  unfold tkk at this
                  rw [if_neg (by omega)] at this
                  by_cases cd : dgt (b st1)
                  · omega
                  · rw [if_neg cd] at this
                    by_cases c1 : b st1 = 120
                    · omega
                    · rw [if_neg c1] at this
                      by_cases c2 : b st1 = 126 ∧ sb b n (st1 + 1) = 120
                      · omega
                      · rw [if_neg c2] at this
                        by_cases c3 : b st1 = 62 ∨ b st1 = 60
                        · omega
                        · rw [if_neg c3] at this
                          by_cases c5 : sow (b st1)
                          · unfold sow at c5; omega
                          · rw [if_neg c5] at this; omega
                exact sB_lo this
              have f : ∀ m : Nat, m < 256 → (nI (tkk b n st1) = nI m ↔ tkk b n st1 = m) := fun m hm => nI_eq (by have := tkk_256 (n := n) hb st1; omega) (by omega)
              have f62 : ¬ nI (tkk b n st1) = 62 := fun e => cr (Or.inl ((f 62 (by omega)).mp e))
              have f60 : ¬ nI (tkk b n st1) = 60 := fun e => cr (Or.inr ⟨rfl, Or.inl ((f 60 (by omega)).mp e)⟩)
              have f61 : ¬ nI (tkk b n st1) = 61 := fun e => cr (Or.inr ⟨rfl, Or.inr ((f 61 (by omega)).mp e)⟩)
              simp only [pb_e190, Z2.1.1, pb_gr, pb_o_some, true_and, q3, not_true_eq_false, if_false, hbk, f62, f60, f61, not_false_eq_true, if_true]
            · simp only [pb_e190, Z2.1.1, pb_gr, pb_o_some, true_and, q3, not_false_eq_true, if_true]
          suffices key : pb_R 190 22 [some (.ref 65), some (.int (nI m)), l2] [] [] h2 Q by
            simp only [pb_e190, Z2.1.1, pb_gr, pb_o_some, true_and] at key
            simp only [Option.toList_some, List.singleton_append, pb_e190, i10, not_false_eq_true, if_true, Z2.1.1, pb_gr, pb_o_some, true_and]
            exact key
          rw [h0]
          obtain ⟨Z5, F5⟩ := RZ_obj Z2 (s' := upd (upd s2 8 1) 9 (nI st1)) (by rw [upd_ne _ _ (by omega), upd_ne _ _ (by omega)]) (by rw [upd_ne _ _ (by omega), upd_ne _ _ (by omega)])
          simp only [pb_e190, not_true_eq_false, if_false, Z2.1.1, pb_gr, pb_o_some, true_and, S2.1, h183, Option.toList_some, List.singleton_append]
          exact hQ0 _ _ G2 sg2 _ hP (fr_trans FR2 F5) Z5 (kp_trans (kp_mono (fun k q => by omega) K) (kp_trans (kp_mono (fun k q => by omega) K2) (kp_trans (kp_upd (by omega)) (kp_upd (by omega))))) NN2 ⟨by rw [upd_ne _ _ (by omega), upd_same]; rfl, by rw [upd_same]⟩
      · intro h2 s2 G2 sg2 e hT F2 Z2 K2 N2 ft y19
        rw [hT] at hC
        rw [hC] at hP
        simp only [Option.toList_some, List.singleton_append, pb_e190, not_true_eq_false, if_false]
        exact hQ0 h2 s2 G2 sg2 e hP (fr_trans F F2) Z2 (kp_trans (kp_mono (fun k q => by omega) K) K2) (NF_trans N (NF_mono (fun k q => by omega) N2)) ft
end PRB
