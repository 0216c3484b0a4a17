/-! The reference's check -/
abbrev okE (e : FL) : Prop := 1 ≤ e.1 ∧ e.1 ≤ 6
theorem okE_c {k p : Nat} (h : 1 ≤ k ∧ k ≤ 6) : okE (k, p) := h
section ERR
variable {V n m st hg : Nat} {b : Nat → Nat} {X S : Nat → LN} {og : Nat → Nat} {e : FL}
theorem sFac_er (h : sFac b n st = .inl e) : okE e := by
  unfold sFac at h
  split at h
  · cases h
  · split at h
    · split at h
      · cases h
      · injection h with h; subst h; exact okE_c (by decide)
    · split at h
      · cases h
      · injection h with h; subst h; exact okE_c (by decide)
theorem sLit_er {z : Int} {t : Nat → Int} (h : sLit b n V st z t = .inl e) : okE e := by
  unfold sLit at h
  split at h
  · split at h
    · cases h
    · injection h with h; subst h; exact okE_c (by decide)
  · injection h with h; subst h; exact okE_c (by decide)
theorem sTms_er : ∀ {f st : Nat} {t : Nat → Int}, sTms b n V f st t = .inl e → okE e
  | 0, st, t, h => by cases h
  | f + 1, st, t, h => by
    have h' : (if bTm (tkk b n st) then (match sFac b n st with
      | .inl e => .inl e
      | .inr p => match sLit b n V p.1 p.2 t with
        | .inl e => .inl e
        | .inr q => sTms b n V f q.1 q.2) else .inr (st, t)) = Sum.inl e := h
    split at h'
    · split at h'
      · rename_i e' he
        injection h' with h'; subst h'
        exact sFac_er he
      · split at h'
        · rename_i e' he
          injection h' with h'; subst h'
          exact sLit_er he
        · exact sTms_er h'
    · cases h'
theorem sCnd_er {any : Bool} (h : sCnd b n V any st = .inl e) : okE e := by
  unfold sCnd at h
  split at h
  · rename_i e' he
    injection h with h; subst h
    exact sTms_er he
  · split at h
    · split at h
      · injection h with h; subst h; exact okE_c (by decide)
      · split at h
        · rename_i e' he
          injection h with h; subst h
          exact sFac_er he
        · split at h
          · cases h
          · injection h with h; subst h; exact okE_c (by decide)
    · injection h with h; subst h; exact okE_c (by decide)
theorem iOne_er (h : iOne b n V m X st hg S = .inl e) : okE e := by
  unfold iOne at h
  split at h
  · unfold iNum at h
    split at h
    · split at h
      · injection h with h; subst h; exact okE_c (by decide)
      · split at h
        · injection h with h; subst h; exact okE_c (by decide)
        · split at h
          · cases h
          · split at h
            · cases h
            · injection h with h; subst h; exact okE_c (by decide)
    · split at h
      · split at h
        · cases h
        · injection h with h; subst h; exact okE_c (by decide)
      · injection h with h; subst h; exact okE_c (by decide)
  · split at h
    · unfold iLet at h
      split at h
      · split at h
        · split at h
          · injection h with h; subst h; exact okE_c (by decide)
          · cases h
        · split at h
          · cases h
          · injection h with h; subst h; exact okE_c (by decide)
      · injection h with h; subst h; exact okE_c (by decide)
    · unfold iSgn at h
      split at h
      · split at h
        · injection h with h; subst h; exact okE_c (by decide)
        · split at h
          · cases h
          · injection h with h; subst h; exact okE_c (by decide)
      · split at h
        · split at h
          · injection h with h; subst h; exact okE_c (by decide)
          · cases h
        · injection h with h; subst h; exact okE_c (by decide)
theorem iAll_er : ∀ {f st hg : Nat} {S : Nat → LN}, iAll b n V m X f st hg S = .inl e → okE e
  | 0, st, hg, S, h => by cases h
  | f + 1, st, hg, S, h => by
    by_cases c : tkk b n st = 59
    · have e' : iAll b n V m X (f + 1) st hg S = .inr (st, hg, S) := by
        show (if _ then _ else _) = _
        rw [if_pos c]
      rw [e'] at h; cases h
    · obtain ⟨s0, s1⟩ := iAll_step (b := b) (n := n) (V := V) (m := m) (X := X) (st := st) (hg := hg) (S := S) (f := f) c
      cases hO : iOne b n V m X st hg S with
      | inl e' =>
        rw [s0 e' hO] at h
        injection h with h; subst h
        exact iOne_er hO
      | inr q =>
        rw [s1 q hO] at h
        exact iAll_er h
theorem sStp_er (h : sStp b n V st m X og = .inl e) : okE e := by
  unfold sStp at h
  split at h
  · split at h
    · rename_i e' he
      injection h with h; subst h
      unfold sP at he
      split at he
      · rename_i e2 he2
        injection he with he; subst he
        exact iAll_er he2
      · split at he
        · split at he
          · cases he
          · injection he with he; subst he; exact okE_c (by decide)
        · injection he with he; subst he; exact okE_c (by decide)
    · cases h
  · split at h
    · split at h
      · rename_i e' he
        injection h with h; subst h
        unfold sU at he
        split at he
        · rename_i e2 he2
          injection he with he; subst he
          exact sCnd_er he2
        · split at he
          · split at he
            · cases he
            · injection he with he; subst he; exact okE_c (by decide)
          · injection he with he; subst he; exact okE_c (by decide)
      · cases h
    · split at h
      · split at h
        · rename_i e' he
          injection h with h; subst h
          unfold sC at he
          split at he
          · split at he
            · split at he
              · split at he
                · cases he
                · injection he with he; subst he; exact okE_c (by decide)
              · injection he with he; subst he; exact okE_c (by decide)
            · injection he with he; subst he; exact okE_c (by decide)
          · injection he with he; subst he; exact okE_c (by decide)
        · cases h
      · injection h with h; subst h; exact okE_c (by decide)
end ERR
def FKR (s' : Nat → Int32) (e : Option FL) : Prop := match e with
  | none => s' 8 = 0 ∧ s' 9 = -1
  | some e => FR s' e
section RCK
variable {h : pb_H} {Q : Option Value → pb_H → Prop} {V n : Nat} {b : Nat → Nat} {s : Nat → Int32}
theorem U201_26 (hV : V ≤ 16) : ∀ f st d m X ogN og f0 h' s' G' sg', st ≤ n → n + 1 ≤ f + st → fr rG h h' → RK h' V n b s' G' sg' m X → h'.2 68 = ci 301 og → (∀ k, 1 ≤ k → k ≤ m → og k = nI (ogN k)) → h'.2 74 = ci 17 f0 → RSt b n st s' → s' 8 = 0 → s' 9 = -1 → s' 19 = 0 → kp stS s s' →
    (∀ h2 s2 G2 sg2 og2 f2 d2 e m2 X2 ogN2, sChk b n V f st d m X ogN = (d2, e, m2, X2, ogN2) → fr rG h h2 → RK h2 V n b s2 G2 sg2 m2 X2 → h2.2 68 = ci 301 og2 → (∀ k, 1 ≤ k → k ≤ m2 → og2 k = nI (ogN2 k)) → h2.2 74 = ci 17 f2 → FKR s2 e → kp stS s s2 → pb_R 201 57 [some (.ref 65), some (.int (nI d2))] [] [] h2 Q) →
    pb_R 201 26 [some (.ref 65), some (.int (nI d))] [] [] h' Q := by
  intro f
  induction f with
  | zero =>
    intro st d m X ogN og f0 h' s' G' sg' h1 h2
    omega
  | succ f ih =>
    intro st d m X ogN og f0 h' s' G' sg' hsn hf F K h68 ho h74 hT e8 e9 e19 kk hE
    have hb := K.1.2.2.2.2.1
    have i10 : ¬ (1 : Int32) = 0 := by decide
    have k0 : s' 15 = 0 ↔ tkk b n st = 0 := by
      have := kR_eq hT (m := 0) (by omega)
      refine this.trans ⟨fun w => ?_, fun w => by rw [w]; rfl⟩
      unfold kR at w
      split at w
      · assumption
      · split at w
        · omega
        · split at w
          · omega
          · split at w <;> omega
    rw [pb_q201_26]
    by_cases c0 : tkk b n st = 0
    · have sp : sChk b n V (f + 1) st d m X ogN = (d, none, m, X, ogN) := by
        show (if _ then _ else _) = _
        rw [if_pos c0]
      have key := hE h' s' G' sg' og f0 d none m X ogN sp F K h68 ho h74 ⟨e8, e9⟩ kk
      simp only [pb_e201, K.1.1.1, pb_gr, pb_o_some] at key
      simp only [pb_e201, K.1.1.1, pb_gr, pb_o_some, k0.mpr c0, if_true]
      exact key
    · have n0 : ¬ s' 15 = 0 := fun e => c0 (k0.mp e)
      obtain ⟨sp0, sp1⟩ := sChk_step (b := b) (n := n) (V := V) (f := f) (st := st) (d := d) (m := m) (X := X) (og := ogN) c0
      simp only [pb_e201, K.1.1.1, pb_gr, pb_o_some, n0, if_false, e8, not_true_eq_false, true_and]
      refine U200 (ogN := ogN) hV K h68 h74 e19 hT ?_ ?_
      · intro h2 s2 G2 sg2 f2 og2 st2 m2 X2 ogN2 he F2 K2 e68 ho2 e74 T2 x19 k2
        obtain ⟨w1, w2, w3, w4, w5⟩ := sStp_le hsn he
        simp only at w1 w2 w3 w4 w5
        -- the FAULT's fields
        simp only [Option.toList_some, List.singleton_append, pb_e201, i10, if_false, nI_1, K2.1.1.1, pb_gr, true_and]
        refine Z177 K2.1 T2 (by omega) ?_
        intro h3 s3 F3 Z3 T3 k3
        have K3 := RK_up hV K2 Z3 (k3 4 (by omega)) (NF_refl (fun _ => False) _ _) (fun i w => w.elim)
        simp only [Option.toList_none, List.nil_append, pb_e201]
        refine ih (nxt b n st2) (d + 1) m2 X2 ogN2 og2 f2 h3 s3 G2 sg2 w4 (by omega) (fr_trans F (fr_trans F2 (fr_mono (fun q w => Or.inl w) F3))) K3 ((F3.2.2 68 (by omega)).trans e68) (ho2 ho) ((F3.2.2 74 (by omega)).trans e74) T3 ((k3 8 (by omega)).trans ((k2 8 (by omega)).trans e8)) ((k3 9 (by omega)).trans ((k2 9 (by omega)).trans e9)) ((k3 19 (by omega)).trans x19) (kp_trans kk (kp_trans (stG_S k2) (kp_mono (fun k w => by omega) k3))) ?_
        intro h8 s8 G8 sg8 og8 f8 d8 e8' m8 X8 ogN8 hs8
        exact hE h8 s8 G8 sg8 og8 f8 d8 e8' m8 X8 ogN8 (by rw [sp1 _ he]; exact hs8)
      · intro h2 s2 G2 sg2 f2 e he F2 K2 e68 e74 k2 ft
        have ok := sStp_er he
        have ne8 : ¬ s2 8 = 0 := by rw [ft.1]; exact nI_ne0 (by omega) (by omega)
        have key := hE h2 s2 G2 sg2 og f2 d (some e) m X ogN (sp0 e he) (fr_trans F F2) K2 e68 ho e74 ft (kp_trans kk k2)
        simp only [pb_e201, K2.1.1.1, pb_gr, pb_o_some] at key
        simp only [Option.toList_some, List.singleton_append, pb_e201, if_true]
        rw [pb_q201_26]
        by_cases c15 : s2 15 = 0
        · simp only [pb_e201, K2.1.1.1, pb_gr, pb_o_some, c15, if_true]
          exact key
        · simp only [pb_e201, K2.1.1.1, pb_gr, pb_o_some, c15, if_false, ne8, not_false_eq_true, if_true]
          exact key
end RCK
