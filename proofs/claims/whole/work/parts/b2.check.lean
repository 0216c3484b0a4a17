/-! Checker.takeSteps, PlaneBench.check -/
def FK (s s' : Nat → Int32) (e : Option FL) : Prop := match e with
  | none => KF s s'
  | some e => FT s' e
section CHK
variable {h : pb_H} {Q : Option Value → pb_H → Prop} {V c N n p : Nat} {b : Nat → Nat} {s : Nat → Int32} {F0 : Nat → Option Nat}
theorem sChk_step {f st d m : Nat} {X : Nat → LN} {og : Nat → Nat} (hk : tkk b n st ≠ 0) : (∀ e, sStp b n V st m X og = .inl e → sChk b n V (f + 1) st d m X og = (d, some e, m, X, og)) ∧ (∀ r, sStp b n V st m X og = .inr r → sChk b n V (f + 1) st d m X og = sChk b n V f (nxt b n r.1) (d + 1) r.2.1 r.2.2.1 r.2.2.2) := by
  refine ⟨fun e he => ?_, fun r hr => ?_⟩
  · show (if _ then _ else _) = _
    rw [if_neg hk, he]
  · show (if _ then _ else _) = _
    rw [if_neg hk, hr]
theorem L87_loop (hV : V ≤ 16) (hcl : c < h.1) (h83 : 83 ≤ h.1) : ∀ f d st m X og F h' s' hg l2, f + d = n + 1 → d ≤ st → CHX V h F0 h' F → KB h' V c N n b s' m p F X og → h'.2 13 = cck hg → TS b n st s' → KF s s' →
    (∀ h2 s2 F2 hg2 d2 e m2 X2 og2, sChk b n V f st d m X og = (d2, e, m2, X2, og2) → CHX V h F0 h2 F2 → KB h2 V c N n b s2 m2 p F2 X2 og2 → h2.2 13 = cck hg2 → FK s s2 e → Q (some (.int (nI d2))) h2) →
    pb_R 87 2 [some (.ref 13), some (.int (nI d)), l2] [] [] h' Q := by
  intro f
  induction f with
  | zero =>
    intro d st m X og F h' s' hg l2 hf hd C K h13 hT
    have := hT.2.2.2.2
    omega
  | succ f ih =>
    intro d st m X og F h' s' hg l2 hf hd C K h13 hT KK hE
    have hsn := hT.2.2.2.2
    have hb := (KB_TX K).2.2.2.2.2
    have hn : n ≤ 4000 := Nat.le_trans (KB_TX K).2.2.1 (KB_TX K).2.2.2.1
    have s1 := (KB_TX K).2.2.2.2.1
    have h5 := KB_5 K
    have hle : h.1 ≤ h'.1 := C.1.1
    have i10 : ¬ (1 : Int32) = 0 := by decide
    have kl : ¬ nI n < nI d := nI_nlt (by omega) (by omega)
    have kk := fun m hm => kd_eq hT hb (m := m) hm
    have k0 : s' 2 = 0 ↔ tkk b n st = 0 := kk 0 (by omega)
    rw [pb_q87_2]
    by_cases c0 : tkk b n st = 0
    · have sp : sChk b n V (f + 1) st d m X og = (d, none, m, X, og) := by
        show (if _ then _ else _) = _
        rw [if_pos c0]
      simp only [pb_e87, h13, pb_g1, pb_o_some, h5, pb_gx, s1, kl, if_false, k0.mpr c0, if_true]
      exact hE h' s' F hg d none m X og sp C K h13 KK
    · have n0 : ¬ s' 2 = 0 := fun e => c0 (k0.mp e)
      obtain ⟨sp0, sp1⟩ := sChk_step (b := b) (n := n) (V := V) (f := f) (st := st) (d := d) (m := m) (X := X) (og := og) c0
      have bad : ∀ h2 s2 hg2 e, sStp b n V st m X og = .inl e → CHX V h' F h2 F → KB h2 V c N n b s2 m p F X og → h2.2 13 = cck hg2 → FT s2 e → Q (some (.int (nI d))) h2 := by
        intro h2 s2 hg2 e he C2 K2 h132 ft
        exact hE h2 s2 F hg2 d (some e) m X og (sp0 e he) (CHX_trans C C2) K2 h132 ft
      have good : ∀ h2 s2 F2 hg2 st2 m2 X2 og2, sStp b n V st m X og = .inr (st2, m2, X2, og2) → CHX V h' F h2 F2 → KB h2 V c N n b s2 m2 p F2 X2 og2 → h2.2 13 = cck hg2 → TS b n st2 s2 → KF s' s2 → pb_R 87 106 [some (.ref 13), some (.int (nI (d + 1))), some (.int 1)] [] [] h2 Q := by
        intro h2 s2 F2 hg2 st2 m2 X2 og2 he C2 K2 h132 T2 K2'
        obtain ⟨w1, w2, w3, w4, w5⟩ := sStp_le hsn he
        simp only at w1 w2 w3 w4 w5
        simp only [pb_e87, h132, pb_g1, pb_o_some, KB_5 K2, pb_gx, true_and]
        refine T23 (KB_TX K2) T2 (by omega) ?_
        intro s3 T3 TS3 l7 l8
        have K3 := KB_s (s' := s3) K2 (by rw [T3.2.2.2.2.1, (KB_TX K2).2.2.2.2.1])
        have G3 := fr_5 (x := cx (.ref c) s3) K2 rfl
        simp only [Option.toList_none, List.nil_append, pb_e87]
        refine ih (d + 1) (nxt b n st2) m2 X2 og2 F2 _ s3 hg2 _ (by omega) (by omega) (CHX_trans C (CHX_trans C2 (CHX_fr G3 (fun b w => Or.inl (by omega))))) K3 ((G3.2.2 13 (by omega)).trans h132) TS3 (KF_tr KK (KF_tr K2' ⟨l7, l8⟩)) ?_
        intro h8 s8 F8 hg8 d8 e8 m8 X8 og8 hh
        exact hE h8 s8 F8 hg8 d8 e8 m8 X8 og8 (by rw [sp1 _ he]; exact hh)
      have k112 : s' 2 = 112 ↔ tkk b n st = 112 := kk 112 (by omega)
      have k117 : s' 2 = 117 ↔ tkk b n st = 117 := kk 117 (by omega)
      have k99 : s' 2 = 99 ↔ tkk b n st = 99 := kk 99 (by omega)
      by_cases c1 : tkk b n st = 112
      · have q := k112.mpr c1
        have a1 : ¬ (112 : Int32) = 0 := by decide
        have a2 : ¬ (112 : Int32) = 99 := by decide
        simp only [pb_e87, h13, pb_g1, pb_o_some, h5, pb_gx, s1, kl, if_false, q, a1, a2, if_true, true_and]
        refine L74 hV K (by omega) (by omega) h13 hT c1 ?_ ?_
        · intro h2 s2 st2 y F2 hg2 sp t59 C2 K2 h132 T2 KF2
          have he : sStp b n V st m X og = .inr (st2, m + 1, lput X (m + 1) y, un og (m + 1) 2) := by
            unfold sStp
            rw [if_pos c1, sp]
          have key := good h2 s2 F2 hg2 st2 _ _ _ he C2 K2 h132 T2 KF2
          simp only [pb_e87, h132, pb_g1, pb_o_some, KB_5 K2, pb_gx, true_and] at key
          simp only [Option.toList_some, List.singleton_append, pb_e87, i10, not_false_eq_true, if_true, nI_1, h132, pb_g1, pb_o_some, KB_5 K2, pb_gx, true_and]
          exact key
        · intro h2 s2 hg2 e sp C2 K2 h132 ft
          have he : sStp b n V st m X og = .inl e := by
            unfold sStp
            rw [if_pos c1, sp]
          simp only [Option.toList_some, List.singleton_append, pb_e87, not_true_eq_false, if_false]
          exact bad h2 s2 hg2 e he C2 K2 h132 ft
      · by_cases c2 : tkk b n st = 117
        · have q := k117.mpr c2
          have a1 : ¬ (117 : Int32) = 0 := by decide
          have a2 : ¬ (117 : Int32) = 99 := by decide
          have a3 : ¬ (117 : Int32) = 112 := by decide
          simp only [pb_e87, h13, pb_g1, pb_o_some, h5, pb_gx, s1, kl, if_false, q, a1, a2, a3, if_true, true_and]
          refine L84 hV K (by omega) (by omega) h13 hT c2 ?_ ?_
          · intro h2 s2 st2 y F2 hg2 sp t59 C2 K2 h132 T2 KF2
            have he : sStp b n V st m X og = .inr (st2, m + 1, lput X (m + 1) y, un og (m + 1) 3) := by
              unfold sStp
              rw [if_neg c1, if_pos c2, sp]
            have key := good h2 s2 F2 hg2 st2 _ _ _ he C2 K2 h132 T2 KF2
            simp only [pb_e87, h132, pb_g1, pb_o_some, KB_5 K2, pb_gx, true_and] at key
            simp only [Option.toList_some, List.singleton_append, pb_e87, i10, not_false_eq_true, if_true, nI_1, h132, pb_g1, pb_o_some, KB_5 K2, pb_gx, true_and]
            exact key
          · intro h2 s2 hg2 e sp C2 K2 h132 ft
            have he : sStp b n V st m X og = .inl e := by
              unfold sStp
              rw [if_neg c1, if_pos c2, sp]
            simp only [Option.toList_some, List.singleton_append, pb_e87, not_true_eq_false, if_false]
            exact bad h2 s2 hg2 e he C2 K2 h132 ft
        · by_cases c3 : tkk b n st = 99
          · have q := k99.mpr c3
            have a1 : ¬ (99 : Int32) = 0 := by decide
            simp only [pb_e87, h13, pb_g1, pb_o_some, h5, pb_gx, s1, kl, if_false, q, a1, if_true, true_and]
            refine L86 hV K h13 hT c3 ?_ ?_
            · intro h2 s2 st2 sp C2 K2 h132 T2 KF2
              have he : sStp b n V st m X og = .inr (st2, m, X, og) := by
                unfold sStp
                rw [if_neg c1, if_neg c2, if_pos c3, sp]
              have key := good h2 s2 F hg st2 _ _ _ he C2 K2 h132 T2 KF2
              simp only [pb_e87, h132, pb_g1, pb_o_some, KB_5 K2, pb_gx, true_and] at key
              simp only [Option.toList_some, List.singleton_append, pb_e87, i10, not_false_eq_true, if_true, nI_1, h132, pb_g1, pb_o_some, KB_5 K2, pb_gx, true_and]
              exact key
            · intro h2 s2 e sp C2 K2 h132 ft
              have he : sStp b n V st m X og = .inl e := by
                unfold sStp
                rw [if_neg c1, if_neg c2, if_pos c3, sp]
              simp only [Option.toList_some, List.singleton_append, pb_e87, not_true_eq_false, if_false]
              exact bad h2 s2 hg e he C2 K2 h132 ft
          · have q1 : ¬ s' 2 = 112 := fun e => c1 (k112.mp e)
            have q2 : ¬ s' 2 = 117 := fun e => c2 (k117.mp e)
            have q3 : ¬ s' 2 = 99 := fun e => c3 (k99.mp e)
            have he : sStp b n V st m X og = .inl (1, st) := by
              unfold sStp
              rw [if_neg c1, if_neg c2, if_neg c3]
            have h29 := fun (f : Int32) (Q : Option Value → pb_H → Prop) => m29 (Q := Q) (f := f) h5
            simp only [pb_e87, h13, pb_g1, pb_o_some, h5, pb_gx, s1, kl, if_false, n0, q1, q2, q3, true_and, h29, Option.toList_some, List.singleton_append, not_true_eq_false]
            exact bad _ _ hg _ he (CHX_fr (fr_5 K rfl) (fun b w => Or.inl (by omega))) (KB_s K (by rw [upd_ne _ _ (by omega), upd_ne _ _ (by omega)])) (by rw [pb_set_get, if_neg (by omega), h13]) ⟨by rw [upd_ne _ _ (by omega), upd_same]; rfl, by rw [upd_same, hT.1]⟩
abbrev ckT (F : Nat → Option Nat) : Nat → Prop := fun b => chS F b ∨ b = 9
/-- PlaneBench.check -/
theorem L127 {cc : Value} {s fs g : Nat → Int32} {rel ov : Int32} {m p hg : Nat} {F : Nat → Option Nat} {X : Nat → LN} {og : Nat → Nat} (hV : V ≤ 16) (h1 : h.2 1 = cpb V) (hB : BR h 9 4000 c N n ov b) (hc : c = 10 ∨ 83 ≤ c) (h5 : h.2 5 = cx cc s) (h6 : h.2 6 = cco V rel) (h7 : h.2 7 = ci 8 g) (h8 : h.2 8 = ci ((V + 1) * 8) fs) (h13 : h.2 13 = cck hg) (hCK : CKs h V) (hS : SHL h V m p F X og) (h83 : 83 ≤ h.1)
    (hQ : ∀ h' s' fs' g' rel' F' hg' d e m' X' og', sChk b n V (n + 1) (st0 b n) 0 m X og = (d, e, m', X', og') → fg (ckT F) h h' → FX V h F h' F' → h'.2 9 = cw 4000 c 0 0 → h'.2 5 = cx (.ref c) s' → (match e with | none => s' 7 = 0 ∧ s' 8 = -1 | some e => FT s' e) → h'.2 6 = cco V rel' → h'.2 7 = ci 8 g' → h'.2 8 = ci ((V + 1) * 8) fs' → h'.2 13 = cck hg' → CKs h' V → SHL h' V m' p F' X' og' → Q (some (.int (nI d))) h') : pb_call 127 [.ref 1] h Q := by
  have hcl := hB.2.2.2.2.2.2.2.2.1
  rw [pb_c127]
  simp only [pb_e127, h1, pb_g11, h5, pb_gx, pb_o_some, true_and]
  refine L121 h5 hB ?_
  intro s1 T1 S1 z7 z8
  have F1 : fr (fun b => b = 5) h (pb_set h 5 (cx (.ref c) s1)) := fr_set rfl (by rw [h5]; rfl)
  have K1 : KB (pb_set h 5 (cx (.ref c) s1)) V c N n b s1 m p F X og := ⟨⟨fs, g, rel, T1, (F1.2.2 6 (by omega)).trans h6, (F1.2.2 7 (by omega)).trans h7, (F1.2.2 8 (by omega)).trans h8, by omega⟩, hc, CKs_fr F1 (fun b w => by omega) hCK, SHL_fr F1 (fun b w => by omega) hS⟩
  have k1 : (pb_set h 5 (cx (.ref c) s1)).2 1 = cpb V := (F1.2.2 1 (by omega)).trans h1
  have k13 : (pb_set h 5 (cx (.ref c) s1)).2 13 = cck hg := (F1.2.2 13 (by omega)).trans h13
  have k9 : (pb_set h 5 (cx (.ref c) s1)).2 9 = cw 4000 c n ov := (F1.2.2 9 (by omega)).trans hB.1
  simp only [Option.toList_none, List.nil_append, pb_e127, k1, pb_g11, k13, pb_g1, pb_o_some, true_and]
  generalize hH1 : pb_set h 5 (cx (.ref c) s1) = H1 at F1 K1 k1 k13 k9 T1 ⊢
  rw [pb_c87]
  simp only [pb_e87]
  have i0 : (0 : Int32) = nI 0 := rfl
  rw [i0]
  refine L87_loop (h := H1) (s := s1) (F0 := F) hV (by rw [F1.1]; exact hcl) (by rw [F1.1]; exact h83) (n + 1) 0 (st0 b n) m X og F H1 s1 hg _ (by omega) (by omega) (CHX_fr (fr_refl (fun _ => False) _) (fun b w => w.elim)) K1 k13 S1 ⟨rfl, rfl⟩ ?_
  intro h2 s2 F2 hg2 d e m2 X2 og2 sp C2 K2 h132 fk
  have nch : ∀ x, x < 83 → ¬ (2 ≤ x ∧ x ≤ 8) → ¬ (13 ≤ x ∧ x ≤ 46) → ¬ chS F x := fun x x1 x2 x3 w => by
    rcases w with w | w | ⟨i, a, i1, i2, i3⟩
    · exact x2 w
    · exact x3 w
    · have := (hS.2.2.2.2.2.1 i a i1 i2).1
      omega
  have e1 : h2.2 1 = cpb V := (C2.1.2 1 (by rw [F1.1]; omega) (nch 1 (by omega) (by omega) (by omega))).trans k1
  have e9 : h2.2 9 = cw 4000 c n ov := (C2.1.2 9 (by rw [F1.1]; omega) (nch 9 (by omega) (by omega) (by omega))).trans k9
  have h10 := fun (z : Int32) (Q : Option Value → pb_H → Prop) => m10 (Q := Q) (n := z) e9
  have e0 : (Sum.inr (0, [Value.int (nI 4000), Value.ref c, Value.int 0, Value.int 0]) : pb_E) = cw 4000 c 0 0 := rfl
  have F3 : fr (fun b => b = 9) h2 (pb_set h2 9 (cw 4000 c 0 0)) := fr_set rfl (by rw [e9]; rfl)
  simp only [Option.toList_some, List.singleton_append, pb_e127, e1, pb_g11, e9, pb_g0, pb_o_some, true_and, h10, Option.toList_none, List.nil_append, e0]
  obtain ⟨⟨fs2, g2, rel2, CC⟩, _, k3', k4'⟩ := K2
  have hle := C2.1.1
  rw [F1.1] at hle
  refine hQ _ s2 fs2 g2 rel2 F2 hg2 d e m2 X2 og2 sp ⟨hle, fun x x1 x2 => ?_⟩ ⟨?_, C2.2.2.1, ?_, ?_⟩ (by rw [pb_set_get, if_pos rfl]) ((F3.2.2 5 (by omega)).trans CC.1.1) ?_ ((F3.2.2 6 (by omega)).trans CC.2.1) ((F3.2.2 7 (by omega)).trans CC.2.2.1) ((F3.2.2 8 (by omega)).trans CC.2.2.2.1) ((F3.2.2 13 (by omega)).trans h132) (CKs_fr F3 (fun b w => by omega) k3') (SHL_fr F3 (fun b w => by omega) k4')
  · rw [F3.2.2 x (fun w => x2 (Or.inr w)), C2.1.2 x (by rw [F1.1]; exact x1) (fun w => x2 (Or.inl w)), F1.2.2 x (fun w => x2 (Or.inl (Or.inl (by omega))))]
  · intro i a i1 i2
    have := C2.2.1 i a i1 i2
    rw [F1.1] at this
    exact this
  · have := C2.2.2.2.1
    rw [F1.1] at this
    rw [F3.1]
    exact this
  · have := C2.2.2.2.2
    rw [fr_sl F1] at this
    rw [fr_sl F3]
    exact this
  · cases e with
    | none => exact ⟨fk.1.trans z7, fk.2.trans z8⟩
    | some e => exact fk
end CHK
