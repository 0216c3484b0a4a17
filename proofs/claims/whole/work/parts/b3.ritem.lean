/-! The reference's ITEMS: numbered -/
abbrev itS : Nat → Prop := fun k => (14 ≤ k ∧ k ≤ 18) ∨ k = 8 ∨ k = 9 ∨ k = 20
abbrev itG : Nat → Prop := fun k => (14 ≤ k ∧ k ≤ 18) ∨ k = 20
theorem itG_S {s s' : Nat → Int32} (h : kp itG s s') : kp itS s s' := kp_mono (fun k w => by omega) h
abbrev hiS : Nat → Prop := fun i => 5117 ≤ i
def RLX (V : Nat) (G : Nat → Nat) (sg : Nat → Int32) (m : Nat) (X : Nat → LN) : Prop := RLn V G sg m X ∧ ∀ k, 1 ≤ k → k ≤ m → ln_fit V (X k)
/-- the STACK: rows 301 and on -/
def RSK (V : Nat) (G : Nat → Nat) (sg : Nat → Int32) (hg : Nat) (S : Nat → LN) : Prop := ∀ i, i < hg → RR V G sg (301 + i) (S i) ∧ ln_fit V (S i)
def RK (h : pb_H) (V n : Nat) (b : Nat → Nat) (s : Nat → Int32) (G : Nat → Nat) (sg : Nat → Int32) (m : Nat) (X : Nat → LN) : Prop := RZ h V n b s G sg ∧ s 4 = nI m ∧ m ≤ 300 ∧ RLX V G sg m X
theorem fit_dv {V N : Nat} {x : LN} (hN : N ≠ 0) (h : ln_fit V x) : ln_fit V (ln_dv x N) := by
  refine ⟨Nat.lt_of_le_of_lt (cdv_le _ _ hN) h.1, fun v v1 v2 => ?_⟩
  show Int.natAbs ((x.2 v).sign * (cdv (x.2 v).natAbs N : Int)) < B8
  rw [(sgI_dv hN).2]
  exact Nat.lt_of_le_of_lt (cdv_le _ _ hN) (h.2 v v1 v2)
theorem fit_wo {V u : Nat} {x : LN} (h : ln_fit V x) : ln_fit V (ln_wo x u) := by
  refine ⟨Nat.lt_of_le_of_lt (Nat.sub_le _ _) h.1, fun v v1 v2 => ?_⟩
  show Int.natAbs (if v = u then 0 else x.2 v) < B8
  split
  · decide
  · exact h.2 v v1 v2
theorem cut_abs (x : LN) (v : Nat) : ((x.2 v).sign * (min (x.2 v).natAbs x.1 : Nat) : Int).natAbs ≤ (x.2 v).natAbs := by
  rw [Int.natAbs_mul, Int.natAbs_natCast]
  rcases Int.lt_trichotomy (x.2 v) 0 with c | c | c
  · rw [Int.sign_eq_neg_one_of_neg c]
    simp only [Int.natAbs_neg, Int.natAbs_one, Nat.one_mul]
    exact Nat.min_le_left _ _
  · rw [c]; simp
  · rw [Int.sign_eq_one_of_pos c]
    simp only [Int.natAbs_one, Nat.one_mul]
    exact Nat.min_le_left _ _
theorem fit_cut {V : Nat} {x : LN} (h : ln_fit V x) : ln_fit V (ln_cut x) := by
  refine ⟨h.1, fun v v1 v2 => ?_⟩
  have := cut_abs x v
  show Int.natAbs ((x.2 v).sign * (min (x.2 v).natAbs x.1 : Nat)) < B8
  have := h.2 v v1 v2
  omega
theorem fit_lit {V u : Nat} {z : Int} (hz : z = 1 ∨ z = -1) : ln_fit V (ln_lit u z) := by
  refine ⟨by show 0 < B8; decide, fun v _ _ => ?_⟩
  show Int.natAbs (if v = u then z else 0) < B8
  split
  · rcases hz with e | e <;> subst e <;> decide
  · decide
section RIT
variable {h : pb_H} {Q : Option Value → pb_H → Prop} {V n m hg st : Nat} {b : Nat → Nat} {s sg : Nat → Int32} {G : Nat → Nat} {X S : Nat → LN}
theorem RLX_NF {T : Nat → Prop} {G' : Nat → Nat} {sg' : Nat → Int32} (hV : V ≤ 16) (hm : m ≤ 300) (N : NF T G sg G' sg') (hT : ∀ i, T i → 5117 ≤ i) (hL : RLX V G sg m X) : RLX V G' sg' m X := ⟨fun k k1 k2 => RR_NF N (fun v hv w => by have := hT _ w; omega) (hL.1 k k1 k2), hL.2⟩
theorem RSK_NF {T : Nat → Prop} {G' : Nat → Nat} {sg' : Nat → Int32} (hV : V ≤ 16) (h12 : hg ≤ 12) (N : NF T G sg G' sg') (hT : ∀ i, T i → i < 5117 ∨ 5321 ≤ i) (hS : RSK V G sg hg S) : RSK V G' sg' hg S := fun i hi => ⟨RR_NF N (fun v hv w => by have := hT _ w; omega) (hS i hi).1, (hS i hi).2⟩
theorem RSK_put {T : Nat → Prop} {G' : Nat → Nat} {sg' : Nat → Int32} {j : Nat} {x : LN} (hV : V ≤ 16) (hj : j ≤ hg) (j12 : j < 12) (N : NF T G sg G' sg') (hT : ∀ i, T i → rwS (301 + j) i ∨ 5440 ≤ i) (R : RR V G' sg' (301 + j) x) (ft : ln_fit V x) (hS : RSK V G sg hg S) : RSK V G' sg' (j + 1) (lput S j x) := fun i hi => by
  unfold lput
  by_cases e : i = j
  · subst e
    rw [if_pos rfl]
    exact ⟨R, ft⟩
  · rw [if_neg e]
    obtain ⟨a1, a2⟩ := hS i (by omega)
    exact ⟨RR_NF N (fun v hv w => by have := hT _ w; omega) a1, a2⟩
theorem RR_copy {G' : Nat → Nat} {sg' : Nat → Int32} {r q : Nat} {x : LN} (hV : V ≤ 16) (hc : ∀ v, v < 17 → rv G' (r * 17 + v) = rv G (q * 17 + v) ∧ sg' (r * 17 + v) = sg (q * 17 + v)) (hR : RR V G sg q x) : RR V G' sg' r x := by
  refine ⟨(hc 0 (by omega)).1.trans hR.1, fun v v1 v2 => ⟨?_, ?_⟩⟩
  · rw [(hc v (by omega)).1]; exact (hR.2 v v1 v2).1
  · rw [(hc v (by omega)).2]; exact (hR.2 v v1 v2).2
theorem n301 {m : Nat} : (301 : Int32) + nI m = nI (301 + m) := nI_add 301 m
theorem at3203 {h : pb_H} {Q : Option Value → pb_H → Prop} : pb_call 143 [.int 320, .int 3] h Q ↔ Q (some (.int (nI (5443 * 20)))) h := A143 (r := 320) (v := 3)
/-- RK where only the object changed, or numbers from 301 * 17 on -/
theorem RK_up {h' : pb_H} {s' : Nat → Int32} {G' : Nat → Nat} {sg' : Nat → Int32} {T : Nat → Prop} (hV : V ≤ 16) (K : RK h V n b s G sg m X) (Z : RZ h' V n b s' G' sg') (h4 : s' 4 = s 4) (N : NF T G sg G' sg') (hT : ∀ i, T i → 5117 ≤ i) : RK h' V n b s' G' sg' m X := ⟨Z, h4.trans K.2.1, K.2.2.1, RLX_NF hV K.2.2.1 N hT K.2.2.2⟩
/-- a FAULT -/
theorem RK_ft {f p : Int32} (hV : V ≤ 16) (K : RK h V n b s G sg m X) : RK (pb_set h 65 (rm (upd (upd s 8 f) 9 p))) V n b (upd (upd s 8 f) 9 p) G sg m X ∧ fr rS h (pb_set h 65 (rm (upd (upd s 8 f) 9 p))) := by
  obtain ⟨Z, F⟩ := RZ_obj K.1 (s' := upd (upd s 8 f) 9 p) (by rw [upd_ne _ _ (by omega), upd_ne _ _ (by omega)]) (by rw [upd_ne _ _ (by omega), upd_ne _ _ (by omega)])
  exact ⟨RK_up hV K Z (by rw [upd_ne _ _ (by omega), upd_ne _ _ (by omega)]) (NF_refl (fun _ => False) _ _) (fun i w => w.elim), F⟩
theorem h178_1 {k : Nat} (h65 : h.2 65 = rm s) (hS : RSt b n st s) (hk : k = 62 ∨ k = 60 ∨ sow k) (hb : ∀ k, b k < 256) (e : tkk b n st = k) : ∀ Q : Option Value → pb_H → Prop, pb_call 178 [.ref 65, .int (nI k)] h Q ↔ Q (some (.int 1)) h := fun Q => by rw [R178 h65 hS hk hb, if_pos e]
theorem h178_0 {k : Nat} (h65 : h.2 65 = rm s) (hS : RSt b n st s) (hk : k = 62 ∨ k = 60 ∨ sow k) (hb : ∀ k, b k < 256) (e : ¬ tkk b n st = k) : ∀ Q : Option Value → pb_H → Prop, pb_call 178 [.ref 65, .int (nI k)] h Q ↔ Q (some (.int 0)) h := fun Q => by rw [R178 h65 hS hk hb, if_neg e]
/-- numbered -/
theorem U193 (hV : V ≤ 16) (K : RK h V n b s G sg m X) (h20 : s 20 = nI hg) (h12 : hg ≤ 12) (hS : RSK V G sg hg S) (hT : RSt b n st s) (hk : tkk b n st = 48)
    (hQ1 : ∀ h' s' G' sg' st' hg' S', iNum b n V m X st hg S = .inr (st', hg', S') → fr rS h h' → RK h' V n b s' G' sg' m X → s' 20 = nI hg' → hg' ≤ 12 → RSK V G' sg' hg' S' → RSt b n st' s' → kp itG s s' → NF hiS G sg G' sg' → Q (some (.int 1)) h')
    (hQ0 : ∀ h' s' G' sg' e, iNum b n V m X st hg S = .inl e → fr rS h h' → RK h' V n b s' G' sg' m X → kp itS s s' → NF hiS G sg G' sg' → FR s' e → Q (some (.int 0)) h') : pb_call 193 [.ref 65] h Q := by
  have hb := K.1.2.2.2.2.1
  have i10 : ¬ (1 : Int32) = 0 := by decide
  have e16 := hT.1
  have e17 := hT.2.2.2.1 (by omega)
  rw [pb_c193]
  simp only [pb_e193, K.1.1.1, pb_gr, pb_o_some, e16, e17, true_and]
  refine Z177 K.1 hT (by omega) ?_
  intro h1 s1 F1 Z1 T1 k1
  have K1 : RK h1 V n b s1 G sg m X := RK_up hV K Z1 (k1 4 (by omega)) (NF_refl (fun _ => False) _ _) (fun i w => w.elim)
  have h201 : s1 20 = nI hg := (k1 20 (by omega)).trans h20
  have kp1 : kp itG s s1 := kp_mono (fun k w => Or.inl (by omega)) k1
  have h183 := fun (f q : Int32) (Q : Option Value → pb_H → Prop) => R183 (Q := Q) (f := f) (p := q) Z1.1.1
  have bad : ∀ (H : pb_H) (s' : Nat → Int32) (G' : Nat → Nat) (f q : Nat) (e e2 : Int32), RK H V n b s' G' sg m X → fr rS h H → kp itG s s' → NF hiS G sg G' sg → e = nI f → e2 = nI q → iNum b n V m X st hg S = .inl (f, q) → Q (some (.int 0)) (pb_set H 65 (rm (upd (upd s' 8 e) 9 e2))) := by
    intro H s' G' f q e e2 K' F' kp' N' he hq sp
    obtain ⟨K2, F2⟩ := RK_ft (f := e) (p := e2) hV K'
    exact hQ0 _ _ G' sg _ sp (fr_trans F' F2) K2 (kp_trans (itG_S kp') (kp_trans (kp_upd (Or.inr (Or.inl rfl))) (kp_upd (Or.inr (Or.inr (Or.inl rfl)))))) N' ⟨by rw [upd_ne _ _ (by omega), upd_same]; exact he, by rw [upd_same]; exact hq⟩
  by_cases ck : tkk b n (nxt b n st) = 42 ∨ tkk b n (nxt b n st) = 100
  · have sp : iNum b n V m X st hg S = (if tkn b n st = 0 then .inl (3, st)
      else if hg = 0 then .inl (4, nxt b n st)
      else if tkk b n (nxt b n st) = 100 then .inr (nxt b n (nxt b n st), hg, lput S (hg - 1) (ln_dv (S (hg - 1)) (tkn b n st)))
      else if fitb V (ln_tm (S (hg - 1)) (tkn b n st)) = true then .inr (nxt b n (nxt b n st), hg, lput S (hg - 1) (ln_tm (S (hg - 1)) (tkn b n st)))
      else .inl (5, nxt b n st)) := by
      unfold iNum
      rw [if_pos ck]
    have hgo : pb_R 193 14 [some (.ref 65), some (.int (nI st)), some (.int (nI (tke b n st))), none, none] [] [] h1 Q ↔ pb_R 193 91 [some (.ref 65), some (.int (nI st)), some (.int (nI (tke b n st))), none, none] [] [] h1 Q := by
      by_cases c1 : tkk b n (nxt b n st) = 42
      · have q : ∀ Q : Option Value → pb_H → Prop, pb_call 178 [.ref 65, .int 42] h1 Q ↔ Q (some (.int 1)) h1 := h178_1 (k := 42) Z1.1.1 T1 (Or.inr (Or.inr (Or.inl rfl))) hb c1
        simp only [pb_e193, Z1.1.1, pb_gr, true_and, q, Option.toList_some, List.singleton_append, i10, not_false_eq_true, if_true]
      · have q : ∀ Q : Option Value → pb_H → Prop, pb_call 178 [.ref 65, .int 42] h1 Q ↔ Q (some (.int 0)) h1 := h178_0 (k := 42) Z1.1.1 T1 (Or.inr (Or.inr (Or.inl rfl))) hb c1
        have q2 : ∀ Q : Option Value → pb_H → Prop, pb_call 178 [.ref 65, .int 100] h1 Q ↔ Q (some (.int 1)) h1 := h178_1 (k := 100) Z1.1.1 T1 (Or.inr (Or.inr (by unfold sow; omega))) hb (by omega)
        simp only [pb_e193, Z1.1.1, pb_gr, true_and, q, q2, Option.toList_some, List.singleton_append, i10, not_false_eq_true, if_true, not_true_eq_false, if_false]
    suffices key : pb_R 193 14 [some (.ref 65), some (.int (nI st)), some (.int (nI (tke b n st))), none, none] [] [] h1 Q by
      simp only [pb_e193, Z1.1.1, pb_gr, true_and] at key
      simp only [Option.toList_none, List.nil_append, pb_e193, Z1.1.1, pb_gr, true_and]
      exact key
    rw [hgo]
    simp only [pb_e193, at3203, Option.toList_some, List.singleton_append, Z1.1.1, pb_gr, true_and]
    refine A181 (st := st) Z1.1 (RZ_RT Z1) hk (by omega) ?_
    intro h2 G2 F2 X2 T2 nb2 v2
    have Z2 : RZ h2 V n b s1 G2 sg := RZ_fr Z1 F2 X2 rfl rfl
    have N2 : NF (fun i => i = 5443) G sg G2 sg := NF_nb rfl nb2
    have K2 : RK h2 V n b s1 G2 sg m X := RK_up hV K1 Z2 rfl N2 (fun i w => by omega)
    have S2 : RSK V G2 sg hg S := RSK_NF hV h12 N2 (fun i w => by omega) hS
    have h147 := fun Q : Option Value → pb_H → Prop => A147 (Q := Q) (i := 5443) X2 (by omega)
    rw [v2] at h147
    have h183 := fun (f q : Int32) (Q : Option Value → pb_H → Prop) => R183 (Q := Q) (f := f) (p := q) X2.1
    have NH : NF hiS G sg G2 sg := NF_mono (fun i w => by omega) N2
    by_cases z : tkn b n st = 0
    · rw [if_pos z] at sp
      have q : ∀ Q : Option Value → pb_H → Prop, pb_call 147 [.ref 65, .int (nI (5443 * 20))] h2 Q ↔ Q (some (.int 1)) h2 := fun Q => by rw [h147, if_pos z]
      simp only [Option.toList_none, List.nil_append, pb_e193, X2.1, pb_gr, true_and, q, Option.toList_some, List.singleton_append, i10, if_false, h183, nb0]
      exact bad h2 s1 G2 3 st 3 _ K2 (fr_trans F1 F2) kp1 NH rfl rfl sp
    · rw [if_neg z] at sp
      have q : ∀ Q : Option Value → pb_H → Prop, pb_call 147 [.ref 65, .int (nI (5443 * 20))] h2 Q ↔ Q (some (.int 0)) h2 := fun Q => by rw [h147, if_neg z]
      by_cases hz : hg = 0
      · rw [if_pos hz] at sp
        have c0 : nI hg = 0 := by rw [hz]; rfl
        simp only [Option.toList_none, List.nil_append, pb_e193, X2.1, pb_gr, true_and, q, Option.toList_some, List.singleton_append, if_true, pb_o_some, h201, c0, not_true_eq_false, if_false, h183, T1.1, nb0]
        exact bad h2 s1 G2 4 _ 4 _ K2 (fr_trans F1 F2) kp1 NH rfl rfl sp
      · rw [if_neg hz] at sp
        have c0 : ¬ nI hg = 0 := nI_ne0 (by omega) (by omega)
        obtain ⟨j, rfl⟩ : ∃ j, hg = j + 1 := ⟨hg - 1, by omega⟩
        rw [Nat.add_sub_cancel] at sp
        have e301 : (301 : Int32) + nI (j + 1) - 1 = nI (301 + j) := by rw [n301]; exact nI_pred (301 + j)
        obtain ⟨Rj, fj⟩ := S2 j (by omega)
        have tail : ∀ h3 s3 G3 sg3 x l3 l4, fr rS h h3 → RK h3 V n b s3 G3 sg3 m X → s3 20 = nI (j + 1) → RSK V G3 sg3 (j + 1) (lput S j x) → RSt b n (nxt b n st) s3 → kp itG s s3 → NF hiS G sg G3 sg3 → iNum b n V m X st (j + 1) S = .inr (nxt b n (nxt b n st), j + 1, lput S j x) → pb_R 193 189 [some (.ref 65), some (.int (nI st)), some (.int (nI (tke b n st))), l3, l4] [] [] h3 Q := by
          intro h3 s3 G3 sg3 x l3 l4 F3 K3 h203 S3 T3 kp3 N3 sp3
          simp only [pb_e193, K3.1.1.1, pb_gr, true_and]
          refine Z177 K3.1 T3 (by omega) ?_
          intro h4 s4 F4 Z4 T4 k4
          simp only [Option.toList_none, List.nil_append, pb_e193, nb1, true_and]
          exact hQ1 h4 s4 G3 sg3 _ (j + 1) _ sp3 (fr_trans F3 F4) (RK_up hV K3 Z4 (k4 4 (by omega)) (NF_refl (fun _ => False) _ _) (fun i w => w.elim)) ((k4 20 (by omega)).trans h203) h12 S3 T4 (kp_trans kp3 (kp_mono (fun k w => Or.inl (by omega)) k4)) N3
        by_cases cd : tkk b n (nxt b n st) = 100
        · rw [if_pos cd] at sp
          have q2 : ∀ Q : Option Value → pb_H → Prop, pb_call 178 [.ref 65, .int 100] h2 Q ↔ Q (some (.int 1)) h2 := h178_1 (k := 100) X2.1 T1 (Or.inr (Or.inr (by unfold sow; omega))) hb cd
          simp only [Option.toList_none, List.nil_append, pb_e193, X2.1, pb_gr, true_and, q, Option.toList_some, List.singleton_append, if_true, pb_o_some, h201, c0, not_false_eq_true, e301, q2, i10, if_false]
          refine A167 (j := 5443) X2 Z1.2.2.2.2.2 hV (by omega) (by omega) (by omega) Rj (by rw [v2]; exact z) ?_
          intro h3 s3 G3 F3 X3 sq3 N3 R3
          rw [v2] at R3
          have Z3 : RZ h3 V n b s3 G3 sg := RZ_fr Z2 F3 X3 (sq3 7 (by omega)) (sq3 3 (by omega))
          have K3 : RK h3 V n b s3 G3 sg m X := RK_up hV K2 Z3 (sq3 4 (by omega)) N3 (fun i w => by omega)
          have S3 := RSK_put (j := j) hV (by omega) (by omega) N3 (fun i w => Or.inl w) R3 (fit_dv z fj) S2
          have key := tail h3 s3 G3 sg _ (some (.int (nI (5443 * 20)))) (some (.int (nI (301 + j)))) (fr_trans F1 (fr_trans F2 F3)) K3 ((sq3 20 (by omega)).trans h201) S3 (RSt_kp T1 (sq3 15 (by omega)) (sq3 16 (by omega)) (sq3 17 (by omega)) (sq3 18 (by omega))) (kp_trans kp1 (fun k hk => sq3 k (by omega))) (NF_trans NH (NF_mono (fun i w => by omega) N3)) sp
          simp only [pb_e193, X3.1, pb_gr, true_and] at key
          simp only [Option.toList_none, List.nil_append, pb_e193, X3.1, pb_gr, true_and]
          exact key
        · rw [if_neg cd] at sp
          have q2 : ∀ Q : Option Value → pb_H → Prop, pb_call 178 [.ref 65, .int 100] h2 Q ↔ Q (some (.int 0)) h2 := h178_0 (k := 100) X2.1 T1 (Or.inr (Or.inr (by unfold sow; omega))) hb cd
          simp only [Option.toList_none, List.nil_append, pb_e193, X2.1, pb_gr, true_and, q, Option.toList_some, List.singleton_append, if_true, pb_o_some, h201, c0, not_false_eq_true, e301, q2]
          refine A166 (j := 5443) X2 Z1.2.2.2.2.2 hV (by omega) (by omega) (by omega) Rj (by rw [v2]; exact z) ?_ ?_
          · intro h3 G3 F3 X3 N3 ft R3
            rw [v2] at R3 ft
            rw [if_pos (fitb_1 ft)] at sp
            have Z3 : RZ h3 V n b s1 G3 sg := RZ_fr Z2 F3 X3 rfl rfl
            have K3 : RK h3 V n b s1 G3 sg m X := RK_up hV K2 Z3 rfl N3 (fun i w => by omega)
            have S3 := RSK_put (j := j) hV (by omega) (by omega) N3 (fun i w => Or.inl w) R3 ft S2
            have key := tail h3 s1 G3 sg _ (some (.int (nI (5443 * 20)))) (some (.int (nI (301 + j)))) (fr_trans F1 (fr_trans F2 F3)) K3 h201 S3 T1 kp1 (NF_trans NH (NF_mono (fun i w => by omega) N3)) sp
            simp only [pb_e193, X3.1, pb_gr, true_and] at key
            simp only [Option.toList_some, List.singleton_append, pb_e193, i10, not_false_eq_true, if_true, X3.1, pb_gr, true_and]
            exact key
          · intro h3 G3 F3 X3 N3 nf
            rw [v2] at nf
            rw [if_neg (fitb_0 nf)] at sp
            have Z3 : RZ h3 V n b s1 G3 sg := RZ_fr Z2 F3 X3 rfl rfl
            have K3 : RK h3 V n b s1 G3 sg m X := RK_up hV K2 Z3 rfl N3 (fun i w => by omega)
            have h183' := fun (f q : Int32) (Q : Option Value → pb_H → Prop) => R183 (Q := Q) (f := f) (p := q) X3.1
            simp only [Option.toList_some, List.singleton_append, pb_e193, not_true_eq_false, if_false, X3.1, pb_gr, true_and, pb_o_some, T1.1, h183', nb0]
            exact bad h3 s1 G3 5 _ 5 _ K3 (fr_trans F1 (fr_trans F2 F3)) kp1 (NF_trans NH (NF_mono (fun i w => by omega) N3)) rfl rfl sp
  · have sp : iNum b n V m X st hg S = (if 1 ≤ tkn b n st ∧ tkn b n st ≤ m then (if hg < 12 then .inr (nxt b n st, hg + 1, lput S hg (X (tkn b n st))) else .inl (4, st)) else .inl (2, st)) := by
      unfold iNum
      rw [if_neg ck]
    have q : ∀ Q : Option Value → pb_H → Prop, pb_call 178 [.ref 65, .int 42] h1 Q ↔ Q (some (.int 0)) h1 := h178_0 (k := 42) Z1.1.1 T1 (Or.inr (Or.inr (Or.inl rfl))) hb (fun e => ck (Or.inl e))
    have q2 : ∀ Q : Option Value → pb_H → Prop, pb_call 178 [.ref 65, .int 100] h1 Q ↔ Q (some (.int 0)) h1 := h178_0 (k := 100) Z1.1.1 T1 (Or.inr (Or.inr (by unfold sow; omega))) hb (fun e => ck (Or.inr e))
    have h182 := fun Q : Option Value → pb_H → Prop => R182 (Q := Q) (st := st) (RZ_RT Z1) hk K1.2.1 K1.2.2.1
    have m300 := K.2.2.1
    by_cases cm : 1 ≤ tkn b n st ∧ tkn b n st ≤ m
    · rw [if_pos cm] at sp
      rw [if_pos cm.2] at h182
      have c0 : ¬ nI (tkn b n st) = 0 := nI_ne0 (by omega) (by omega)
      have k12 : nI hg = 12 ↔ hg = 12 := nI_eq (b := 12) (by omega) (by omega)
      by_cases c12 : hg < 12
      · rw [if_pos c12] at sp
        have n12 : ¬ nI hg = 12 := fun e => by have := k12.mp e; omega
        simp only [Option.toList_none, List.nil_append, pb_e193, Z1.1.1, pb_gr, true_and, q, q2, Option.toList_some, List.singleton_append, not_true_eq_false, if_false, h182, c0, not_false_eq_true, if_true, pb_o_some, h201, n12, n301]
        refine A162 Z1.1 (by omega) (by omega) (by omega) ?_
        intro h2 G2 sg2 F2 X2 N2 cp2
        have R2 : RR V G2 sg2 (301 + hg) (X (tkn b n st)) := RR_copy hV cp2 (K1.2.2.2.1 (tkn b n st) cm.1 cm.2)
        obtain ⟨X3, F3⟩ := RX_obj X2 (s' := upd s1 20 (nI (hg + 1)))
        have Z3 : RZ (pb_set h2 65 (rm (upd s1 20 (nI (hg + 1))))) V n b (upd s1 20 (nI (hg + 1))) G2 sg2 := RZ_fr Z1 (fr_trans F2 F3) X3 (by rw [upd_ne _ _ (by omega)]) (by rw [upd_ne _ _ (by omega)])
        have K3 := RK_up hV K1 Z3 (by rw [upd_ne _ _ (by omega)]) N2 (fun i w => by omega)
        simp only [Option.toList_none, List.nil_append, pb_e193, X2.1, pb_gr, pb_o_some, h201, nI_1, nb1, true_and]
        exact hQ1 _ _ G2 sg2 _ _ _ sp (fr_trans F1 (fr_trans F2 F3)) K3 (upd_same _ _ _) (by omega) (RSK_put (j := hg) hV (Nat.le_refl _) c12 N2 (fun i w => Or.inl w) R2 (K.2.2.2.2 _ cm.1 cm.2) hS) (RSt_kp T1 (by rw [upd_ne _ _ (by omega)]) (by rw [upd_ne _ _ (by omega)]) (by rw [upd_ne _ _ (by omega)]) (by rw [upd_ne _ _ (by omega)])) (kp_trans kp1 (kp_upd (Or.inr rfl))) (NF_mono (fun i w => by omega) N2)
      · rw [if_neg c12] at sp
        have n12 : nI hg = 12 := k12.mpr (by omega)
        simp only [Option.toList_none, List.nil_append, pb_e193, Z1.1.1, pb_gr, true_and, q, q2, Option.toList_some, List.singleton_append, not_true_eq_false, if_false, h182, c0, not_false_eq_true, if_true, pb_o_some, h201, n12, h183, nb0]
        exact bad h1 s1 G 4 st 4 _ K1 F1 kp1 (NF_refl _ _ _) rfl rfl sp
    · rw [if_neg cm] at sp
      have c0 : nI (if tkn b n st ≤ m then tkn b n st else 0) = 0 := by
        by_cases c : tkn b n st ≤ m
        · rw [if_pos c, show tkn b n st = 0 by omega]; rfl
        · rw [if_neg c]; rfl
      simp only [Option.toList_none, List.nil_append, pb_e193, Z1.1.1, pb_gr, true_and, q, q2, Option.toList_some, List.singleton_append, not_true_eq_false, if_false, h182, c0, h183, nb0]
      exact bad h1 s1 G 2 st 2 _ K1 F1 kp1 (NF_refl _ _ _) rfl rfl sp
end RIT
