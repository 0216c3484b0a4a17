/-! The reference's rows: clear, copyRow, hasRoom, without, cut -/
def sgI (z : Int) : Int32 := if 0 < z then 1 else if z < 0 then -1 else 0
theorem sgI_0 : sgI 0 = 0 := rfl
theorem sgI_pos {z : Int} (h : 0 < z) : sgI z = 1 := if_pos h
theorem sgI_neg {z : Int} (h : z < 0) : sgI z = -1 := by unfold sgI; rw [if_neg (by omega), if_pos h]
theorem sgI_eq0 {z : Int} : sgI z = 0 ↔ z = 0 := by
  rcases Int.lt_trichotomy z 0 with c | c | c
  · rw [sgI_neg c]; exact ⟨fun e => absurd e (by decide), fun e => by omega⟩
  · rw [c]; exact ⟨fun _ => rfl, fun _ => rfl⟩
  · rw [sgI_pos c]; exact ⟨fun e => absurd e (by decide), fun e => by omega⟩
/-- row r is the LINE x -/
def RR (V : Nat) (G : Nat → Nat) (sg : Nat → Int32) (r : Nat) (x : LN) : Prop := rv G (r * 17) = x.1 ∧ ∀ v, 1 ≤ v → v ≤ V → rv G (r * 17 + v) = (x.2 v).natAbs ∧ sg (r * 17 + v) = sgI (x.2 v)
/-- nothing but the numbers of S has changed -/
def NF (S : Nat → Prop) (G : Nat → Nat) (sg : Nat → Int32) (G' : Nat → Nat) (sg' : Nat → Int32) : Prop := ∀ i, ¬ S i → (∀ k, i * 20 ≤ k → k < i * 20 + 20 → G' k = G k) ∧ sg' i = sg i
theorem NF_refl (S : Nat → Prop) (G : Nat → Nat) (sg : Nat → Int32) : NF S G sg G sg := fun _ _ => ⟨fun _ _ _ => rfl, rfl⟩
theorem NF_trans {S : Nat → Prop} {G G' G'' : Nat → Nat} {sg sg' sg'' : Nat → Int32} (a : NF S G sg G' sg') (b : NF S G' sg' G'' sg'') : NF S G sg G'' sg'' := fun i hi => ⟨fun k k1 k2 => ((b i hi).1 k k1 k2).trans ((a i hi).1 k k1 k2), (b i hi).2.trans (a i hi).2⟩
theorem NF_mono {S T : Nat → Prop} {G G' : Nat → Nat} {sg sg' : Nat → Int32} (h : ∀ i, S i → T i) (a : NF S G sg G' sg') : NF T G sg G' sg' := fun i hi => a i (fun q => hi (h i q))
theorem NF_nb {S : Nat → Prop} {G G' : Nat → Nat} {sg : Nat → Int32} {i : Nat} (hS : S i) (h : NB i G G') : NF S G sg G' sg := fun j hj => ⟨fun k k1 k2 => h k (by
  have : j ≠ i := fun e => hj (by rw [e]; exact hS)
  omega), rfl⟩
theorem NF_sg {S : Nat → Prop} {G : Nat → Nat} {sg : Nat → Int32} {i : Nat} {x : Int32} (hS : S i) : NF S G sg G (upd sg i x) := fun j hj => ⟨fun _ _ _ => rfl, upd_ne _ _ (fun e => hj (by rw [e]; exact hS))⟩
theorem NF_rv {S : Nat → Prop} {G G' : Nat → Nat} {sg sg' : Nat → Int32} (a : NF S G sg G' sg') {i : Nat} (hi : ¬ S i) : rv G' i = rv G i := rn_congr (fun j hj => (a i hi).1 _ (by omega) (by omega))
theorem RR_NF {S : Nat → Prop} {V r : Nat} {G G' : Nat → Nat} {sg sg' : Nat → Int32} {x : LN} (a : NF S G sg G' sg') (hS : ∀ v, v ≤ V → ¬ S (r * 17 + v)) (h : RR V G sg r x) : RR V G' sg' r x := ⟨(NF_rv a (i := r * 17) (hS 0 (by omega))).trans h.1, fun v v1 v2 => ⟨by rw [NF_rv a (hS v v2)]; exact (h.2 v v1 v2).1, by rw [(a _ (hS v v2)).2]; exact (h.2 v v1 v2).2⟩⟩
theorem RR_leq {V r : Nat} {G : Nat → Nat} {sg : Nat → Int32} {x y : LN} (e : leq V x y) (h : RR V G sg r x) : RR V G sg r y := ⟨by rw [h.1, e.1], fun v v1 v2 => by rw [← e.2 v v1 v2]; exact h.2 v v1 v2⟩
abbrev rwS (r : Nat) : Nat → Prop := fun i => r * 17 ≤ i ∧ i < r * 17 + 17
theorem A143 {h : pb_H} {Q : Option Value → pb_H → Prop} {r v : Nat} : pb_call 143 [.int (nI r), .int (nI v)] h Q ↔ Q (some (.int (nI ((r * 17 + v) * 20)))) h := R143
theorem A143z {h : pb_H} {Q : Option Value → pb_H → Prop} {r : Nat} : pb_call 143 [.int (nI r), .int 0] h Q ↔ Q (some (.int (nI ((r * 17) * 20)))) h := R143 (v := 0)
theorem nI17 : (17 : Int32) = nI 17 := rfl
section ROW
variable {h : pb_H} {Q : Option Value → pb_H → Prop} {s sg : Nat → Int32} {G : Nat → Nat} {V r q : Nat}
theorem sg_get {j : Nat} (hj : j < 6171) : pb_ai (ci 6171 sg) (nI j) = some (sg j) := pb_ai_eq (Or.inl rfl) hj (by omega)
theorem sg_set {j : Nat} {x : Int32} (hj : j < 6171) : pb_si (ci 6171 sg) (nI j) x = some (ci 6171 (upd sg j x)) := pb_si_eq hj (by omega)
/-- clear -/
theorem A161 (hX : RX h s G sg) (hr : r < 363) (hQ : ∀ h' G' sg', fr rS h h' → RX h' s G' sg' → NF (rwS r) G sg G' sg' → (∀ v, v < 17 → rv G' (r * 17 + v) = 0 ∧ sg' (r * 17 + v) = 0) → Q none h') : pb_call 161 [.ref 65, .int (nI r)] h Q := by
  have hl : ∀ n i h' G' sg', i + n = 17 → fr rS h h' → RX h' s G' sg' → NF (rwS r) G sg G' sg' → (∀ v, v < i → rv G' (r * 17 + v) = 0 ∧ sg' (r * 17 + v) = 0) → pb_R 161 2 [some (.ref 65), some (.int (nI r)), some (.int (nI i))] [] [] h' Q := by
    intro n
    induction n with
    | zero =>
      intro i h' G' sg' hi F X N hz
      obtain rfl : i = 17 := by omega
      rw [pb_q161_2]
      simp only [pb_e161, nI17, Int32.le_refl, if_true]
      exact hQ h' G' sg' F X N hz
    | succ n ih =>
      intro i h' G' sg' hi F X N hz
      have c1 : ¬ nI 17 ≤ nI i := nI_ge (by omega) (by omega)
      have e17 : nI r * nI 17 = nI (r * 17) := pk_mul r 17
      have hS := sg_set (sg := sg') (j := r * 17 + i) (x := 0) (by omega)
      obtain ⟨X2, F2⟩ := RX_sig X (sg' := upd sg' (r * 17 + i) 0)
      rw [pb_q161_2]
      simp only [pb_e161, nI17, c1, if_false, X.1, X.2.2.2.1, pb_gr, pb_o_some, true_and, e17, nI_add, hS, A143, Option.toList_some, List.singleton_append, X2.1]
      refine A144 X2 (by omega) ?_
      intro h3 G3 F3 X3 nb hv
      simp only [Option.toList_none, List.nil_append, pb_e161, nI_1]
      refine ih (i + 1) h3 G3 _ (by omega) (fr_trans F (fr_trans F2 F3)) X3 (NF_trans N (NF_trans (NF_sg (by omega)) (NF_nb (i := r * 17 + i) (by omega) nb))) (fun v hv' => ?_)
      by_cases e : v = i
      · subst e; exact ⟨hv, upd_same _ _ _⟩
      · rw [rv_ne nb (by omega), upd_ne _ _ (by omega)]; exact hz v (by omega)
  rw [pb_c161]
  simp only [pb_e161]
  exact hl 17 0 h G sg (by omega) (fr_refl _ _) hX (NF_refl _ _ _) (fun v hv => by omega)
/-- copyRow -/
theorem A162 (hX : RX h s G sg) (hr : r < 363) (hq : q < 363) (hqr : q ≠ r) (hQ : ∀ h' G' sg', fr rS h h' → RX h' s G' sg' → NF (rwS r) G sg G' sg' → (∀ v, v < 17 → rv G' (r * 17 + v) = rv G (q * 17 + v) ∧ sg' (r * 17 + v) = sg (q * 17 + v)) → Q none h') : pb_call 162 [.ref 65, .int (nI q), .int (nI r)] h Q := by
  have hl : ∀ n i h' G' sg', i + n = 17 → fr rS h h' → RX h' s G' sg' → NF (rwS r) G sg G' sg' → (∀ v, v < i → rv G' (r * 17 + v) = rv G (q * 17 + v) ∧ sg' (r * 17 + v) = sg (q * 17 + v)) → pb_R 162 2 [some (.ref 65), some (.int (nI q)), some (.int (nI r)), some (.int (nI i))] [] [] h' Q := by
    intro n
    induction n with
    | zero =>
      intro i h' G' sg' hi F X N hz
      obtain rfl : i = 17 := by omega
      rw [pb_q162_2]
      simp only [pb_e162, nI17, Int32.le_refl, if_true]
      exact hQ h' G' sg' F X N hz
    | succ n ih =>
      intro i h' G' sg' hi F X N hz
      have c1 : ¬ nI 17 ≤ nI i := nI_ge (by omega) (by omega)
      have e17 : ∀ r, nI r * nI 17 = nI (r * 17) := fun r => pk_mul r 17
      have hg := sg_get (sg := sg') (j := q * 17 + i) (by omega)
      have hS := sg_set (sg := sg') (j := r * 17 + i) (x := sg' (q * 17 + i)) (by omega)
      obtain ⟨X2, F2⟩ := RX_sig X (sg' := upd sg' (r * 17 + i) (sg' (q * 17 + i)))
      have hout : ¬ rwS r (q * 17 + i) := by omega
      rw [pb_q162_2]
      simp only [pb_e162, nI17, c1, if_false, X.1, X.2.2.2.1, pb_gr, pb_o_some, true_and, e17, nI_add, hg, hS, A143, Option.toList_some, List.singleton_append, X2.1]
      refine A146 X2 (by omega) (by omega) (by omega) ?_
      intro h3 G3 F3 X3 nb hv
      simp only [Option.toList_none, List.nil_append, pb_e162, nI_1]
      refine ih (i + 1) h3 G3 _ (by omega) (fr_trans F (fr_trans F2 F3)) X3 (NF_trans N (NF_trans (NF_sg (by omega)) (NF_nb (i := r * 17 + i) (by omega) nb))) (fun v hv' => ?_)
      by_cases e : v = i
      · subst e; exact ⟨by rw [hv, NF_rv N hout], by rw [upd_same, (N _ hout).2]⟩
      · rw [rv_ne nb (by omega), upd_ne _ _ (by omega)]; exact hz v (by omega)
  rw [pb_c162]
  simp only [pb_e162]
  exact hl 17 0 h G sg (by omega) (fr_refl _ _) hX (NF_refl _ _ _) (fun v hv => by omega)
/-- hasRoom -/
theorem A163 (hX : RX h s G sg) (hV : s 3 = nI V) (hV16 : V ≤ 16) (hr : r < 363) (hQ1 : (∀ v, v ≤ V → rv G (r * 17 + v) < 65536 ^ 16) → Q (some (.int 1)) h) (hQ0 : ¬ (∀ v, v ≤ V → rv G (r * 17 + v) < 65536 ^ 16) → Q (some (.int 0)) h) : pb_call 163 [.ref 65, .int (nI r)] h Q := by
  have hl : ∀ n i, i + n = V + 1 → (∀ v, v < i → rv G (r * 17 + v) < 65536 ^ 16) → pb_R 163 2 [some (.ref 65), some (.int (nI r)), some (.int (nI i))] [] [] h Q := by
    intro n
    induction n with
    | zero =>
      intro i hi hz
      obtain rfl : i = V + 1 := by omega
      have c1 : nI V < nI (V + 1) := nI_lt (by omega) (by omega)
      rw [pb_q163_2]
      simp only [pb_e163, hX.1, pb_gr, pb_o_some, true_and, hV, c1, if_true, nb1]
      exact hQ1 (fun v hv => hz v (by omega))
    | succ n ih =>
      intro i hi hz
      have c1 : ¬ nI V < nI i := nI_nlt (by omega) (by omega)
      have h154 := fun Q : Option Value → pb_H → Prop => A154 (Q := Q) hX (show r * 17 + i < 6171 by omega)
      rw [pb_q163_2]
      by_cases c : rv G (r * 17 + i) < 65536 ^ 16
      · simp only [pb_e163, hX.1, pb_gr, pb_o_some, true_and, hV, c1, if_false, A143, Option.toList_some, List.singleton_append, h154, c, if_true, nI_1]
        refine ih (i + 1) (by omega) (fun v hv => ?_)
        by_cases e : v = i
        · subst e; exact c
        · exact hz v (by omega)
      · have e10 : ¬ (1 : Int32) = 0 := by decide
        simp only [pb_e163, hX.1, pb_gr, pb_o_some, true_and, hV, c1, if_false, A143, Option.toList_some, List.singleton_append, h154, c, e10, nb0]
        exact hQ0 (fun e => c (e i (by omega)))
  rw [pb_c163]
  simp only [pb_e163]
  exact hl (V + 1) 0 (by omega) (fun v hv => by omega)
/-- without -/
theorem A169 {x : LN} {v : Nat} (hX : RX h s G sg) (hr : r < 363) (hV16 : V ≤ 16) (hR : RR V G sg r x) (h1 : 1 ≤ v) (h2 : v ≤ V) (hQ : ∀ h' G' sg', fr rS h h' → RX h' s G' sg' → NF (rwS r) G sg G' sg' → RR V G' sg' r (ln_wo x v) → Q none h') : pb_call 169 [.ref 65, .int (nI r), .int (nI v)] h Q := by
  have e17 : ∀ r, nI r * nI 17 = nI (r * 17) := fun r => pk_mul r 17
  have hg := sg_get (sg := sg) (j := r * 17 + v) (by omega)
  have hsv := hR.2 v h1 h2
  rw [pb_c169]
  by_cases c : x.2 v = 0
  · have hs0 : sg (r * 17 + v) = 0 := by rw [hsv.2, c]; rfl
    have hxe : ln_wo x v = x := by
      refine Prod.ext ?_ (funext fun u => ?_)
      · show x.1 - (x.2 v).natAbs = x.1
        rw [c]; rfl
      · show (if u = v then 0 else x.2 u) = x.2 u
        split
        · rename_i e; rw [e, c]
        · rfl
    simp only [pb_e169, nI17, hX.1, hX.2.2.2.1, pb_gr, pb_o_some, true_and, e17, nI_add, hg, hs0, if_true]
    exact hQ h G sg (fr_refl _ _) hX (NF_refl _ _ _) (by rw [hxe]; exact hR)
  · have hs0 : ¬ sg (r * 17 + v) = 0 := by rw [hsv.2, sgI_eq0]; exact c
    simp only [pb_e169, nI17, hX.1, hX.2.2.2.1, pb_gr, pb_o_some, true_and, e17, nI_add, hg, hs0, if_false, A143, A143z, Option.toList_some, List.singleton_append]
    refine A153 hX (by omega) (by omega) (by omega) ?_
    intro h2' G2 F2 X2 nb2 hv2
    simp only [Option.toList_none, List.nil_append, pb_e169, X2.1, pb_gr, true_and, A143, Option.toList_some, List.singleton_append]
    refine A144 X2 (by omega) ?_
    intro h3 G3 F3 X3 nb3 hv3
    have hS := sg_set (sg := sg) (j := r * 17 + v) (x := 0) (by omega)
    obtain ⟨X4, F4⟩ := RX_sig X3 (sg' := upd sg (r * 17 + v) 0)
    simp only [Option.toList_none, List.nil_append, pb_e169, nI17, X3.1, X3.2.2.2.1, pb_gr, pb_o_some, true_and, e17, nI_add, hS]
    refine hQ _ G3 _ (fr_trans F2 (fr_trans F3 F4)) X4 (NF_trans (NF_nb (i := r * 17) (by omega) nb2) (NF_trans (NF_nb (i := r * 17 + v) (by omega) nb3) (NF_sg (by omega)))) ⟨?_, fun u u1 u2 => ?_⟩
    · rw [rv_ne nb3 (by omega), hv2, hR.1, hsv.1]; rfl
    · show _ = Int.natAbs (if u = v then 0 else x.2 u) ∧ _ = sgI (if u = v then 0 else x.2 u)
      by_cases e : u = v
      · subst e; rw [if_pos rfl, hv3, upd_same]; exact ⟨rfl, rfl⟩
      · rw [if_neg e, rv_ne nb3 (by omega), rv_ne nb2 (by omega), upd_ne _ _ (by omega)]
        exact hR.2 u u1 u2
/-- cut -/
theorem A168 {x : LN} (hX : RX h s G sg) (hV : s 3 = nI V) (hV16 : V ≤ 16) (hr : r < 363) (hR : RR V G sg r x) (hQ : ∀ h' G' sg', fr rS h h' → RX h' s G' sg' → NF (rwS r) G sg G' sg' → RR V G' sg' r (ln_cut x) → Q none h') : pb_call 168 [.ref 65, .int (nI r)] h Q := by
  have e17 : ∀ r, nI r * nI 17 = nI (r * 17) := fun r => pk_mul r 17
  have hl : ∀ n m h' G' sg' l4, m + n = V → fr rS h h' → RX h' s G' sg' → NF (rwS r) G sg G' sg' → RR V G' sg' r (cutm x m) → pb_R 168 8 [some (.ref 65), some (.int (nI r)), some (.int (nI (r * 17 * 20))), some (.int (nI (m + 1))), l4] [] [] h' Q := by
    intro n
    induction n with
    | zero =>
      intro m h' G' sg' l4 hm F X N R
      obtain rfl : m = V := by omega
      have c1 : nI m < nI (m + 1) := nI_lt (by omega) (by omega)
      rw [pb_q168_8]
      simp only [pb_e168, X.1, pb_gr, pb_o_some, true_and, hV, c1, if_true]
      refine hQ h' G' sg' F X N (RR_leq ⟨cutm_1 x m, fun u h1 h2 => ?_⟩ R)
      rw [cutm_2 x m u h1, if_pos h2]
      rfl
    | succ n ih =>
      intro m h' G' sg' l4 hm F X N R
      have c1 : ¬ nI V < nI (m + 1) := nI_nlt (by omega) (by omega)
      have h150 := fun Q : Option Value → pb_H → Prop => A150 (Q := Q) X (show r * 17 + (m + 1) < 6171 by omega) (show r * 17 < 6171 by omega)
      have hxm : (cutm x m).2 (m + 1) = x.2 (m + 1) := by rw [cutm_2 x m _ (by omega), if_neg (by omega)]
      have hv1 : rv G' (r * 17 + (m + 1)) = (x.2 (m + 1)).natAbs := by rw [(R.2 (m + 1) (by omega) (by omega)).1, hxm]
      have hsv : sg' (r * 17 + (m + 1)) = sgI (x.2 (m + 1)) := by rw [(R.2 (m + 1) (by omega) (by omega)).2, hxm]
      have hv0 : rv G' (r * 17) = x.1 := by rw [R.1, cutm_1]
      have hS := sg_set (sg := sg') (j := r * 17 + (m + 1)) (x := 0) (by omega)
      have hset : ∀ G3 c, rv G3 (r * 17 + (m + 1)) = c.natAbs → (∀ i, i ≠ r * 17 + (m + 1) → rv G3 i = rv G' i) → ∀ sg3, sg3 (r * 17 + (m + 1)) = sgI c → (∀ i, i ≠ r * 17 + (m + 1) → sg3 i = sg' i) → RR V G3 sg3 r (setc (cutm x m) (m + 1) c) := by
        intro G3 c a1 a2 sg3 a3 a4
        refine ⟨by rw [a2 _ (by omega)]; exact R.1, fun u u1 u2 => ?_⟩
        show _ = Int.natAbs (if u = m + 1 then c else (cutm x m).2 u) ∧ _ = sgI (if u = m + 1 then c else (cutm x m).2 u)
        by_cases e : u = m + 1
        · subst e; rw [if_pos rfl]; exact ⟨a1, a3⟩
        · rw [if_neg e, a2 _ (by omega), a4 _ (by omega)]; exact R.2 u u1 u2
      rw [pb_q168_8]
      by_cases c : x.1 < (x.2 (m + 1)).natAbs
      · have k : ¬ cm3 (x.2 (m + 1)).natAbs x.1 ≤ 0 := by
          unfold cm3
          rw [if_neg (by omega), if_neg (by omega)]; decide
        simp only [pb_e168, X.1, pb_gr, pb_o_some, true_and, hV, c1, if_false, A143, Option.toList_some, List.singleton_append, h150, hv1, hv0, k]
        refine A146 X (by omega) (by omega) (by omega) ?_
        intro h3 G3 F3 X3 nb3 hv3
        rw [hv0] at hv3
        have h147 := fun Q : Option Value → pb_H → Prop => A147 (Q := Q) X3 (show r * 17 + (m + 1) < 6171 by omega)
        obtain ⟨b1, b2, b3⟩ := cutc_big c
        by_cases d0 : x.1 = 0
        · have e10 : ¬ (1 : Int32) = 0 := by decide
          rw [d0] at hv3
          obtain ⟨X4, F4⟩ := RX_sig X3 (sg' := upd sg' (r * 17 + (m + 1)) 0)
          simp only [Option.toList_none, List.nil_append, pb_e168, nI17, X3.1, X3.2.2.2.1, pb_gr, pb_o_some, true_and, h147, Option.toList_some, List.singleton_append, hv3, if_true, e10, if_false, e17, nI_add, hS, nI_1]
          refine ih (m + 1) _ G3 _ _ (by omega) (fr_trans F (fr_trans F3 F4)) X4 (NF_trans N (NF_trans (NF_nb (i := r * 17 + (m + 1)) (by omega) nb3) (NF_sg (by omega)))) ?_
          have hc0 : cutc x (m + 1) = 0 := by omega
          show RR V G3 _ r (setc (cutm x m) (m + 1) (cutc x (m + 1)))
          rw [hc0]
          exact hset G3 0 hv3 (fun i hi => rv_ne nb3 hi) _ (upd_same _ _ _) (fun i hi => upd_ne _ _ hi)
        · have z : ¬ rv G3 (r * 17 + (m + 1)) = 0 := by rw [hv3]; exact d0
          simp only [Option.toList_none, List.nil_append, pb_e168, nI17, X3.1, pb_gr, pb_o_some, true_and, h147, Option.toList_some, List.singleton_append, z, if_false, if_true, nI_1]
          refine ih (m + 1) _ G3 _ _ (by omega) (fr_trans F F3) X3 (NF_trans N (NF_nb (i := r * 17 + (m + 1)) (by omega) nb3)) ?_
          show RR V G3 _ r (setc (cutm x m) (m + 1) (cutc x (m + 1)))
          refine hset G3 _ (by rw [hv3, b1]) (fun i hi => rv_ne nb3 hi) _ ?_ (fun i hi => rfl)
          rw [hsv]
          rcases Int.lt_trichotomy (x.2 (m + 1)) 0 with q | q | q
          · rw [sgI_neg q, sgI_neg (b3.mpr ⟨d0, q⟩)]
          · rw [q] at c; simp at c
          · rw [sgI_pos q, sgI_pos (b2.mpr ⟨d0, q⟩)]
      · have k : cm3 (x.2 (m + 1)).natAbs x.1 ≤ 0 := by
          unfold cm3
          split
          · decide
          · rw [if_pos (by omega)]; decide
        have h147 := fun Q : Option Value → pb_H → Prop => A147 (Q := Q) X (show r * 17 + (m + 1) < 6171 by omega)
        have hcs : cutc x (m + 1) = x.2 (m + 1) := cutc_small (by omega)
        have hcm : setc (cutm x m) (m + 1) (cutc x (m + 1)) = cutm x m := by rw [hcs, setc_id hxm]
        by_cases z : (x.2 (m + 1)).natAbs = 0
        · have e10 : ¬ (1 : Int32) = 0 := by decide
          obtain ⟨X4, F4⟩ := RX_sig X (sg' := upd sg' (r * 17 + (m + 1)) 0)
          simp only [pb_e168, nI17, X.1, X.2.2.2.1, pb_gr, pb_o_some, true_and, hV, c1, if_false, A143, Option.toList_some, List.singleton_append, h150, hv1, hv0, k, if_true, h147, z, e10, e17, nI_add, hS, nI_1]
          have k0 : cm3 0 x.1 ≤ 0 := by rw [z] at k; exact k
          simp only [k0, if_true]
          refine ih (m + 1) _ G' _ _ (by omega) (fr_trans F F4) X4 (NF_trans N (NF_sg (by omega))) ?_
          show RR V G' _ r (setc (cutm x m) (m + 1) (cutc x (m + 1)))
          exact hset G' _ (by rw [hv1, hcs]) (fun i hi => rfl) _ (by rw [upd_same, hcs, show x.2 (m + 1) = 0 by omega]; rfl) (fun i hi => upd_ne _ _ hi)
        · simp only [pb_e168, nI17, X.1, X.2.2.2.1, pb_gr, pb_o_some, true_and, hV, c1, if_false, A143, Option.toList_some, List.singleton_append, h150, hv1, hv0, k, if_true, h147, z, nI_1]
          refine ih (m + 1) _ G' _ _ (by omega) F X N ?_
          show RR V G' _ r (setc (cutm x m) (m + 1) (cutc x (m + 1)))
          rw [hcm]
          exact R
  rw [pb_c168]
  simp only [pb_e168, A143z, Option.toList_some, List.singleton_append]
  exact hl V 0 h G sg none (by omega) (fr_refl _ _) hX (NF_refl _ _ _) hR
end ROW
