/-! The reference's rows: times, divided, sum, isFalse -/
theorem sgI_tm {z : Int} {N : Nat} (hN : N ≠ 0) : sgI (z * N) = sgI z := by
  obtain ⟨a, b⟩ := sgn_tm (a := z) hN
  unfold sgI
  by_cases c : 0 < z
  · rw [if_pos c, if_pos (a.mpr c)]
  · rw [if_neg c, if_neg (fun e => c (a.mp e))]
    by_cases d : z < 0
    · rw [if_pos d, if_pos (b.mpr d)]
    · rw [if_neg d, if_neg (fun e => d (b.mp e))]
theorem sgI_dv {z : Int} {N : Nat} (hN : N ≠ 0) : sgI (z.sign * (cdv z.natAbs N : Int)) = sgI z ∧ (z.sign * (cdv z.natAbs N : Int)).natAbs = cdv z.natAbs N := by
  rcases Int.lt_trichotomy z 0 with c | c | c
  · rw [Int.sign_eq_neg_one_of_neg c, sgI_neg c]
    have := (cdv_pos (a := z.natAbs) hN).mpr (by omega)
    exact ⟨sgI_neg (by omega), by omega⟩
  · rw [c]; simp [cdv]
  · rw [Int.sign_eq_one_of_pos c, sgI_pos c]
    have := (cdv_pos (a := z.natAbs) hN).mpr (by omega)
    exact ⟨sgI_pos (by omega), by omega⟩
theorem pow16 : 65536 ^ 16 = B8 := by decide
section ROW2
variable {h : pb_H} {Q : Option Value → pb_H → Prop} {s sg : Nat → Int32} {G : Nat → Nat} {V r j : Nat} {x : LN}
theorem RR_nu (hR : RR V G sg r x) {v : Nat} (hv : v ≤ V) : rv G (r * 17 + v) = nu x v := by
  by_cases e : v = 0
  · subst e; exact hR.1
  · rw [nu_v x (by omega)]; exact (hR.2 v (by omega) hv).1
/-- times -/
theorem A166 (hX : RX h s G sg) (hV : s 3 = nI V) (hV16 : V ≤ 16) (hr : r < 363) (hj : j < 6171) (hjr : ¬ rwS r j) (hR : RR V G sg r x) (hN : rv G j ≠ 0)
    (hQ1 : ∀ h' G', fr rS h h' → RX h' s G' sg → NF (rwS r) G sg G' sg → ln_fit V (ln_tm x (rv G j)) → RR V G' sg r (ln_tm x (rv G j)) → Q (some (.int 1)) h')
    (hQ0 : ∀ h' G', fr rS h h' → RX h' s G' sg → NF (rwS r) G sg G' sg → ¬ ln_fit V (ln_tm x (rv G j)) → Q (some (.int 0)) h') : pb_call 166 [.ref 65, .int (nI r), .int (nI (j * 20))] h Q := by
  have hnu : ∀ u, 1 ≤ u → nu x u * rv G j = ((ln_tm x (rv G j)).2 u).natAbs := fun u hu => by
    rw [nu_v x hu]
    show _ = (x.2 u * (rv G j : Int)).natAbs
    rw [Int.natAbs_mul, Int.natAbs_natCast]
  have hfit : (∀ u, u ≤ V → nu x u * rv G j < B8) ↔ ln_fit V (ln_tm x (rv G j)) := by
    constructor
    · intro e
      exact ⟨e 0 (by omega), fun v h1 h2 => by rw [← hnu v h1]; exact e v (by omega)⟩
    · intro e u hu
      by_cases u0 : u = 0
      · subst u0; exact e.1
      · rw [hnu u (by omega)]; exact e.2 u (by omega) (by omega)
  have hl : ∀ n i h' G', i + n = V + 1 → fr rS h h' → RX h' s G' sg → NF (rwS r) G sg G' sg → (∀ u, u < i → nu x u * rv G j < B8) → (∀ u, u ≤ V → rv G' (r * 17 + u) = if u < i then nu x u * rv G j else nu x u) → pb_R 166 5 [some (.ref 65), some (.int (nI r)), some (.int (nI (j * 20))), some (.int 1), some (.int (nI i))] [] [] h' Q := by
    intro n
    induction n with
    | zero =>
      intro i h' G' hi F X N hz hv
      obtain rfl : i = V + 1 := by omega
      have c1 : nI V < nI (V + 1) := nI_lt (by omega) (by omega)
      rw [pb_q166_5]
      simp only [pb_e166, X.1, pb_gr, pb_o_some, true_and, hV, c1, if_true, nb1]
      refine hQ1 h' G' F X N (hfit.mp (fun u hu => hz u (by omega))) ⟨?_, fun u u1 u2 => ⟨?_, ?_⟩⟩
      · have := hv 0 (by omega)
        rw [if_pos (by omega)] at this
        exact this
      · rw [hv u u2, if_pos (by omega), hnu u u1]
      · rw [(hR.2 u u1 u2).2]
        exact (sgI_tm hN).symm
    | succ n ih =>
      intro i h' G' hi F X N hz hv
      have c1 : ¬ nI V < nI i := nI_nlt (by omega) (by omega)
      have hri : rv G' (r * 17 + i) = nu x i := by rw [hv i (by omega), if_neg (by omega)]
      have hrj : rv G' j = rv G j := NF_rv N hjr
      have e10 : ¬ (1 : Int32) = 0 := by decide
      rw [pb_q166_5]
      simp only [pb_e166, X.1, pb_gr, pb_o_some, true_and, hV, c1, if_false, e10, A143, Option.toList_some, List.singleton_append]
      refine A155 X (by omega) hj ?_ ?_
      · intro h3 F3 X3 hn
        rw [hri, hrj, pow16] at hn
        simp only [Option.toList_some, List.singleton_append, pb_e166, nI_1]
        have hno : ¬ ln_fit V (ln_tm x (rv G j)) := fun e => hn (hfit.mpr e i (by omega))
        rw [pb_q166_5]
        by_cases c2 : nI V < nI (i + 1)
        · simp only [pb_e166, X3.1, pb_gr, pb_o_some, true_and, hV, c2, if_true, nb0]
          exact hQ0 h3 G' (fr_trans F F3) X3 N hno
        · simp only [pb_e166, X3.1, pb_gr, pb_o_some, true_and, hV, c2, if_false, if_true, nb0]
          exact hQ0 h3 G' (fr_trans F F3) X3 N hno
      · intro h3 G3 F3 X3 hlt nb3 hv3
        rw [hri, hrj, pow16] at hlt
        rw [hri, hrj] at hv3
        simp only [Option.toList_some, List.singleton_append, pb_e166, nI_1]
        refine ih (i + 1) h3 G3 (by omega) (fr_trans F F3) X3 (NF_trans N (NF_nb (i := r * 17 + i) (by omega) nb3)) (fun u hu => ?_) (fun u hu => ?_)
        · by_cases e : u = i
          · subst e; exact hlt
          · exact hz u (by omega)
        · by_cases e : u = i
          · subst e; rw [if_pos (by omega), hv3]
          · rw [rv_ne nb3 (by omega), hv u hu]
            by_cases c : u < i
            · rw [if_pos c, if_pos (by omega)]
            · rw [if_neg c, if_neg (by omega)]
  rw [pb_c166]
  simp only [pb_e166]
  exact hl (V + 1) 0 h G (by omega) (fr_refl _ _) hX (NF_refl _ _ _) (fun u hu => by omega) (fun u hu => by rw [if_neg (by omega)]; exact RR_nu hR hu)
/-- divided -/
theorem A167 (hX : RX h s G sg) (hV : s 3 = nI V) (hV16 : V ≤ 16) (hr : r < 363) (hj : j < 6171) (hjr : ¬ rwS r j) (hR : RR V G sg r x) (hN : rv G j ≠ 0)
    (hQ : ∀ h' s' G', fr rS h h' → RX h' s' G' sg → sq s s' → NF (rwS r) G sg G' sg → RR V G' sg r (ln_dv x (rv G j)) → Q none h') : pb_call 167 [.ref 65, .int (nI r), .int (nI (j * 20))] h Q := by
  have hl : ∀ n i h' s' G', i + n = V + 1 → fr rS h h' → RX h' s' G' sg → sq s s' → NF (rwS r) G sg G' sg → (∀ u, u ≤ V → rv G' (r * 17 + u) = if u < i then cdv (nu x u) (rv G j) else nu x u) → pb_R 167 2 [some (.ref 65), some (.int (nI r)), some (.int (nI (j * 20))), some (.int (nI i))] [] [] h' Q := by
    intro n
    induction n with
    | zero =>
      intro i h' s' G' hi F X hsq N hv
      obtain rfl : i = V + 1 := by omega
      have c1 : nI V < nI (V + 1) := nI_lt (by omega) (by omega)
      have hV' : s' 3 = nI V := by rw [hsq 3 (by omega), hV]
      rw [pb_q167_2]
      simp only [pb_e167, X.1, pb_gr, pb_o_some, true_and, hV', c1, if_true]
      refine hQ h' s' G' F X hsq N ⟨?_, fun u u1 u2 => ⟨?_, ?_⟩⟩
      · have := hv 0 (by omega)
        rw [if_pos (by omega)] at this
        exact this
      · rw [hv u u2, if_pos (by omega), nu_v x u1]
        exact (sgI_dv hN).2.symm
      · rw [(hR.2 u u1 u2).2]
        exact (sgI_dv hN).1.symm
    | succ n ih =>
      intro i h' s' G' hi F X hsq N hv
      have c1 : ¬ nI V < nI i := nI_nlt (by omega) (by omega)
      have hV' : s' 3 = nI V := by rw [hsq 3 (by omega), hV]
      have hri : rv G' (r * 17 + i) = nu x i := by rw [hv i (by omega), if_neg (by omega)]
      have hrj : rv G' j = rv G j := NF_rv N hjr
      rw [pb_q167_2]
      simp only [pb_e167, X.1, pb_gr, pb_o_some, true_and, hV', c1, if_false, A143, Option.toList_some, List.singleton_append]
      refine A159 X (by omega) hj (by rw [hrj]; exact hN) ?_
      intro h3 s3 G3 F3 X3 q3 nb3 hv3
      rw [hri, hrj] at hv3
      simp only [Option.toList_none, List.nil_append, pb_e167, nI_1]
      refine ih (i + 1) h3 s3 G3 (by omega) (fr_trans F F3) X3 (sq_trans hsq q3) (NF_trans N (NF_nb (i := r * 17 + i) (by omega) nb3)) (fun u hu => ?_)
      by_cases e : u = i
      · subst e; rw [if_pos (by omega), hv3]
      · rw [rv_ne nb3 (by omega), hv u hu]
        by_cases c : u < i
        · rw [if_pos c, if_pos (by omega)]
        · rw [if_neg c, if_neg (by omega)]
  rw [pb_c167]
  simp only [pb_e167]
  exact hl (V + 1) 0 h s G (by omega) (fr_refl _ _) hX (sq_refl s) (NF_refl _ _ _) (fun u hu => by rw [if_neg (by omega)]; exact RR_nu hR hu)
end ROW2
