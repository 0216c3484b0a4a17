/-! The reference's put, write, writeSmall, sign -/
abbrev rP : Nat → Prop := fun q => rS q ∨ q = 80 ∨ q = 82
def RW (h : pb_H) (s : Nat → Int32) (L : List Nat) : Prop := s 35 = nI L.length ∧ L.length < 1000000 ∧ ∃ pr, h.2 80 = cb 20000 pr ∧ (∀ k, pr k < 256) ∧ ∀ i, i < L.length → i < 20000 → pr i = gd L i
theorem RX_fr {T : Nat → Prop} {h h' : pb_H} {s sg : Nat → Int32} {G : Nat → Nat} (F : fr T h h') (hT : ∀ q, T q → ¬ rS q) (X : RX h s G sg) : RX h' s G sg := by
  obtain ⟨b1, b2, b3, b4, ⟨W0, c0, d0⟩, ⟨W1, c1, d1⟩, ⟨W2, c2, d2⟩, ⟨W3, c3, d3⟩⟩ := X
  have k : ∀ q, rS q → h'.2 q = h.2 q := fun q hq => F.2.2 q (fun w => hT q w hq)
  exact ⟨(k 65 (by omega)).trans b1, (k 66 (by omega)).trans b2, b3, (k 67 (by omega)).trans b4, ⟨W0, (k 70 (by omega)).trans c0, d0⟩, ⟨W1, (k 71 (by omega)).trans c1, d1⟩, ⟨W2, (k 72 (by omega)).trans c2, d2⟩, ⟨W3, (k 73 (by omega)).trans c3, d3⟩⟩
abbrev k35 : Nat → Prop := fun k => k = 35
section RWR
variable {h : pb_H} {Q : Option Value → pb_H → Prop} {s sg dg : Nat → Int32} {G : Nat → Nat} {L : List Nat}
theorem RW_fr {T : Nat → Prop} {h' : pb_H} {s' : Nat → Int32} (F : fr T h h') (hT : ¬ T 80) (h35 : s' 35 = s 35) (hW : RW h s L) : RW h' s' L := by
  obtain ⟨a1, a2, pr, a3, a4⟩ := hW
  exact ⟨h35.trans a1, a2, pr, (F.2.2 80 hT).trans a3, a4⟩
/-- put -/
theorem A209 {x : Int32} {k : Nat} (hX : RX h s G sg) (hW : RW h s L) (hk : wu x % 256 = k) (hL : L.length + 1 < 1000000)
    (hQ : ∀ h' s', fr rP h h' → RX h' s' G sg → RW h' s' (L ++ [k]) → h'.2 82 = h.2 82 → kp k35 s s' → Q none h') : pb_call 209 [.ref 65, .int x] h Q := by
  obtain ⟨a1, a2, pr, a3, a4, a5⟩ := hW
  rw [pb_c209]
  by_cases c : L.length < 20000
  · have c1 : ¬ (20000 : Int32) ≤ nI L.length := nI_ge (b := 20000) c (by omega)
    have hs := cb_set (N := 20000) (j := L.length) (b := pr) (x := x.toInt8.toInt32) c (by omega)
    rw [wu_i8, hk] at hs
    have G1 : fr (fun q => q = 80) h (pb_set h 80 (cb 20000 (un pr L.length k))) := fr_set rfl (by rw [a3]; rfl)
    have X1 := RX_fr G1 (fun q w => by omega) hX
    obtain ⟨X2, F2⟩ := RX_obj X1 (s' := upd s 35 (nI (L.length + 1)))
    simp only [pb_e209, hX.1, pb_gr, pb_o_some, a1, c1, if_false, a3, hs, X1.1, nI_1]
    refine hQ _ _ (fr_trans (fr_mono (fun q w => Or.inr (Or.inl w)) G1) (fr_mono (fun q w => Or.inl w) F2)) X2 ⟨by rw [upd_same, List.length_append]; rfl, by rw [List.length_append]; show L.length + 1 < _; omega, un pr L.length k, (F2.2.2 80 (by omega)).trans (by rw [pb_set_get, if_pos rfl]), fun i => ?_, fun i i1 i2 => ?_⟩ ((F2.2.2 82 (by omega)).trans (G1.2.2 82 (by omega))) (kp_upd rfl)
    · unfold un
      split
      · rw [← hk]; exact Nat.mod_lt _ (by omega)
      · exact a4 i
    · rw [List.length_append] at i1
      have i1' : i < L.length + 1 := i1
      by_cases e : i = L.length
      · subst e
        rw [un_same, gd_r (Nat.le_refl _), Nat.sub_self]
        rfl
      · rw [un_ne _ e, gd_l (by omega)]
        exact a5 i (by omega) i2
  · have c1 : (20000 : Int32) ≤ nI L.length := nI_le (a := 20000) (by omega) (by omega)
    obtain ⟨X2, F2⟩ := RX_obj hX (s' := upd s 35 (nI (L.length + 1)))
    simp only [pb_e209, hX.1, pb_gr, pb_o_some, a1, c1, if_true, nI_1]
    refine hQ _ _ (fr_mono (fun q w => Or.inl w) F2) X2 ⟨by rw [upd_same, List.length_append]; rfl, by rw [List.length_append]; show L.length + 1 < _; omega, pr, (F2.2.2 80 (by omega)).trans a3, a4, fun i i1 i2 => ?_⟩ (F2.2.2 82 (by omega)) (kp_upd rfl)
    rw [gd_l (by omega)]
    exact a5 i (by omega) i2
/-- sign -/
theorem A214 {x : Int32} {k : Nat} (hX : RX h s G sg) (hW : RW h s L) (hk : wu x % 256 = k) (hL : L.length + 2 < 1000000)
    (hQ : ∀ h' s', fr rP h h' → RX h' s' G sg → RW h' s' (L ++ [32, k]) → h'.2 82 = h.2 82 → kp k35 s s' → Q none h') : pb_call 214 [.ref 65, .int x] h Q := by
  rw [pb_c214]
  simp only [pb_e214, hX.1, pb_gr, true_and]
  refine A209 hX hW (by decide : wu (32 : Int32) % 256 = 32) (by omega) ?_
  intro h1 s1 F1 X1 W1 e1 k1
  simp only [Option.toList_none, List.nil_append, pb_e214, X1.1, pb_gr, true_and]
  refine A209 X1 W1 hk (by rw [List.length_append]; show L.length + 1 + 1 < _; omega) ?_
  intro h2 s2 F2 X2 W2 e2 k2
  simp only [Option.toList_none, List.nil_append, pb_e214]
  rw [List.append_assoc] at W2
  exact hQ h2 s2 (fr_trans F1 F2) X2 W2 (e2.trans e1) (kp_trans k1 k2)
theorem at3204 {h : pb_H} {Q : Option Value → pb_H → Prop} : pb_call 143 [.int 320, .int 4] h Q ↔ Q (some (.int (nI (5444 * 20)))) h := A143 (r := 320) (v := 4)
theorem at3205 {h : pb_H} {Q : Option Value → pb_H → Prop} : pb_call 143 [.int 320, .int 5] h Q ↔ Q (some (.int (nI (5445 * 20)))) h := A143 (r := 320) (v := 5)
/-- one digit off the number at 5444 -/
theorem A210_31 {l1 l3 l4 : Option Value} (hE : ∀ h' G' r l6 l7, fr rS h h' → RX h' s G' sg → NB 5444 G G' → r = rv G 5444 % 10 → rv G' 5444 = rv G 5444 / 10 → pb_R 210 81 [some (.ref 65), l1, some (.int (nI (5444 * 20))), l3, l4, some (.int (nI r)), l6, l7] [] [] h' Q) :
    ∀ j h' G' r l7, j ≤ 20 → fr rS h h' → RX h' s G' sg → NB 5444 G G' → r < 10 → (∀ k, k < j → G' (5444 * 20 + k) = G (5444 * 20 + k)) → rn G' (5444 * 20 + j) (20 - j) * 10 + r = rn G (5444 * 20 + j) (20 - j) → pb_R 210 31 [some (.ref 65), l1, some (.int (nI (5444 * 20))), l3, l4, some (.int (nI r)), some (.int (nI j + -1)), l7] [] [] h' Q := by
  intro j
  induction j with
  | zero =>
    intro h' G' r l7 hj F X' N hr hl hv
    have c1 : nI 0 + -1 < 0 := by decide
    have e1 : r = rv G 5444 % 10 ∧ rv G' 5444 = rv G 5444 / 10 := by
      have hv' : rv G' 5444 * 10 + r = rv G 5444 := hv
      omega
    have key := hE h' G' r (some (.int (nI 0 + -1))) l7 F X' N e1.1 e1.2
    simp only [pb_e210, X'.1, pb_gr, pb_o_some] at key
    rw [pb_q210_31]
    simp only [pb_e210, c1, if_true, X'.1, pb_gr, pb_o_some]
    exact key
  | succ j ih =>
    intro h' G' r l7 hj F X' N hr hl hv
    have ej : nI (j + 1) + -1 = nI j := by rw [sub1]; exact nI_pred j
    have c1 : ¬ nI j < 0 := nI_pos (by omega)
    have z10 : ¬ (10 : Int32) = 0 := by decide
    have e6 : (65536 : Int32) = nI 65536 := rfl
    have hg := cN_get (G := G') (j := 5444 * 20 + j) (by omega)
    have hbl := X'.2.2.1 (5444 * 20 + j)
    have em : nI r * 65536 + nI (G' (5444 * 20 + j)) = nI (r * 65536 + G' (5444 * 20 + j)) := by rw [e6, nI_mul, nI_add]
    have hd : nI (r * 65536 + G' (5444 * 20 + j)) / 10 = nI ((r * 65536 + G' (5444 * 20 + j)) / 10) := pk_div (d := 10) (by omega) (by omega) (by omega)
    have hm : nI (r * 65536 + G' (5444 * 20 + j)) - nI ((r * 65536 + G' (5444 * 20 + j)) / 10) * 10 = nI ((r * 65536 + G' (5444 * 20 + j)) % 10) := by
      have := pk_rem (a := r * 65536 + G' (5444 * 20 + j)) (d := 10) (by omega) (by omega) (by omega)
      rw [pk_div (d := 10) (by omega) (by omega) (by omega)] at this
      exact this
    have hs := cN_set (G := G') (j := 5444 * 20 + j) (x := (r * 65536 + G' (5444 * 20 + j)) / 10) (by omega)
    obtain ⟨X2, F2⟩ := RX_num X' (G' := un G' (5444 * 20 + j) ((r * 65536 + G' (5444 * 20 + j)) / 10)) (RB_un X'.2.2.1 (by omega))
    rw [pb_q210_31, ej]
    simp only [pb_e210, c1, if_false, X'.1, pb_gr, pb_o_some, nI_add, X'.2.1, hg, em, z10, not_false_eq_true, true_and, hd, hs, hm]
    refine ih _ _ _ _ (by omega) (fr_trans F F2) X2 (bo_trans N (bo_un (by omega) (by omega))) (by omega) (fun k hk => ?_) ?_
    · rw [un_ne _ (by omega)]
      exact hl k (by omega)
    · have h1 := rn_head (un G' (5444 * 20 + j) ((r * 65536 + G' (5444 * 20 + j)) / 10)) (5444 * 20 + j) (20 - (j + 1))
      have h2 := rn_head G (5444 * 20 + j) (20 - (j + 1))
      rw [show 20 - (j + 1) + 1 = 20 - j by omega] at h1 h2
      have h3 : rn (un G' (5444 * 20 + j) ((r * 65536 + G' (5444 * 20 + j)) / 10)) (5444 * 20 + j + 1) (20 - (j + 1)) = rn G' (5444 * 20 + j + 1) (20 - (j + 1)) := rn_congr (fun i hi => un_ne _ (by omega))
      have hv' : rn G' (5444 * 20 + j + 1) (20 - (j + 1)) * 10 + r = rn G (5444 * 20 + j + 1) (20 - (j + 1)) := hv
      have h4 := hl j (by omega)
      rw [h1, h2, h3, un_same, ← hv', ← h4]
      omega
/-- the digits, from the last one on -/
theorem A210_115 {ds : List Nat} {l1 l2 l3 l4 l6 l7 : Option Value} (hds : ∀ k, k < ds.length → ∃ d, d < 10 ∧ dg k = nI d ∧ gd ds k = 48 + d) (hd110 : ds.length ≤ 110) (h82 : h.2 82 = ci 110 dg) (hL : L.length + ds.length < 1000000)
    (hQ : ∀ h' s', fr rP h h' → RX h' s' G sg → RW h' s' (L ++ ds.reverse) → h'.2 82 = ci 110 dg → kp k35 s s' → Q none h') :
    ∀ j h' s', j ≤ ds.length → fr rP h h' → RX h' s' G sg → RW h' s' (L ++ (ds.drop j).reverse) → h'.2 82 = ci 110 dg → kp k35 s s' → pb_R 210 115 [some (.ref 65), l1, l2, l3, l4, some (.int (nI j + -1)), l6, l7] [] [] h' Q := by
  intro j
  induction j with
  | zero =>
    intro h' s' hj F X' W' e82 kk
    have c1 : nI 0 + -1 < 0 := by decide
    rw [List.drop_zero] at W'
    rw [pb_q210_115]
    simp only [pb_e210, c1, if_true]
    exact hQ h' s' F X' W' e82 kk
  | succ j ih =>
    intro h' s' hj F X' W' e82 kk
    have ej : nI (j + 1) + -1 = nI j := by rw [sub1]; exact nI_pred j
    have c1 : ¬ nI j < 0 := nI_pos (by omega)
    obtain ⟨d, d1, d2, d3⟩ := hds j (by omega)
    have hg := pb_ai_eq (k := 0) (n := 110) (j := j) (f := dg) (Or.inl rfl) (by omega) (by omega)
    rw [d2] at hg
    rw [pb_q210_115, ej]
    simp only [pb_e210, c1, if_false, X'.1, pb_gr, pb_o_some, e82, hg, true_and]
    refine A209 X' W' (dig_wu d1) (by rw [List.length_append, List.length_reverse, List.length_drop]; omega) ?_
    intro h2 s2 F2 X2 W2 e2 k2
    have ed : (ds.drop (j + 1)).reverse ++ [48 + d] = (ds.drop j).reverse := by
      rw [List.drop_eq_getElem_cons (by omega : j < ds.length), List.reverse_cons]
      congr 2
      unfold gd at d3
      rw [List.getElem?_eq_getElem (by omega : j < ds.length)] at d3
      exact d3.symm
    rw [List.append_assoc, ed] at W2
    simp only [Option.toList_none, List.nil_append, pb_e210]
    exact ih h2 s2 (by omega) (fr_trans F F2) X2 W2 (e2.trans e82) (kp_trans kk k2)
/-- write -/
theorem A210 {i M : Nat} (hX : RX h s G sg) (hW : RW h s L) (h82 : h.2 82 = ci 110 dg) (hi : i < 6171) (hi4 : i ≠ 5444) (hM : rv G i = M) (hM2 : M < 10 ^ 80) (hL : L.length + 80 < 1000000)
    (hQ : ∀ h' s' G' dg', fr rP h h' → RX h' s' G' sg → NF (fun k => k = 5444) G sg G' sg → RW h' s' (L ++ dec M) → h'.2 82 = ci 110 dg' → kp k35 s s' → Q none h') : pb_call 210 [.ref 65, .int (nI (i * 20))] h Q := by
  have i10 : ¬ (1 : Int32) = 0 := by decide
  have nI20' : (19 : Int32) = nI 20 + -1 := by decide
  have loop : ∀ fu n' ds h' G' dg' l5 l6 l7, n' < 10 ^ (fu + 1) → ds.length + fu ≤ 79 → rdg 80 M = ds ++ rdg (fu + 1) n' → fr rP h h' → RX h' s G' sg → NF (fun k => k = 5444) G sg G' sg → RW h' s L → h'.2 82 = ci 110 dg' → (∀ k, k < ds.length → ∃ d, d < 10 ∧ dg' k = nI d ∧ gd ds k = 48 + d) → rv G' 5444 = n' → pb_R 210 19 [some (.ref 65), some (.int (nI (i * 20))), some (.int (nI (5444 * 20))), some (.int (nI ds.length)), some (.int 1), l5, l6, l7] [] [] h' Q := by
    intro fu
    induction fu with
    | zero =>
      intro n' ds h' G' dg' l5 l6 l7 h10 hf hr F X' N W' e82 hds hv
      rw [pb_q210_19]
      simp only [pb_e210, i10, if_false, nI20']
      have i0 : (some (Value.int 0) : Option Value) = some (.int (nI 0)) := rfl
      rw [i0]
      refine A210_31 (h := h') (G := G') (sg := sg) ?_ 20 h' G' 0 _ (by omega) (fr_refl _ _) X' (bo_refl _ _ _) (by omega) (fun k _ => rfl) rfl
      intro h2 G2 r l6' l7' F2 X2 N2 er ev
      rw [hv] at er ev
      have h0 : n' / 10 = 0 := by omega
      have er' : rdg (0 + 1) n' = [48 + n' % 10] := by
        show (48 + n' % 10) :: (if n' / 10 = 0 then [] else rdg 0 (n' / 10)) = _
        rw [if_pos h0]
      rw [er'] at hr
      have e822 : h2.2 82 = ci 110 dg' := (F2.2.2 82 (by omega)).trans e82
      have hs := pb_si_eq (n := 110) (j := ds.length) (f := dg') (x := nI r) (by omega) (by omega)
      have G3 : fr (fun q => q = 82) h2 (pb_set h2 82 (ci 110 (upd dg' ds.length (nI r)))) := fr_set rfl (by rw [e822]; rfl)
      have X3 := RX_fr G3 (fun q w => by omega) X2
      have h147 : ∀ Q : Option Value → pb_H → Prop, pb_call 147 [.ref 65, .int (nI (5444 * 20))] (pb_set h2 82 (ci 110 (upd dg' ds.length (nI r)))) Q ↔ Q (some (.int 1)) (pb_set h2 82 (ci 110 (upd dg' ds.length (nI r)))) := fun Q => by
        rw [A147 X3 (by omega), if_pos (by rw [ev]; exact h0)]
      have W3 : RW (pb_set h2 82 (ci 110 (upd dg' ds.length (nI r)))) s L := RW_fr G3 (by omega) rfl (RW_fr F2 (by omega) rfl W')
      have el : (ds ++ [48 + n' % 10]).length = ds.length + 1 := by rw [List.length_append]; rfl
      simp only [pb_e210, X2.1, pb_gr, pb_o_some, e822, hs, nI_1, X3.1, true_and, h147, Option.toList_some, List.singleton_append, i10, not_false_eq_true, if_true]
      rw [pb_q210_19]
      have e1 : nI (ds.length + 1) - 1 = nI (ds.length + 1) + -1 := (sub1 _).symm
      simp only [pb_e210, if_true, e1]
      have key := A210_115 (h := pb_set h2 82 (ci 110 (upd dg' ds.length (nI r)))) (Q := Q) (s := s) (sg := sg) (G := G2) (dg := upd dg' ds.length (nI r)) (ds := ds ++ [48 + n' % 10]) (L := L) (l1 := some (.int (nI (i * 20)))) (l2 := some (.int (nI (5444 * 20)))) (l3 := some (.int (nI (ds.length + 1)))) (l4 := some (.int 0)) (l6 := l6') (l7 := l7') (fun k hk => by
        rw [el] at hk
        by_cases e : k = ds.length
        · subst e
          exact ⟨r, by omega, upd_same _ _ _, by rw [gd_r (Nat.le_refl _), Nat.sub_self, er]; rfl⟩
        · obtain ⟨d, d1, d2, d3⟩ := hds k (by omega)
          exact ⟨d, d1, by rw [upd_ne _ _ e]; exact d2, by rw [gd_l (by omega)]; exact d3⟩) (by rw [el]; omega) (by rw [pb_set_get, if_pos rfl]) (by rw [el]; omega) (by
        intro h4 s4 F4 X4 W4 e824 k4
        rw [← hr] at W4
        exact hQ h4 s4 G2 _ (fr_trans F (fr_trans (fr_mono (fun q w => Or.inl w) F2) (fr_trans (fr_mono (fun q w => Or.inr (Or.inr w)) G3) F4))) X4 (NF_trans N (NF_nb rfl N2)) W4 e824 k4) (ds ++ [48 + n' % 10]).length (pb_set h2 82 (ci 110 (upd dg' ds.length (nI r)))) s (Nat.le_refl _) (fr_refl _ _) X3 (by rw [List.drop_length, List.reverse_nil, List.append_nil]; exact W3) (by rw [pb_set_get, if_pos rfl]) (kp_refl _ _)
      rw [el] at key
      exact key
    | succ fu ih =>
      intro n' ds h' G' dg' l5 l6 l7 h10 hf hr F X' N W' e82 hds hv
      rw [pb_q210_19]
      simp only [pb_e210, i10, if_false, nI20']
      have i0 : (some (Value.int 0) : Option Value) = some (.int (nI 0)) := rfl
      rw [i0]
      refine A210_31 (h := h') (G := G') (sg := sg) ?_ 20 h' G' 0 _ (by omega) (fr_refl _ _) X' (bo_refl _ _ _) (by omega) (fun k _ => rfl) rfl
      intro h2 G2 r l6' l7' F2 X2 N2 er ev
      rw [hv] at er ev
      have e822 : h2.2 82 = ci 110 dg' := (F2.2.2 82 (by omega)).trans e82
      have hs := pb_si_eq (n := 110) (j := ds.length) (f := dg') (x := nI r) (by omega) (by omega)
      have G3 : fr (fun q => q = 82) h2 (pb_set h2 82 (ci 110 (upd dg' ds.length (nI r)))) := fr_set rfl (by rw [e822]; rfl)
      have X3 := RX_fr G3 (fun q w => by omega) X2
      have W3 : RW (pb_set h2 82 (ci 110 (upd dg' ds.length (nI r)))) s L := RW_fr G3 (by omega) rfl (RW_fr F2 (by omega) rfl W')
      have el : (ds ++ [48 + n' % 10]).length = ds.length + 1 := by rw [List.length_append]; rfl
      have hds' : ∀ k, k < (ds ++ [48 + n' % 10]).length → ∃ d, d < 10 ∧ upd dg' ds.length (nI r) k = nI d ∧ gd (ds ++ [48 + n' % 10]) k = 48 + d := fun k hk => by
        rw [el] at hk
        by_cases e : k = ds.length
        · subst e
          exact ⟨r, by omega, upd_same _ _ _, by rw [gd_r (Nat.le_refl _), Nat.sub_self, er]; rfl⟩
        · obtain ⟨d, d1, d2, d3⟩ := hds k (by omega)
          exact ⟨d, d1, by rw [upd_ne _ _ e]; exact d2, by rw [gd_l (by omega)]; exact d3⟩
      have FF : fr rP h (pb_set h2 82 (ci 110 (upd dg' ds.length (nI r)))) := fr_trans F (fr_trans (fr_mono (fun q w => Or.inl w) F2) (fr_mono (fun q w => Or.inr (Or.inr w)) G3))
      by_cases h0 : n' / 10 = 0
      · have er' : rdg (fu + 1 + 1) n' = [48 + n' % 10] := by
          show (48 + n' % 10) :: (if n' / 10 = 0 then [] else rdg (fu + 1) (n' / 10)) = _
          rw [if_pos h0]
        rw [er'] at hr
        have h147 : ∀ Q : Option Value → pb_H → Prop, pb_call 147 [.ref 65, .int (nI (5444 * 20))] (pb_set h2 82 (ci 110 (upd dg' ds.length (nI r)))) Q ↔ Q (some (.int 1)) (pb_set h2 82 (ci 110 (upd dg' ds.length (nI r)))) := fun Q => by
          rw [A147 X3 (by omega), if_pos (by rw [ev]; exact h0)]
        simp only [pb_e210, X2.1, pb_gr, pb_o_some, e822, hs, nI_1, X3.1, true_and, h147, Option.toList_some, List.singleton_append, i10, not_false_eq_true, if_true]
        rw [pb_q210_19]
        have e1 : nI (ds.length + 1) - 1 = nI (ds.length + 1) + -1 := (sub1 _).symm
        simp only [pb_e210, if_true, e1]
        have key := A210_115 (h := pb_set h2 82 (ci 110 (upd dg' ds.length (nI r)))) (Q := Q) (s := s) (sg := sg) (G := G2) (dg := upd dg' ds.length (nI r)) (ds := ds ++ [48 + n' % 10]) (L := L) (l1 := some (.int (nI (i * 20)))) (l2 := some (.int (nI (5444 * 20)))) (l3 := some (.int (nI (ds.length + 1)))) (l4 := some (.int 0)) (l6 := l6') (l7 := l7') hds' (by rw [el]; omega) (by rw [pb_set_get, if_pos rfl]) (by rw [el]; omega) (by
          intro h4 s4 F4 X4 W4 e824 k4
          rw [← hr] at W4
          exact hQ h4 s4 G2 _ (fr_trans FF F4) X4 (NF_trans N (NF_nb rfl N2)) W4 e824 k4) (ds ++ [48 + n' % 10]).length (pb_set h2 82 (ci 110 (upd dg' ds.length (nI r)))) s (Nat.le_refl _) (fr_refl _ _) X3 (by rw [List.drop_length, List.reverse_nil, List.append_nil]; exact W3) (by rw [pb_set_get, if_pos rfl]) (kp_refl _ _)
        rw [el] at key
        exact key
      · have er' : rdg (fu + 1 + 1) n' = (48 + n' % 10) :: rdg (fu + 1) (n' / 10) := by
          show (48 + n' % 10) :: (if n' / 10 = 0 then [] else rdg (fu + 1) (n' / 10)) = _
          rw [if_neg h0]
        rw [er'] at hr
        have h147 : ∀ Q : Option Value → pb_H → Prop, pb_call 147 [.ref 65, .int (nI (5444 * 20))] (pb_set h2 82 (ci 110 (upd dg' ds.length (nI r)))) Q ↔ Q (some (.int 0)) (pb_set h2 82 (ci 110 (upd dg' ds.length (nI r)))) := fun Q => by
          rw [A147 X3 (by omega), if_neg (by rw [ev]; exact h0)]
        simp only [pb_e210, X2.1, pb_gr, pb_o_some, e822, hs, nI_1, X3.1, true_and, h147, Option.toList_some, List.singleton_append, not_true_eq_false, if_false]
        have key := ih (n' / 10) (ds ++ [48 + n' % 10]) (pb_set h2 82 (ci 110 (upd dg' ds.length (nI r)))) G2 (upd dg' ds.length (nI r)) (some (.int (nI r))) l6' l7' (by
          have : 10 ^ (fu + 1 + 1) = 10 ^ (fu + 1) * 10 := rfl
          omega) (by rw [el]; omega) (by rw [hr, List.append_assoc]; rfl) FF X3 (NF_trans N (NF_nb rfl N2)) W3 (by rw [pb_set_get, if_pos rfl]) hds' ev
        rw [el] at key
        exact key
  rw [pb_c210]
  simp only [pb_e210, at3204, Option.toList_some, List.singleton_append, hX.1, pb_gr, true_and]
  refine A146 (i := i) (j := 5444) hX hi (by omega) hi4 ?_
  intro h1 G1 F1 X1 nb1 v1
  simp only [Option.toList_none, List.nil_append, pb_e210]
  exact loop 79 M [] h1 G1 dg none none none hM2 (by show 0 + 79 ≤ 79; omega) rfl (fr_mono (fun q w => Or.inl w) F1) X1 (NF_nb rfl nb1) (RW_fr F1 (by omega) rfl hW) ((F1.2.2 82 (by omega)).trans h82) (fun k hk => absurd hk (Nat.not_lt_zero _)) (v1.trans hM)
/-- writeSmall -/
theorem A211 {n : Nat} (hX : RX h s G sg) (hW : RW h s L) (h82 : h.2 82 = ci 110 dg) (hn : n < 65536) (hL : L.length + 80 < 1000000)
    (hQ : ∀ h' s' G' dg', fr rP h h' → RX h' s' G' sg → NF (fun k => k = 5444 ∨ k = 5445) G sg G' sg → RW h' s' (L ++ dec n) → h'.2 82 = ci 110 dg' → kp k35 s s' → Q none h') : pb_call 211 [.ref 65, .int (nI n)] h Q := by
  rw [pb_c211]
  simp only [pb_e211, at3205, Option.toList_some, List.singleton_append, hX.1, pb_gr, true_and]
  refine A145 (i := 5445) (n := n) hX (by omega) hn ?_
  intro h1 G1 F1 X1 nb1 v1
  simp only [Option.toList_none, List.nil_append, pb_e211, X1.1, pb_gr, true_and]
  refine A210 (i := 5445) X1 (RW_fr F1 (by omega) rfl hW) ((F1.2.2 82 (by omega)).trans h82) (by omega) (by omega) v1 (Nat.lt_of_lt_of_le hn (by decide)) hL ?_
  intro h2 s2 G2 dg2 F2 X2 N2 W2 e2 k2
  simp only [Option.toList_none, List.nil_append, pb_e211]
  exact hQ h2 s2 G2 dg2 (fr_trans (fr_mono (fun q w => Or.inl w) F1) F2) X2 (NF_trans (NF_nb (Or.inr rfl) nb1) (NF_mono (fun i w => Or.inl w) N2)) W2 e2 k2
end RWR
