/-! The reference's learn: with a new LINE, the whole end -/
section RL5
variable {h : pb_H} {Q : Option Value → pb_H → Prop} {V n st lv ch le ac ts m : Nat} {b : Nat → Nat} {T : Nat → Int} {Lv Rs : Nat → Nat} {l0 : Nat → Bool} {P L : List Nat} {X : Nat → LN} {og : Nat → Nat} {s sg ogI : Nat → Int32} {G : Nat → Nat}
theorem RK_s {h' : pb_H} {s' : Nat → Int32} (K : RK h V n b s G sg m X) (X' : RX h' s' G sg) (e69 : h'.2 69 = h.2 69) (e3 : s' 3 = s 3) (e4 : s' 4 = s 4) (e7 : s' 7 = s 7) : RK h' V n b s' G sg m X := by
  obtain ⟨⟨z1, z2, z3, z4, z5, z6⟩, k2, k3, k4⟩ := K
  exact ⟨⟨X', e69.trans z2, e7.trans z3, z4, z5, e3.trans z6⟩, e4.trans k2, k3, k4⟩
abbrev lnK : Nat → Prop := fun k => k = 4 ∨ (22 ≤ k ∧ k ≤ 26) ∨ k = 34
theorem U216_188 {K : LN} {r : Nat} {l1 l2 l4 l5 : Option Value} (hV : V ≤ 16) (hT : TV V m X T Lv Rs lv ts) (KK : RK h V n b s G sg m X) (hm : m < 300) (h68 : h.2 68 = ci 301 ogI) (hR : RQs h s V ((st, lv, ch, le, ac), (ts, T, Lv, Rs, l0), P, m, X, og)) (hW : RW h s L) (hl : L.length ≤ 20000) (R3 : RR V G sg 314 K) (fK : ln_fit V K) (hr : lv ≠ 0 → r < lv)
    (hQ0 : ∀ h' s' G' sg', lv = 0 → fr lnF h h' → RK h' V n b s' G' sg' (m + 1) (lput X (m + 1) K) → h'.2 68 = ci 301 (upd ogI (m + 1) 4) → RQs h' s' V ((3, lv, ch, le + 1, ac), (ts, T, Lv, Rs, l0), L, m + 1, lput X (m + 1) K, un og (m + 1) 4) → kp lnK s s' → Q none h')
    (hQ1 : ∀ h' s' G' sg', lv ≠ 0 → fr lnF h h' → RK h' V n b s' G' sg' (m + 1) (lput X (m + 1) K) → h'.2 68 = ci 301 (upd ogI (m + 1) 4) → RQs h' s' V ((st, r, ch, le + 1, ac), (szl Lv r ts, T, Lv, Rs, l0), L, m + 1, lput X (m + 1) K, un og (m + 1) 4) → kp lnK s s' → Q none h') : pb_R 216 188 [some (.ref 65), l1, l2, some (.int (nI r)), l4, l5] [] [] h Q := by
  have i314 : (314 : Int32) = nI 314 := rfl
  have hlv : lv ≤ ts := TV_lv hT
  have htV := hT.1
  have is65 : pb_is0 (h.2 65) 12 = true := by rw [KK.1.1.1]; rfl
  simp only [pb_e216, is65, true_and, i314]
  refine U196 hV KK hm (by omega) (by omega) R3 fK h68 ?_
  intro h2 s2 G2 sg2 F2 K2 e68 kp2 N2
  have X2 := K2.1.1
  have RQ2 := RQs_fr F2 (fun q w => by omega) (fun k k1 k2 => kp2 k (by omega)) hR
  have W2 : RW h2 s2 L := RW_fr F2 (by omega) (kp2 35 (by omega)) hW
  have k26 : s2 26 = nI le := RQ2.1.2.2.2.2.1
  have k23 : s2 23 = nI lv := RQ2.1.2.1
  have k24 : s2 24 = nI ts := RQ2.1.2.2.1
  have k35 : s2 35 = nI L.length := W2.1
  have g65 : ∀ x, (pb_set h2 65 x).2 65 = x := fun x => by rw [pb_set_get, if_pos rfl]
  have u35 : ∀ x, upd s2 26 x 35 = s2 35 := fun x => by unfold upd; rw [if_neg (by omega)]
  have u23 : ∀ x y, upd (upd s2 26 x) 34 y 23 = s2 23 := fun x y => by unfold upd; rw [if_neg (by omega), if_neg (by omega)]
  have RQ3 := RQs_le (m' := m + 1) (X' := lput X (m + 1) K) (og' := un og (m + 1) 4) X2 RQ2 W2 hl
  have X3 := (RX_obj X2 (s' := upd (upd s2 26 (nI (le + 1))) 34 (nI L.length))).1
  have F3 := (RX_obj X2 (s' := upd (upd s2 26 (nI (le + 1))) 34 (nI L.length))).2
  have FF : fr lnF h (pb_set h2 65 (rm (upd (upd s2 26 (nI (le + 1))) 34 (nI L.length)))) := fr_trans (fr_mono (fun q w => by omega) F2) (fr_mono (fun q w => Or.inl w) F3)
  have K3 : RK (pb_set h2 65 (rm (upd (upd s2 26 (nI (le + 1))) 34 (nI L.length)))) V n b (upd (upd s2 26 (nI (le + 1))) 34 (nI L.length)) G2 sg2 (m + 1) (lput X (m + 1) K) := RK_s K2 X3 (F3.2.2 69 (by omega)) rfl rfl rfl
  have e683 : (pb_set h2 65 (rm (upd (upd s2 26 (nI (le + 1))) 34 (nI L.length)))).2 68 = ci 301 (upd ogI (m + 1) 4) := (F3.2.2 68 (by omega)).trans e68
  have P3 : kp lnK s (upd (upd s2 26 (nI (le + 1))) 34 (nI L.length)) := fun k hk => by
    unfold upd
    rw [if_neg (by omega), if_neg (by omega)]
    exact kp2 k (by omega)
  by_cases c0 : lv = 0
  · have z0 : nI lv = 0 := by rw [c0]; rfl
    have key := hQ0 _ _ G2 sg2 c0 (fr_trans FF (fr_mono (fun q w => Or.inl w) (RX_obj X3 (s' := upd (upd (upd s2 26 (nI (le + 1))) 34 (nI L.length)) 22 3)).2)) (RK_s K3 (RX_obj X3 (s' := upd (upd (upd s2 26 (nI (le + 1))) 34 (nI L.length)) 22 3)).1 (by rw [pb_set_get, if_neg (by omega)]) rfl rfl rfl) (by rw [pb_set_get, if_neg (by omega)]; exact e683) (RQs_22 (x := 3) X3 RQ3) (fun k hk => by
      show (if k = 22 then _ else _) = _
      rw [if_neg (by omega)]
      exact P3 k hk)
    simp only [Option.toList_none, List.nil_append, pb_e216, X2.1, pb_gr, pb_o_some, k26, nI_1, g65, u35, k35, pb_set_same, u23, k23, z0, not_true_eq_false, if_false]
    rw [pb_set_same] at key
    exact key
  · have z0 : ¬ nI lv = 0 := fun e => c0 (nI_inj (by omega) (by omega) (show nI lv = nI 0 from e))
    obtain ⟨⟨a1, a2, a3, a4, a5, a6, a7⟩, bb, ⟨pr, c1, c2⟩, ⟨f, d1, d2⟩, ⟨g, e1, e2⟩, ⟨f1, f2, f3, g1, g2, g3, g4⟩, ⟨tt, i1⟩, dd, j1⟩ := RQ3
    have hrl := hr c0
    have eup : upd (upd (upd s2 26 (nI (le + 1))) 34 (nI L.length)) 24 (nI ts) = upd (upd s2 26 (nI (le + 1))) 34 (nI L.length) := by
      funext k
      show (if k = 24 then _ else _) = _
      by_cases e : k = 24
      · subst e
        rw [if_pos rfl]
        exact k24.symm
      · rw [if_neg e]
    have key := U216_227 (Q := Q) (r := r) (l1 := l1) (l2 := l2) (l4 := l4) (T := T) (Lv := Lv) hV (by omega) htV hT.2.1 hT.2.2.1 (fun i hi => by have := hT.2.2.2.1 i hi; omega) X3 g1 g2 (fun i hi => ⟨(g4 i hi).1, (g4 i hi).2.1⟩) (fun h' f' F X' e75 hA => by
      have kk : ∀ q, 76 ≤ q → h'.2 q = (pb_set h2 65 (rm (upd (upd s2 26 (nI (le + 1))) 34 (nI L.length)))).2 q := fun q hq => F.2.2 q (by omega)
      refine hQ1 h' _ G2 sg2 c0 (fr_trans FF (fr_mono (fun q w => by omega) F)) (RK_s K3 X' (F.2.2 69 (by omega)) rfl rfl rfl) ((F.2.2 68 (by omega)).trans e683) ⟨⟨a1, rfl, rfl, a4, a5, a6, a7⟩, bb, ⟨pr, (kk 80 (by omega)).trans c1, c2⟩, ⟨f', e75, hA⟩, ⟨g, (kk 76 (by omega)).trans e1, e2⟩, ⟨f1, f2, f3, (kk 77 (by omega)).trans g1, (kk 78 (by omega)).trans g2, (kk 79 (by omega)).trans g3, fun i hi => g4 i (Nat.lt_of_lt_of_le hi (szl_le r ts))⟩, ⟨tt, (kk 81 (by omega)).trans i1⟩, dd, (kk 82 (by omega)).trans j1⟩ (fun k hk => ?_)
      show (if k = 23 then _ else if k = 24 then _ else _) = _
      rw [if_neg (by omega), if_neg (by omega)]
      exact P3 k hk) ts _ f l5 (Nat.le_refl _) (fr_refl _ _) (by rw [eup]; exact X3) d1 d2 rfl
    simp only [Option.toList_none, List.nil_append, pb_e216, X2.1, pb_gr, pb_o_some, k26, nI_1, g65, u35, k35, pb_set_same, u23, k23, z0, not_false_eq_true, if_true]
    exact key
end RL5
