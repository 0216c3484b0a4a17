/-! The reference's right, term, signed -/
def kp (S : Nat → Prop) (s s' : Nat → Int32) : Prop := ∀ k, ¬ S k → s' k = s k
theorem kp_refl (S : Nat → Prop) (s : Nat → Int32) : kp S s s := fun _ _ => rfl
theorem kp_trans {S : Nat → Prop} {s s' s'' : Nat → Int32} (a : kp S s s') (b : kp S s' s'') : kp S s s'' := fun k hk => (b k hk).trans (a k hk)
theorem kp_mono {S T : Nat → Prop} {s s' : Nat → Int32} (h : ∀ k, S k → T k) (a : kp S s s') : kp T s s' := fun k hk => a k (fun q => hk (h k q))
theorem kp_upd {S : Nat → Prop} {s : Nat → Int32} {k : Nat} {x : Int32} (h : S k) : kp S s (upd s k x) := fun j hj => upd_ne _ _ (fun e => hj (by rw [e]; exact h))
abbrev tkS : Nat → Prop := fun k => 14 ≤ k ∧ k ≤ 19
abbrev ftS : Nat → Prop := fun k => (14 ≤ k ∧ k ≤ 19) ∨ k = 8 ∨ k = 9
/-- the reference with its text -/
def RZ (h : pb_H) (V n : Nat) (b : Nat → Nat) (s : Nat → Int32) (G : Nat → Nat) (sg : Nat → Int32) : Prop := RX h s G sg ∧ h.2 69 = cb 4000 b ∧ s 7 = nI n ∧ n ≤ 4000 ∧ (∀ k, b k < 256) ∧ s 3 = nI V
abbrev FR (s' : Nat → Int32) (e : FL) : Prop := s' 8 = nI e.1 ∧ s' 9 = nI e.2
section RCO
variable {h : pb_H} {Q : Option Value → pb_H → Prop} {V n st : Nat} {b : Nat → Nat} {s sg : Nat → Int32} {G : Nat → Nat}
theorem RZ_RT (hZ : RZ h V n b s G sg) : RT h n b s := ⟨hZ.1.1, hZ.2.1, hZ.2.2.1, hZ.2.2.2.1, hZ.2.2.2.2.1⟩
theorem RZ_fr {h' : pb_H} {s' : Nat → Int32} {G' : Nat → Nat} {sg' : Nat → Int32} (hZ : RZ h V n b s G sg) (F : fr rS h h') (X : RX h' s' G' sg') (h7 : s' 7 = s 7) (h3 : s' 3 = s 3) : RZ h' V n b s' G' sg' := ⟨X, (F.2.2 69 (by omega)).trans hZ.2.1, by rw [h7]; exact hZ.2.2.1, hZ.2.2.2.1, hZ.2.2.2.2.1, by rw [h3]; exact hZ.2.2.2.2.2⟩
theorem RZ_obj (hZ : RZ h V n b s G sg) {s' : Nat → Int32} (h7 : s' 7 = s 7) (h3 : s' 3 = s 3) : RZ (pb_set h 65 (rm s')) V n b s' G sg ∧ fr rS h (pb_set h 65 (rm s')) := ⟨RZ_fr hZ (RX_obj hZ.1).2 (RX_obj hZ.1).1 h7 h3, (RX_obj hZ.1).2⟩
/-- next, with all the rest -/
theorem Z177 (hZ : RZ h V n b s G sg) (hS : RSt b n st s) (hk : tkk b n st ≠ 1) (hQ : ∀ h' s', fr rS h h' → RZ h' V n b s' G sg → RSt b n (nxt b n st) s' → kp (fun k => 15 ≤ k ∧ k ≤ 18) s s' → Q none h') : pb_call 177 [.ref 65] h Q := by
  refine U177 (RZ_RT hZ) hS hk (fun s' T S K => ?_)
  have hkp : kp (fun k => 15 ≤ k ∧ k ≤ 18) s s' := fun k q => K k (by omega) (by omega) (by omega) (by omega)
  obtain ⟨Z, F⟩ := RZ_obj hZ (s' := s') (hkp 7 (by omega)) (hkp 3 (by omega))
  exact hQ _ s' F Z S hkp
theorem at320 {h : pb_H} {Q : Option Value → pb_H → Prop} : pb_call 143 [.int 320, .int 2] h Q ↔ Q (some (.int (nI (5442 * 20)))) h := A143 (r := 320) (v := 2)
theorem at316 {h : pb_H} {Q : Option Value → pb_H → Prop} {v : Nat} : pb_call 143 [.int 316, .int (nI v)] h Q ↔ Q (some (.int (nI ((5372 + v) * 20)))) h := A143 (r := 316)
theorem at317 {h : pb_H} {Q : Option Value → pb_H → Prop} {v : Nat} : pb_call 143 [.int 317, .int (nI v)] h Q ↔ Q (some (.int (nI ((5389 + v) * 20)))) h := A143 (r := 317)
theorem at316z {h : pb_H} {Q : Option Value → pb_H → Prop} : pb_call 143 [.int 316, .int 0] h Q ↔ Q (some (.int (nI (5372 * 20)))) h := A143z (r := 316)
theorem at317z {h : pb_H} {Q : Option Value → pb_H → Prop} : pb_call 143 [.int 317, .int 0] h Q ↔ Q (some (.int (nI (5389 * 20)))) h := A143z (r := 317)
/-- above less below -/
def RA (V : Nat) (G : Nat → Nat) (t : Nat → Int) (K : Nat) : Prop := ∀ u, u ≤ V → (rv G (5372 + u) : Int) - (rv G (5389 + u) : Int) = t u ∧ rv G (5372 + u) ≤ K * 10 ^ 60 ∧ rv G (5389 + u) ≤ K * 10 ^ 60
abbrev abS : Nat → Prop := fun i => (5372 ≤ i ∧ i < 5406) ∨ i = 5442
theorem K_fit {K x y : Nat} (hK : K ≤ 20000) (hx : x ≤ K * 10 ^ 60) (hy : y ≤ 10 ^ 60) : x + y < 65536 ^ 20 := by
  have h1 : K * 10 ^ 60 ≤ 20000 * 10 ^ 60 := Nat.mul_le_mul_right _ hK
  have h2 : 20000 * 10 ^ 60 + 10 ^ 60 < 65536 ^ 20 := by decide
  exact Nat.lt_of_le_of_lt (Nat.add_le_add (Nat.le_trans hx h1) hy) h2
theorem RA_up {w : Bool} {v N K : Nat} {t : Nat → Int} {G' : Nat → Nat} (hA : RA V G t K) (hv16 : v ≤ 16) (hV : V ≤ 16) (nb : NB ((if w = true then 5372 else 5389) + v) G G') (hv : rv G' ((if w = true then 5372 else 5389) + v) = rv G ((if w = true then 5372 else 5389) + v) + N) (hN2 : N ≤ 10 ^ 60) : RA V G' (fun u => if u = v then (if w = true then t u + N else t u - N) else t u) (K + 1) := by
  intro u hu
  obtain ⟨b1, b2, b3⟩ := hA u hu
  rw [Nat.add_mul, Nat.one_mul]
  show _ = (if u = v then (if w = true then t u + (N : Int) else t u - (N : Int)) else t u) ∧ _
  generalize 10 ^ 60 = P at *
  cases w
  · simp only [Bool.false_eq_true, if_false] at nb hv ⊢
    rw [rv_ne nb (show 5372 + u ≠ 5389 + v by omega)]
    by_cases e : u = v
    · subst e
      rw [if_pos rfl, hv]
      omega
    · rw [if_neg e, rv_ne nb (show 5389 + u ≠ 5389 + v by omega)]
      omega
  · simp only [if_true] at nb hv ⊢
    rw [rv_ne nb (show 5389 + u ≠ 5372 + v by omega)]
    by_cases e : u = v
    · subst e
      rw [if_pos rfl, hv]
      omega
    · rw [if_neg e, rv_ne nb (show 5372 + u ≠ 5372 + v by omega)]
      omega
theorem RA_plus {w : Bool} {v N K : Nat} {t : Nat → Int} (hX : RX h s G sg) (hA : RA V G t K) (hK : K ≤ 20000) (hvV : v ≤ V) (hV : V ≤ 16) (hN : rv G 5442 = N) (hN2 : N ≤ 10 ^ 60)
    (hE : ∀ h' G', fr rS h h' → RX h' s G' sg → NF abS G sg G' sg → rv G' 5442 = N → RA V G' (fun u => if u = v then (if w = true then t u + N else t u - N) else t u) (K + 1) → Q none h') : pb_call 151 [.ref 65, .int (nI (((if w = true then 5372 else 5389) + v) * 20)), .int (nI (5442 * 20))] h Q := by
  obtain ⟨a1, a2, a3⟩ := hA v hvV
  refine A151 hX (by split <;> omega) (by omega) (by split <;> omega) ?_ ?_
  · rw [hN]
    cases w
    · exact K_fit (by omega) a3 hN2
    · exact K_fit (by omega) a2 hN2
  · intro h3 G3 F3 X3 nb hv
    rw [hN] at hv
    exact hE h3 G3 F3 X3 (NF_nb (i := (if w = true then 5372 else 5389) + v) (by split <;> omega) nb) (by rw [rv_ne nb (by split <;> omega), hN]) (RA_up hA (by omega) hV nb hv hN2)
/-- right -/
theorem U184 {w : Bool} {t : Nat → Int} {K N : Nat} (hX : RX h s G sg) (hA : RA V G t K) (hK : K ≤ 20000) (hV : V ≤ 16) (hN : rv G 5442 = N) (hN2 : N ≤ 10 ^ 60)
    (hQ : ∀ h' G', fr rS h h' → RX h' s G' sg → NF abS G sg G' sg → rv G' 5442 = N → RA V G' (fun u => if u = 0 then (if w = true then t u + N else t u - N) else t u) (K + 1) → Q none h') : pb_call 184 [.ref 65, .int (if w = true then 1 else -1)] h Q := by
  have hp := RA_plus (Q := Q) (w := w) (v := 0) hX hA hK (by omega) hV hN hN2 hQ
  rw [pb_c184]
  cases w
  · have c' : (-1 : Int32) ≤ 0 := by decide
    simp only [pb_e184, Bool.false_eq_true, if_false, c', if_true, at317z, at320, Option.toList_some, List.singleton_append, hX.1, pb_gr, true_and, Option.toList_none, List.nil_append]
    refine RA_plus (w := false) (v := 0) hX hA hK (by omega) hV hN hN2 ?_
    intro h2 G2 F2 X2 N2 v2 A2
    simp only [Option.toList_none, List.nil_append, pb_e184]
    exact hQ h2 G2 F2 X2 N2 v2 A2
  · have c' : ¬ (1 : Int32) ≤ 0 := by decide
    simp only [pb_e184, if_true, c', if_false, at316z, at320, Option.toList_some, List.singleton_append, hX.1, pb_gr, true_and, Option.toList_none, List.nil_append]
    refine RA_plus (w := true) (v := 0) hX hA hK (by omega) hV hN hN2 ?_
    intro h2 G2 F2 X2 N2 v2 A2
    simp only [Option.toList_none, List.nil_append, pb_e184]
    exact hQ h2 G2 F2 X2 N2 v2 A2
theorem RA_mono {t : Nat → Int} {K L : Nat} (h : RA V G t K) (hKL : K ≤ L) : RA V G t L := fun u hu => ⟨(h u hu).1, Nat.le_trans (h u hu).2.1 (Nat.mul_le_mul_right _ hKL), Nat.le_trans (h u hu).2.2 (Nat.mul_le_mul_right _ hKL)⟩
theorem RA_ext {t t' : Nat → Int} {K : Nat} (h : RA V G t K) (e : ∀ u, u ≤ V → t' u = t u) : RA V G t' K := fun u hu => by rw [e u hu]; exact h u hu
/-- term: the LITERAL's VARIABLE v, of the sign pos; mn: the FACTOR is below 0 -/
theorem U185 {v N : Nat} {pos mn : Bool} {t : Nat → Int} {K : Nat} (hX : RX h s G sg) (hA : RA V G t K) (hK : K ≤ 19000) (hV : V ≤ 16) (h1 : 1 ≤ v) (h2 : v ≤ V) (hN : rv G 5442 = N) (hN2 : N ≤ 10 ^ 60)
    (hQ : ∀ h' G', fr rS h h' → RX h' s G' sg → NF abS G sg G' sg → RA V G' (addt t v (pos = true) (if mn = true then - (N : Int) else N)) (K + 2) → Q none h') : pb_call 185 [.ref 65, .int (if pos = true then nI v else - nI v), .int (if mn = true then -1 else 1)] h Q := by
  have hvp : 0 ≤ nI v := nI_pos' (by omega)
  have hvn : ¬ 0 ≤ - nI v := by
    apply Int32.not_le.mpr
    have : nI 0 - nI v < 0 := pk_sneg (by omega) (by omega)
    rw [nI_0, Int32.zero_sub] at this
    exact this
  have hnn : - - nI v = nI v := Int32.neg_neg
  have l1 : ¬ (1 : Int32) ≤ 0 := by decide
  have l2 : (-1 : Int32) ≤ 0 := by decide
  have n1 : - (-1 : Int32) = 1 := by decide
  rw [pb_c185]
  cases pos
  · cases mn
    · simp only [pb_e185, Bool.false_eq_true, if_false, hvn, hnn, l2, if_true, at317, at320, Option.toList_some, List.singleton_append, hX.1, pb_gr, true_and]
      refine RA_plus (w := false) (v := v) hX hA (by omega) h2 hV hN hN2 ?_
      intro h3 G3 F3 X3 N3 v3 A3
      simp only [Option.toList_none, List.nil_append, pb_e185, hvn, if_false, X3.1, pb_gr, true_and]
      refine U184 (w := false) X3 A3 (by omega) hV v3 hN2 ?_
      intro h4 G4 F4 X4 N4 v4 A4
      simp only [Option.toList_none, List.nil_append, pb_e185]
      refine hQ h4 G4 (fr_trans F3 F4) X4 (NF_trans N3 N4) (RA_ext A4 (fun u hu => ?_))
      unfold addt
      by_cases e : u = v
      · have u0 : ¬ u = 0 := by omega
        simp [e, show ¬ v = 0 by omega]
      · by_cases u0 : u = 0
        · simp [u0, show ¬ 0 = v by omega]
        · simp [e, u0]
    · simp only [pb_e185, Bool.false_eq_true, if_false, hvn, hnn, n1, l1, if_true, at316, at320, Option.toList_some, List.singleton_append, hX.1, pb_gr, true_and]
      refine RA_plus (w := true) (v := v) hX hA (by omega) h2 hV hN hN2 ?_
      intro h3 G3 F3 X3 N3 v3 A3
      simp only [Option.toList_none, List.nil_append, pb_e185, hvn, if_false, X3.1, pb_gr, true_and, n1]
      refine U184 (w := true) X3 A3 (by omega) hV v3 hN2 ?_
      intro h4 G4 F4 X4 N4 v4 A4
      simp only [Option.toList_none, List.nil_append, pb_e185]
      refine hQ h4 G4 (fr_trans F3 F4) X4 (NF_trans N3 N4) (RA_ext A4 (fun u hu => ?_))
      unfold addt
      by_cases e : u = v
      · simp [e, show ¬ v = 0 by omega]
      · by_cases u0 : u = 0
        · simp [u0, show ¬ 0 = v by omega]
        · simp [e, u0]
  · cases mn
    · simp only [pb_e185, Bool.false_eq_true, if_false, hvp, if_true, l1, at316, at320, Option.toList_some, List.singleton_append, hX.1, pb_gr, true_and]
      refine RA_plus (w := true) (v := v) hX hA (by omega) h2 hV hN hN2 ?_
      intro h3 G3 F3 X3 N3 v3 A3
      simp only [Option.toList_none, List.nil_append, pb_e185, hvp, if_true]
      refine hQ h3 G3 F3 X3 N3 (RA_mono (RA_ext A3 (fun u hu => ?_)) (by omega))
      unfold addt
      by_cases e : u = v
      · simp [e]
      · simp [e]
    · simp only [pb_e185, hvp, if_true, l2, at317, at320, Option.toList_some, List.singleton_append, hX.1, pb_gr, true_and]
      refine RA_plus (w := false) (v := v) hX hA (by omega) h2 hV hN hN2 ?_
      intro h3 G3 F3 X3 N3 v3 A3
      simp only [Option.toList_none, List.nil_append, pb_e185, hvp, if_true]
      refine hQ h3 G3 F3 X3 N3 (RA_mono (RA_ext A3 (fun u hu => ?_)) (by omega))
      unfold addt
      by_cases e : u = v
      · simp [e]
        omega
      · simp [e]
end RCO
