/-! The reference's check, whole; the class's fault, literal, piece, holds, origin -/
section RCW
variable {h : pb_H} {Q : Option Value → pb_H → Prop} {V n m : Nat} {b : Nat → Nat} {s sg og f0 : Nat → Int32} {G : Nat → Nat} {X : Nat → LN} {ogN : Nat → Nat}
/-- check -/
theorem U201 (hV : V ≤ 16) (K : RK h V n b s G sg m X) (h68 : h.2 68 = ci 301 og) (ho : ∀ k, 1 ≤ k → k ≤ m → og k = nI (ogN k)) (h74 : h.2 74 = ci 17 f0)
    (hQ : ∀ h' s' G' sg' og' f' d e m' X' ogN', sChk b n V (n + 1) (st0 b n) 0 m X ogN = (d, e, m', X', ogN') → fr rG h h' → RX h' s' G' sg' → s' 4 = nI m' → m' ≤ 300 → RLX V G' sg' m' X' → h'.2 68 = ci 301 og' → (∀ k, 1 ≤ k → k ≤ m' → og' k = nI (ogN' k)) → h'.2 74 = ci 17 f' → FKR s' e → s' 7 = 0 → kp (fun k => stS k ∨ k = 7) s s' → Q (some (.int (nI d))) h') : pb_call 201 [.ref 65] h Q := by
  have hg : ∀ c, (pb_set h 65 c).2 65 = c := fun c => by rw [pb_set_get, if_pos rfl]
  obtain ⟨Z1, F1⟩ := RZ_obj K.1 (s' := upd (upd (upd (upd s 17 0) 19 0) 8 0) 9 (-1)) (by rw [upd_ne _ _ (by omega), upd_ne _ _ (by omega), upd_ne _ _ (by omega), upd_ne _ _ (by omega)]) (by rw [upd_ne _ _ (by omega), upd_ne _ _ (by omega), upd_ne _ _ (by omega), upd_ne _ _ (by omega)])
  have kp1 : kp stS s (upd (upd (upd (upd s 17 0) 19 0) 8 0) 9 (-1)) := kp_trans (kp_upd (by omega)) (kp_trans (kp_upd (by omega)) (kp_trans (kp_upd (by omega)) (kp_upd (by omega))))
  rw [pb_c201]
  simp only [pb_e201, K.1.1.1, pb_gr, pb_o_some, hg, pb_set_same, true_and]
  refine R177 (e := 0) (RZ_RT Z1) rfl (Nat.zero_le _) ?_
  intro s2 hN
  obtain ⟨n0, n16, n15, n18, n17⟩ := hN
  have hkp : kp (fun k => 15 ≤ k ∧ k ≤ 18) (upd (upd (upd (upd s 17 0) 19 0) 8 0) 9 (-1)) s2 := fun k q => n0 k (by omega) (by omega) (by omega) (by omega)
  obtain ⟨Z2, F2⟩ := RZ_obj Z1 (s' := s2) (hkp 7 (by omega)) (hkp 3 (by omega))
  have T2 : RSt b n (st0 b n) s2 := ⟨n16, n15, n18, n17, st0_le b n⟩
  have K2 := RK_up hV K Z2 (by rw [hkp 4 (by omega), upd_ne _ _ (by omega), upd_ne _ _ (by omega), upd_ne _ _ (by omega), upd_ne _ _ (by omega)]) (NF_refl (fun _ => False) _ _) (fun i w => w.elim)
  have FF := fr_trans F1 F2
  simp only [Option.toList_none, List.nil_append, pb_e201]
  refine U201_26 (h := h) (s := s) hV (n + 1) (st0 b n) 0 m X ogN og f0 _ s2 G sg (st0_le b n) (by omega) (fr_mono (fun q w => Or.inl w) FF) K2 ((FF.2.2 68 (by omega)).trans h68) ho ((FF.2.2 74 (by omega)).trans h74) T2 (hkp 8 (by omega)) (hkp 9 (by omega)) (hkp 19 (by omega)) (kp_trans kp1 (kp_mono (fun k w => by omega) hkp)) ?_
  intro h3 s3 G3 sg3 og3 f3 d e m3 X3 ogN3 sp F3 K3 e68 ho3 e74 fk k3
  obtain ⟨X4, F4⟩ := RX_obj K3.1.1 (s' := upd s3 7 0)
  simp only [pb_e201, K3.1.1.1, pb_gr, pb_o_some]
  refine hQ _ (upd s3 7 0) G3 sg3 og3 f3 d e m3 X3 ogN3 sp (fr_trans F3 (fr_mono (fun q w => Or.inl w) F4)) X4 (by rw [upd_ne _ _ (by omega)]; exact K3.2.1) K3.2.2.1 K3.2.2.2 ((F4.2.2 68 (by omega)).trans e68) ho3 ((F4.2.2 74 (by omega)).trans e74) ?_ (upd_same _ _ _) (kp_trans (kp_mono (fun k w => Or.inl w) k3) (kp_upd (Or.inr rfl)))
  cases e with
  | none => exact ⟨by rw [upd_ne _ _ (by omega)]; exact fk.1, by rw [upd_ne _ _ (by omega)]; exact fk.2⟩
  | some e => exact ⟨by rw [upd_ne _ _ (by omega)]; exact fk.1, by rw [upd_ne _ _ (by omega)]; exact fk.2⟩
end RCW
def aFau (x fk fp : Int32) : Int32 := if x = 0 then fk else if x = 1 then fp else -1
def aLit (V m : Nat) (X : Nat → LN) (k v : Int32) : Int32 := if (1 ≤ k ∧ k ≤ nI m) ∧ 1 ≤ v ∧ v ≤ nI V then sgI ((X k.toNatClampNeg).2 v.toNatClampNeg) else -1
/-- the 32 bits i of N -/
def pc (N i : Nat) : Nat := N / 4294967296 ^ i % 4294967296
def aPie (V m : Nat) (X : Nat → LN) (k v i : Int32) : Int32 := if (1 ≤ k ∧ k ≤ nI m) ∧ (0 ≤ v ∧ v ≤ nI V) ∧ 0 ≤ i ∧ i ≤ 7 then nI (pc (nu (X k.toNatClampNeg) v.toNatClampNeg) i.toNatClampNeg) else 0
/-- just those of the mask are true -/
def msk (x : Int32) : AS := fun v => some (bt x v)
noncomputable def aHld (V m : Nat) (X : Nat → LN) (k mask : Int32) : Int32 := @ite _ ((1 ≤ k ∧ k ≤ nI m) ∧ ¬ ln_br V (X k.toNatClampNeg) (msk mask)) (Classical.propDecidable _) 1 0
theorem aHld_1 {V m : Nat} {X : Nat → LN} {k mask : Int32} (h : (1 ≤ k ∧ k ≤ nI m) ∧ ¬ ln_br V (X k.toNatClampNeg) (msk mask)) : aHld V m X k mask = 1 := if_pos h
theorem aHld_0 {V m : Nat} {X : Nat → LN} {k mask : Int32} (h : ¬ ((1 ≤ k ∧ k ≤ nI m) ∧ ¬ ln_br V (X k.toNatClampNeg) (msk mask))) : aHld V m X k mask = 0 := if_neg h
def aOri (m : Nat) (og : Nat → Nat) (k : Int32) : Int32 := if 1 ≤ k ∧ k ≤ nI m then nI (og k.toNatClampNeg) else 0
theorem i32_nle {x y : Int32} : ¬ x ≤ y ↔ y < x := Int32.not_le
theorem i32_nlt {x y : Int32} : ¬ x < y ↔ y ≤ x := Int32.not_lt
theorem i32_btw {x : Int32} {m : Nat} (h1 : 0 ≤ x) (h2 : x ≤ nI m) (hm : m < 2 ^ 31) : ∃ j, j ≤ m ∧ x = nI j ∧ x.toNatClampNeg = j := by
  obtain ⟨j, j1, j2⟩ := nI_of (i32_nlt.mpr h1)
  subst j2
  exact ⟨j, (nI_leI (by omega) hm).mp h2, rfl, nI_clamp j1⟩
theorem i32_1j {x : Int32} {m : Nat} (h1 : 1 ≤ x) (h2 : x ≤ nI m) (hm : m < 2 ^ 31) : ∃ j, 1 ≤ j ∧ j ≤ m ∧ x = nI j ∧ x.toNatClampNeg = j := by
  have h0 : (0 : Int32) ≤ x := Int32.le_trans (by decide) h1
  obtain ⟨j, j1, j2, j3⟩ := i32_btw h0 h2 hm
  refine ⟨j, ?_, j1, j2, j3⟩
  rw [j2] at h1
  exact (nI_leI (a := 1) (by omega) (by omega)).mp h1
theorem wv_word {f : Nat → Int32} {o i : Nat} (hi : i < 8) : f (o + i) = nI (pc (wv f o 8) i) := by
  have h1 := wv_split f o i (8 - i)
  have h2 := wv_split f (o + i) 1 (7 - i)
  rw [show i + (8 - i) = 8 by omega] at h1
  rw [show 1 + (7 - i) = 8 - i by omega, wv_one, Nat.pow_one] at h2
  have hl := wv_lt f o i
  have hw := wu_lt (f (o + i))
  have hp : 0 < 4294967296 ^ i := Nat.pow_pos (by omega)
  unfold pc
  rw [h1, h2, Nat.add_mul_div_left _ _ hp, Nat.div_eq_of_lt hl, Nat.zero_add, Nat.add_mul_mod_self_left, Nat.mod_eq_of_lt hw, nI_wu]
section CGT
variable {h : pb_H} {Q : Option Value → pb_H → Prop} {V m p : Nat} {F : Nat → Option Nat} {X : Nat → LN} {og : Nat → Nat}
theorem L128 {cc : Value} {s : Nat → Int32} {x : Int32} (h1 : h.2 1 = cpb V) (h5 : h.2 5 = cx cc s) : pb_call 128 [.ref 1, .int x] h Q ↔ Q (some (.int (aFau x (s 7) (s 8)))) h := by
  rw [pb_c128]
  unfold aFau
  by_cases c0 : x = 0
  · subst c0
    simp only [pb_e128, if_true, h1, pb_g11, pb_o_some, h5, pb_gx]
  · by_cases c1 : x = 1
    · subst c1
      simp only [pb_e128, c0, if_true, if_false, h1, pb_g11, pb_o_some, h5, pb_gx]
    · simp only [pb_e128, c0, c1, if_false]
theorem L129 {k v : Int32} (hV : V ≤ 16) (h1 : h.2 1 = cpb V) (hS : SHL h V m p F X og) : pb_call 129 [.ref 1, .int k, .int v] h Q ↔ Q (some (.int (aLit V m X k v))) h := by
  obtain ⟨u1, ⟨r, u2⟩, u3, u4, u5, u6, u7⟩ := hS
  rw [pb_c129]
  unfold aLit
  by_cases ck : 1 ≤ k ∧ k ≤ nI m
  · obtain ⟨j, j1, j2, j3, j4⟩ := i32_1j ck.1 ck.2 (by omega)
    obtain ⟨a, ea, f, pp, nn, wi, ca, cf, co', d1, d2, d3, d4⟩ := u5 j j1 j2
    have h46 : ∀ Q : Option Value → pb_H → Prop, pb_call 46 [.ref 2, .int k] h Q ↔ Q (some (.ref a)) h := fun Q => by rw [j3]; exact m46_in u1 u3 u4 j1 j2 ea
    by_cases cv : 1 ≤ v ∧ v ≤ nI V
    · obtain ⟨w, w1, w2, w3, w4⟩ := i32_1j cv.1 cv.2 (by omega)
      have n1 : ¬ v < 1 := i32_nlt.mpr cv.1
      have h60 : ∀ Q : Option Value → pb_H → Prop, pb_call 60 [.ref a, .int v] h Q ↔ Q (some (.int (sgn pp nn w))) h := fun Q => by rw [w3]; exact m60 d1 w1 (by omega)
      have es : sgn pp nn w = sgI ((X j).2 w) := by
        rcases sgn_of (p := 0) (n := 0) d3 w1 w2 with q | q | q
        · rw [q.2.1, sgI_pos q.1]
        · rw [q.2.1, sgI_neg q.1]
        · rw [q.2.1, q.1]; rfl
      rw [if_pos ⟨ck, cv⟩, j4, w4, ← es]
      simp only [pb_e129, h1, pb_g11, pb_o_some, u1, pb_g7, true_and, h46, Option.toList_some, List.singleton_append, n1, if_false, cv.2, if_true, d1, pb_g4, h60]
    · rw [if_neg (fun w => cv w.2)]
      by_cases n1 : v < 1
      · simp only [pb_e129, h1, pb_g11, pb_o_some, u1, pb_g7, true_and, h46, Option.toList_some, List.singleton_append, n1, if_true]
      · have n2 : ¬ v ≤ nI V := fun w => cv ⟨i32_nlt.mp n1, w⟩
        simp only [pb_e129, h1, pb_g11, pb_o_some, u1, pb_g7, true_and, h46, Option.toList_some, List.singleton_append, n1, n2, if_false]
  · have hout : k < 1 ∨ nI m < k := by
      by_cases c : k < 1
      · exact Or.inl c
      · right
        exact i32_nle.mp (fun w => ck ⟨i32_nlt.mp c, w⟩)
    have h46 := fun Q : Option Value → pb_H → Prop => m46_no (Q := Q) u1 hout
    rw [if_neg (fun w => ck w.1)]
    simp only [pb_e129, h1, pb_g11, pb_o_some, u1, pb_g7, true_and, h46, Option.toList_some, List.singleton_append]
theorem L130 {k v i : Int32} (hV : V ≤ 16) (h1 : h.2 1 = cpb V) (hS : SHL h V m p F X og) : pb_call 130 [.ref 1, .int k, .int v, .int i] h Q ↔ Q (some (.int (aPie V m X k v i))) h := by
  obtain ⟨u1, ⟨r, u2⟩, u3, u4, u5, u6, u7⟩ := hS
  rw [pb_c130]
  unfold aPie
  by_cases ck : 1 ≤ k ∧ k ≤ nI m
  · obtain ⟨j, j1, j2, j3, j4⟩ := i32_1j ck.1 ck.2 (by omega)
    obtain ⟨a, ea, f, pp, nn, wi, ca, cf, co', d1, d2, d3, d4⟩ := u5 j j1 j2
    have h46 : ∀ Q : Option Value → pb_H → Prop, pb_call 46 [.ref 2, .int k] h Q ↔ Q (some (.ref a)) h := fun Q => by rw [j3]; exact m46_in u1 u3 u4 j1 j2 ea
    by_cases cv : 0 ≤ v ∧ v ≤ nI V
    · have n1 : ¬ v < 0 := i32_nlt.mpr cv.1
      have n2 : ¬ nI V < v := i32_nlt.mpr cv.2
      by_cases ci' : 0 ≤ i ∧ i ≤ 7
      · have n3 : ¬ i < 0 := i32_nlt.mpr ci'.1
        obtain ⟨w, w1, w3, w4⟩ := i32_btw cv.1 cv.2 (by omega)
        obtain ⟨q, q1, q3, q4⟩ := i32_btw (m := 7) ci'.1 ci'.2 (by omega)
        have n4 : i < 8 := by rw [q3]; exact nI_lt (b := 8) (by omega) (by omega)
        have eix : v * 8 + i = nI (w * 8 + q) := by
          rw [w3, q3]
          have t8 : (8 : Int32) = nI 8 := rfl
          rw [t8, nI_mul, nI_add]
        have hgt := pb_ai_eq (k := 0) (n := (V + 1) * 8) (j := w * 8 + q) (f := f) (Or.inl rfl) (by omega) (by omega)
        rw [if_pos ⟨ck, cv, ci'⟩, j4, w4, q4, ← LF_nu d3 w w1, ← wv_word (by omega)]
        simp only [pb_e130, h1, pb_g11, pb_o_some, u1, pb_g7, true_and, h46, Option.toList_some, List.singleton_append, n1, n2, n3, if_false, n4, if_true, d1, pb_g4, eix, d2, hgt]
      · rw [if_neg (fun w => ci' w.2.2)]
        by_cases n3 : i < 0
        · simp only [pb_e130, h1, pb_g11, pb_o_some, u1, pb_g7, true_and, h46, Option.toList_some, List.singleton_append, n1, n2, n3, if_false, if_true]
        · have n4 : ¬ i < 8 := fun w => ci' ⟨i32_nlt.mp n3, by
            obtain ⟨q, q1, q3⟩ := nI_of n3
            rw [q3] at w ⊢
            have := (nI_ltI (a := q) (b := 8) (by omega) (by omega)).mp w
            exact nI_le (b := 7) (by omega) (by omega)⟩
          simp only [pb_e130, h1, pb_g11, pb_o_some, u1, pb_g7, true_and, h46, Option.toList_some, List.singleton_append, n1, n2, n3, n4, if_false]
    · rw [if_neg (fun w => cv w.2.1)]
      by_cases n1 : v < 0
      · simp only [pb_e130, h1, pb_g11, pb_o_some, u1, pb_g7, true_and, h46, Option.toList_some, List.singleton_append, n1, if_true]
      · have n2 : nI V < v := i32_nle.mp (fun w => cv ⟨i32_nlt.mp n1, w⟩)
        simp only [pb_e130, h1, pb_g11, pb_o_some, u1, pb_g7, true_and, h46, Option.toList_some, List.singleton_append, n1, n2, if_false, if_true]
  · have hout : k < 1 ∨ nI m < k := by
      by_cases c : k < 1
      · exact Or.inl c
      · right
        exact i32_nle.mp (fun w => ck ⟨i32_nlt.mp c, w⟩)
    have h46 := fun Q : Option Value → pb_H → Prop => m46_no (Q := Q) u1 hout
    rw [if_neg (fun w => ck w.1)]
    simp only [pb_e130, h1, pb_g11, pb_o_some, u1, pb_g7, true_and, h46, Option.toList_some, List.singleton_append]
theorem msk_AB {x : Int32} (hV : V ≤ 16) : AB V (msk x) x (x ^^^ -1) := fun v v1 v2 => by
  rw [bt_not (by omega) v1]
  unfold msk
  cases bt x v
  · simp
  · simp
abbrev lkS (F : Nat → Option Nat) : Nat → Prop := fun b => b = 3 ∨ ∃ i a, i < 300 ∧ F i = some a ∧ b = a
theorem L131 {k mask : Int32} (hV : V ≤ 16) (h1 : h.2 1 = cpb V) (hS : SHL h V m p F X og)
    (hQ : ∀ h', fr (lkS F) h h' → SHL h' V m p F X og → Q (some (.int (aHld V m X k mask))) h') : pb_call 131 [.ref 1, .int k, .int mask] h Q := by
  obtain ⟨u1, ⟨r, u2⟩, u3, u4, u5, u6, u7⟩ := id hS
  rw [pb_c131]
  by_cases ck : 1 ≤ k ∧ k ≤ nI m
  · obtain ⟨j, j1, j2, j3, j4⟩ := i32_1j ck.1 ck.2 (by omega)
    obtain ⟨a, ea, La⟩ := u5 j j1 j2
    have h46 : ∀ Q : Option Value → pb_H → Prop, pb_call 46 [.ref 2, .int k] h Q ↔ Q (some (.ref a)) h := fun Q => by rw [j3]; exact m46_in u1 u3 u4 j1 j2 ea
    have l83 := (u6 (j - 1) a (by omega) ea).1
    simp only [pb_e131, h1, pb_g11, pb_o_some, u1, pb_g7, true_and, h46, Option.toList_some, List.singleton_append, LA_is La]
    refine L71 hV La (msk_AB hV) u2 (by omega) (by omega) (by omega) ?_
    intro h2 z r2 G2 L2 e32 hz
    have S2 := SHL_look hS j1 j2 ea G2 L2 e32
    have F2 : fr (lkS F) h h2 := fr_mono (fun b w => by
      rcases w with w | w
      · exact Or.inr ⟨j - 1, a, by omega, ea, w⟩
      · exact Or.inl w) G2
    by_cases br : ln_br V (X j) (msk mask)
    · have hz1 := (LK_br hV hz).mpr br
      subst hz1
      simp only [Option.toList_some, List.singleton_append, pb_e131, if_true, nb0, true_and]
      have := hQ h2 F2 S2
      rw [aHld_0 (fun w => w.2 (by rw [j4]; exact br))] at this
      exact this
    · have hz1 : ¬ z = -1 := fun e => br ((LK_br hV hz).mp e)
      simp only [Option.toList_some, List.singleton_append, pb_e131, hz1, if_false, nb1, true_and]
      have := hQ h2 F2 S2
      rw [aHld_1 ⟨ck, by rw [j4]; exact br⟩] at this
      exact this
  · have hout : k < 1 ∨ nI m < k := by
      by_cases c : k < 1
      · exact Or.inl c
      · right
        exact i32_nle.mp (fun w => ck ⟨i32_nlt.mp c, w⟩)
    have h46 := fun Q : Option Value → pb_H → Prop => m46_no (Q := Q) u1 hout
    simp only [pb_e131, h1, pb_g11, pb_o_some, u1, pb_g7, true_and, h46, Option.toList_some, List.singleton_append, nb0]
    have := hQ h (fr_refl _ _) hS
    rw [aHld_0 (fun w => ck w.1)] at this
    exact this
theorem L132 {k : Int32} (h1 : h.2 1 = cpb V) (hS : SHL h V m p F X og) : pb_call 132 [.ref 1, .int k] h Q ↔ Q (some (.int (aOri m og k))) h := by
  obtain ⟨u1, ⟨r, u2⟩, u3, u4, u5, u6, u7⟩ := hS
  rw [pb_c132]
  unfold aOri
  by_cases ck : 1 ≤ k ∧ k ≤ nI m
  · obtain ⟨j, j1, j2, j3, j4⟩ := i32_1j ck.1 ck.2 (by omega)
    obtain ⟨a, ea, f, pp, nn, wi, ca, cf, co', d1, d2, d3, d4⟩ := u5 j j1 j2
    have h46 : ∀ Q : Option Value → pb_H → Prop, pb_call 46 [.ref 2, .int k] h Q ↔ Q (some (.ref a)) h := fun Q => by rw [j3]; exact m46_in u1 u3 u4 j1 j2 ea
    rw [if_pos ck, j4]
    simp only [pb_e132, h1, pb_g11, pb_o_some, u1, pb_g7, true_and, h46, Option.toList_some, List.singleton_append, d1, pb_g4]
  · have hout : k < 1 ∨ nI m < k := by
      by_cases c : k < 1
      · exact Or.inl c
      · right
        exact i32_nle.mp (fun w => ck ⟨i32_nlt.mp c, w⟩)
    have h46 := fun Q : Option Value → pb_H → Prop => m46_no (Q := Q) u1 hout
    rw [if_neg ck]
    simp only [pb_e132, h1, pb_g11, pb_o_some, u1, pb_g7, true_and, h46, Option.toList_some, List.singleton_append]
end CGT
