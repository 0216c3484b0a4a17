/-! The law from its beginning: what is owed of the small machine -/
theorem nul_none : ∀ n, nul (fun _ => none) n = n := by
  intro n
  induction n with
  | zero => rfl
  | succ n ih =>
    show nul (fun _ => none) n + (if (none : Option Nat) = none then 1 else 0) = n + 1
    rw [ih, if_pos rfl]
/-- the SEARCH at the start -/
def z0S : SS := ((0, 0, 0, 0, 0), (0, fun _ => 0, fun _ => 0, fun _ => 0, fun _ => false), [], (0, fun _ => (0, fun _ => 0), fun _ => 0))
section PURE
variable {h : pb_H} {V L : Nat} {xs : Nat → Int32}
theorem CW_0 (hV : V ≤ 16) (h83 : h.1 = 83) (Y : YB h V) : CW h V 0 49 160 (fun _ => none) z0S := by
  obtain ⟨a1, a2, a3, a4, ⟨s, a5, a5'⟩, a6, a7, a8, a9, a10, a11, a12, a13, a14, a47, a48, a49, a50, a54, a55, a56, a57, a58, a59, a60, a61, a63⟩ := Y
  refine ⟨0, 0, 0, 0, a47, ⟨⟨SG_refl _ _ _, ⟨by omega, Or.inl rfl, by omega, 160, fun _ => 0, a49⟩, ⟨0, 0, fun _ => 0, ⟨a48, a49, Nat.zero_le _, by omega, by omega, by omega, fun _ => (by decide : (0 : Nat) < 256), fun _ _ => rfl, by omega, by omega⟩, Nat.le_refl _, fun i hi => absurd hi (Nat.not_lt_zero _), Or.inl ⟨rfl, rfl, fun i hi => absurd hi (Nat.not_lt_zero _)⟩⟩, a50, ⟨_, a54⟩, ⟨_, a55⟩, ⟨_, a56⟩, _, a3⟩, Nat.zero_le _, a61, a63⟩, ⟨a2, ⟨_, a3⟩, a4, Nat.zero_le _, fun k k1 k2 => ?_, fun i a _ e => (by cases e), fun i j a _ _ e => (by cases e)⟩, ⟨a57, Nat.zero_le _, hV, ⟨_, _, _, a58, a59, a60, fun i hi => absurd hi (Nat.not_lt_zero _)⟩, fun i hi => absurd hi (Nat.not_lt_zero _), fun i hi => absurd hi (Nat.not_lt_zero _)⟩, fun v v1 v2 => ?_, fun v v1 v2 => bt_zero v⟩
  · have k2 : k ≤ 0 := k2
    omega
  · rw [bt_zero]
    exact ⟨⟨fun w => (by cases w), fun w => (by cases w)⟩, ⟨fun w => (by cases w), fun w => (by cases w)⟩⟩
theorem JJ_0 (hV : V ≤ 16) (h83 : h.1 = 83) (h0 : h.2 0 = .inl (3, L, .inl xs)) (Y : YB h V) (R : YR h V) (hs : pb_sl h ≤ L + 200000) : JJ L xs h := by
  have C := CW_0 hV h83 Y
  obtain ⟨a1, a2, a3, a4, ⟨s, a5, a5'⟩, a6, a7, a8, a9, a10, a11, a12, a13, a14, _⟩ := Y
  obtain ⟨⟨t, c65, t3, t9, tn⟩, c66, c67, c68, c69, c70, c71, c72, c73, c74, ⟨f, c75, cf⟩, c76, c77, c78, c79, c80, c81, c82⟩ := R
  have p1 : pot 4000 160 = 11680 := by unfold pot; rw [if_neg (by omega)]
  have p2 : pot 20000 160 = 59680 := by unfold pot; rw [if_neg (by omega)]
  have rb : RB (fun _ => 0) := fun _ => (by decide : (0 : Nat) < 65536)
  refine ⟨h0, V, 10, 160, 0, fun _ => 0, 0, -1, 49, 160, fun _ => none, fun _ => none, 0, z0S, hV, ⟨⟨a1, ⟨a9, a10, Nat.zero_le _, by omega, by omega, by omega, fun _ => (by decide : (0 : Nat) < 256), fun _ _ => rfl, by omega, by omega⟩, Or.inl rfl, by omega, ⟨_, s, a5, a5'⟩, ⟨_, a6⟩, ⟨_, a7⟩, ⟨_, a8⟩, ⟨0, a11⟩, a12, ⟨fun i a _ e => (by cases e), fun i a _ e => (by cases e), fun i j a _ _ e => (by cases e), fun i j a _ _ e => (by cases e), fun i j a _ _ e => (by cases e)⟩, ⟨0, a13⟩, a14, by omega⟩, C⟩, ⟨t, fun _ => 0, fun _ => 0, fun _ => 0, ⟨⟨⟨⟨c65, c66, rb, c67, ⟨_, c70, rb⟩, ⟨_, c71, rb⟩, ⟨_, c72, rb⟩, _, c73, rb⟩, c69, tn 7 (by omega) (by omega), Nat.zero_le _, fun _ => (by decide : (0 : Nat) < 256), t3⟩, tn 4 (by omega) (by omega), Nat.zero_le _, fun k k1 k2 => ?_, fun k k1 k2 => ?_⟩, c68, fun j j1 j2 => ?_, ⟨⟨tn 22 (by omega) (by omega), tn 23 (by omega) (by omega), tn 24 (by omega) (by omega), tn 25 (by omega) (by omega), tn 26 (by omega) (by omega), tn 27 (by omega) (by omega), tn 34 (by omega) (by omega)⟩, Nat.zero_le _, ⟨fun _ => 0, c80, fun _ => (by decide : (0 : Nat) < 256), fun i hi => absurd hi (Nat.not_lt_zero _)⟩, ⟨f, c75, fun v v1 v2 => cf v (by omega)⟩, ⟨_, c76, fun v v1 v2 => rfl⟩, ⟨_, _, _, c77, c78, c79, fun i hi => absurd hi (Nat.not_lt_zero _)⟩, ⟨_, c81⟩, _, c82⟩, lo_nil, TV_0, Nat.zero_le _⟩, ⟨_, c74⟩, tn 5 (by omega) (by omega), tn 8 (by omega) (by omega), t9⟩, ?_, ?_⟩
  · have k2 : k ≤ 0 := k2
    omega
  · have k2 : k ≤ 0 := k2
    omega
  · have j2 : j ≤ 0 := j2
    omega
  · rw [nul_none, nul_none, h83]
    omega
  · rw [nul_none, nul_none, p1, p2]
    omega
theorem vv_in (x : Int32) : ∃ V, V ≤ 16 ∧ (if (1 : Int32) < (if x < 16 then x else 16) then (if x < 16 then x else 16) else 1) = nI V ∧ (if (1 : Int32) ≤ x then (if x ≤ 16 then x else 16) else 1) = nI V := by
  by_cases c1 : (1 : Int32) ≤ x
  · by_cases c2 : x ≤ 16
    · obtain ⟨j, j1, j2, j3⟩ := i32_btw (m := 16) (Int32.le_of_lt (Int32.lt_of_lt_of_le (by decide) c1)) c2 (by omega)
      refine ⟨j, j1, ?_, by rw [if_pos c1, if_pos c2, j2]⟩
      rw [j2] at c1
      rw [j2]
      have all : ∀ j, j < 17 → (1 : Int32) ≤ nI j → (if (1 : Int32) < (if nI j < 16 then nI j else 16) then (if nI j < 16 then nI j else 16) else 1) = nI j := by decide
      exact all j (by omega) c1
    · have n1 : ¬ x < 16 := fun w => c2 (Int32.le_of_lt w)
      refine ⟨16, Nat.le_refl _, ?_, ?_⟩
      · rw [if_neg n1]; decide
      · rw [if_pos c1, if_neg c2]; decide
  · have l1 : x < 1 := i32_nle.mp c1
    have l2 : x < 16 := Int32.lt_of_lt_of_le l1 (by decide)
    have n1 : ¬ (1 : Int32) < x := i32_nlt.mpr (Int32.le_of_lt l1)
    refine ⟨1, by omega, ?_, ?_⟩
    · rw [if_pos l2, if_neg n1]; decide
    · rw [if_neg c1]; decide
theorem Y224 {Q : Option Value → pb_H → Prop} (hL : L ≤ 3073) (h0 : h.2 0 = .inl (3, L, .inl xs)) : pb_call 224 [.ref 0, .int 0] h Q ↔ Q (some (.int (if L = 0 then 0 else xs 0))) h := by
  have al : pb_al2 (.inl (3, L, .inl xs)) = some L := rfl
  have eL : Int32.ofNat L = nI L := rfl
  have i0 : (0 : Int32) = nI 0 := rfl
  rw [pb_c224]
  by_cases c : L = 0
  · have c1 : nI L ≤ 0 := by rw [c]; decide
    rw [if_pos c]
    simp only [pb_e224, h0, al, pb_o_some, eL, c1, if_true]
  · have c1 : ¬ nI L ≤ 0 := by
      rw [i0]; exact nI_ge (by omega) (by omega)
    have g0 : pb_ai (.inl (3, L, .inl xs)) 0 = some (xs 0) := pb_ai_eq (j := 0) (Or.inr rfl) (by omega) (by omega)
    rw [if_neg c]
    simp only [pb_e224, h0, al, pb_o_some, eL, c1, if_false, g0]
end PURE
set_option maxRecDepth 100000 in
theorem pb_pure : pb_Pure := by
  intro L xs hL
  obtain ⟨V, hV, v1, v2⟩ := vv_in (if L = 0 then 0 else xs 0)
  have e1 : (pb_h0 L xs).1 = 1 := rfl
  have e0 : (pb_h0 L xs).2 0 = .inl (3, L, .inl xs) := rfl
  have es : pb_sl (pb_h0 L xs) = L := by
    show 0 + L = L
    omega
  have k224 : ∀ (d : pb_E) (Q : Option Value → pb_H → Prop), pb_call 224 [.ref 0, .int 0] (pb_new (pb_h0 L xs) d) Q ↔ Q (some (.int (if L = 0 then 0 else xs 0))) (pb_new (pb_h0 L xs) d) := fun d Q => Y224 hL (by rw [pb_new_get, if_neg (by rw [e1]; omega), e0])
  rw [pb_c225]
  have s1 : pb_call 123 [.ref 1, .int (if L = 0 then 0 else xs 0)] (pb_new (pb_h0 L xs) (.inr (11, pb_df 11))) (fun v t => pb_R 225 12 [some (.ref 0), none, none, none] [] (v.toList ++ [.ref 1]) t (fun v t => v = some (.int 1) ∧ t.1 ≤ 600001 ∧ pb_sl t ≤ L + 7302250)) := by
    refine Y123 hV e1 v1 ?_
    intro h1 q1 q2 q3 q4
    have k224' : ∀ (d : pb_E) (Q : Option Value → pb_H → Prop), pb_call 224 [.ref 0, .int 0] (pb_new h1 d) Q ↔ Q (some (.int (if L = 0 then 0 else xs 0))) (pb_new h1 d) := fun d Q => Y224 hL (by rw [pb_new_get, if_neg (by rw [q1]; omega), q3, e0])
    have s2 : pb_call 139 [.ref 65, .int (if L = 0 then 0 else xs 0)] (pb_new h1 (.inr (12, pb_df 12))) (fun v t => pb_R 225 25 [some (.ref 0), some (.ref 1), none, none] [] (v.toList ++ [.ref 65]) t (fun v t => v = some (.int 1) ∧ t.1 ≤ 600001 ∧ pb_sl t ≤ L + 7302250)) := by
      refine Y139 q1 v2 ?_
      intro h2 r1 r2 r3 r4
      have J : JJ L xs h2 := JJ_0 hV r1 ((r3 0 (by omega)).trans (q3.trans e0)) (YB_eq r3 q4) r4 (by rw [r2]; rw [es] at q2; omega)
      have key := lw_loop (Q := fun v t => v = some (.int 1) ∧ t.1 ≤ 600001 ∧ pb_sl t ≤ L + 7302250) hL (fun h J => by
        obtain ⟨_, V, c, N, n, b, fa, fb, w, Nw, F, D, p, z, _, _, _, M⟩ := J
        exact ⟨rfl, by have := M.1; omega, by have := M.2; omega⟩) L 1 h2 (by omega) (by omega) J
      simp only [Option.toList_none, List.nil_append, pb_e225]
      exact key
    simp only [Option.toList_none, List.nil_append, pb_e225, q1, k224', Option.toList_some, List.singleton_append] at s2 ⊢
    exact s2
  simp only [pb_e225, e1, k224, Option.toList_some, List.singleton_append] at s1 ⊢
  exact s1
