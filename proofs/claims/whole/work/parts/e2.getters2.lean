/-! PlaneBench: begin, value, trail, proof, count -/
section GT2
variable {h : pb_H} {Q : Option Value → pb_H → Prop} {V c N p : Nat} {F : Nat → Option Nat} {s : SS}
/-- the SEARCH as it is at its beginning, in STATE st -/
def rsS (st : Nat) (s : SS) : SS := ((st, 0, 0, 0, 0), (0, s.2.1.2.1, s.2.1.2.2.1, s.2.1.2.2.2.1, fun _ => false), [], s.2.2.2)
theorem SV_rs {V st : Nat} {s : SS} : SV V (rsS st s) := TV_0
theorem gd_nil (i : Nat) : gd [] i = 0 := rfl
/-- Search.start, forget: the cells -/
theorem CW_rs {h' : pb_H} {x pb : Int32} {st : Nat} (hx : x = nI st) (hC : CW h V p c N F s) (G : fr sS h h') (e47 : h'.2 47 = csr x 0 0 0 0 pb) (e57 : h'.2 57 = ctr V 0 0 0 0) (e48 : h'.2 48 = cw 20000 c 0 0) : CW h' V p c N F (rsS st s) := by
  obtain ⟨pb0, tb, fb, lt, h47, ⟨W, hl, g1, g2⟩, hS, hT, hA, hl2⟩ := hC
  have hcx := WB_c W
  have h83 := WB_83 W
  obtain ⟨c1, M, bb, c2⟩ := WB_cb W
  obtain ⟨w1, w2, ⟨sz, ov, b, ⟨b1, b2, b3, b4, b5, b6, b7, b8, b9, b10⟩, rr⟩, w4, ⟨f4, w5⟩, ⟨f5, w6⟩, ⟨f6, w7⟩, r, w8⟩ := id W
  obtain ⟨t1, t2, t3, ⟨f1, f2, f3, d1, d2, d3, d4⟩, t5, t6⟩ := hT
  subst hx
  refine ⟨pb, 0, 0, 0, e47, ⟨⟨SG_refl _ _ _, ⟨by rw [G.1]; exact h83, hcx, by rw [G.1]; exact c1, M, bb, (G.2.2 c (by omega)).trans c2⟩, ⟨0, 0, b, ⟨e48, (G.2.2 c (by omega)).trans b2, Nat.zero_le _, b4, b5, b6, b7, b8, by rw [G.1]; exact b9, by rw [G.1]; exact b10⟩, Nat.le_refl _, fun i hi => absurd hi (Nat.not_lt_zero _), Or.inl ⟨rfl, rfl, fun i hi => absurd hi (Nat.not_lt_zero _)⟩⟩, DG_fr G (fun b hb w => by omega) w4, ⟨f4, (G.2.2 _ (by omega)).trans w5⟩, ⟨f5, (G.2.2 _ (by omega)).trans w6⟩, ⟨f6, (G.2.2 _ (by omega)).trans w7⟩, r, (G.2.2 _ (by omega)).trans w8⟩, Nat.zero_le _, LG_fr G (by omega) (by omega) g1, LG_fr G (by omega) (by omega) g2⟩, SHL_fr G (fun b w => by omega) hS, ⟨e57, Nat.zero_le _, t3, ⟨f1, f2, f3, (G.2.2 58 (by omega)).trans d1, (G.2.2 59 (by omega)).trans d2, (G.2.2 60 (by omega)).trans d3, fun i hi => absurd hi (Nat.not_lt_zero _)⟩, fun i hi => absurd hi (Nat.not_lt_zero _), fun i hi => absurd hi (Nat.not_lt_zero _)⟩, fun v _ _ => ?_, fun v _ _ => bt_zero v⟩
  rw [bt_zero]
  exact ⟨⟨fun w => (by cases w), fun w => (by cases w)⟩, ⟨fun w => (by cases w), fun w => (by cases w)⟩⟩
theorem AG_sS {h' : pb_H} (G : fr sS h h') : AG V h F c N h' F c N := AG_fr G (fun q w => Or.inr (Or.inr (Or.inr (Or.inl (by omega)))))
/-- PlaneBench.begin -/
theorem L133 (h1 : h.2 1 = cpb V) (hC : CW h V p c N F s) (hQ : ∀ h', AG V h F c N h' F c N → CW h' V p c N F (rsS 1 s) → Q (some (.int 1)) h') : pb_call 133 [.ref 1] h Q := by
  obtain ⟨pb0, tb, fb, lt, h47, ⟨W, hl, g1, g2⟩, hS, hT, hA, hl2⟩ := id hC
  obtain ⟨sz, ov, b, ⟨b1, _⟩, _⟩ := W.2.2.1
  have is47 : pb_is0 (h.2 47) 6 = true := by rw [h47]; rfl
  rw [pb_c133]
  simp only [pb_e133, h1, pb_g11, pb_o_some, is47, true_and]
  refine L97 h47 hT.1 b1 ?_
  intro h2 G e47 e57 e48
  simp only [Option.toList_none, List.nil_append, pb_e133, nb1, true_and]
  exact hQ h2 (AG_sS G) (CW_rs (x := 1) rfl hC G e47 e57 e48)
noncomputable def aVal (V : Nat) (s : SS) (x : Int32) : Int32 := if 1 ≤ x ∧ x ≤ nI V then avI (asg s.2.1.2.1 s.2.1.1 x.toNatClampNeg) else -1
/-- PlaneBench.value -/
theorem L135 {x : Int32} (hV : V ≤ 16) (h1 : h.2 1 = cpb V) (hC : CW h V p c N F s) : pb_call 135 [.ref 1, .int x] h Q ↔ Q (some (.int (aVal V s x))) h := by
  obtain ⟨pb0, tb, fb, lt, h47, ⟨W, hl, g1, g2⟩, hS, hT, hA, hl2⟩ := hC
  rw [pb_c135]
  unfold aVal
  by_cases ck : 1 ≤ x ∧ x ≤ nI V
  · obtain ⟨j, j1, j2, j3, j4⟩ := i32_1j ck.1 ck.2 (by omega)
    have h122 : ∀ Q : Option Value → pb_H → Prop, pb_call 122 [.ref 57, .int x] h Q ↔ Q (some (.int (avI (asg s.2.1.2.1 s.2.1.1 j)))) h := fun Q => by rw [j3]; exact m122 hT hA j1 j2
    have n1 : ¬ x < 1 := i32_nlt.mpr ck.1
    rw [if_pos ck, j4]
    simp only [pb_e135, n1, if_false, h1, pb_g11, pb_o_some, ck.2, if_true, h47, pb_g6, hT.1, pb_g9, true_and, h122, Option.toList_some, List.singleton_append]
  · rw [if_neg ck]
    by_cases c1 : x < 1
    · simp only [pb_e135, c1, if_true]
    · have n2 : ¬ x ≤ nI V := fun w => ck ⟨i32_nlt.mp c1, w⟩
      simp only [pb_e135, c1, if_false, h1, pb_g11, pb_o_some, n2]
def aTrl (s : SS) (x w : Int32) : Int32 := if 0 ≤ x ∧ x < nI s.2.1.1 then (if w = 0 then lI (s.2.1.2.1 x.toNatClampNeg) else if w = 1 then nI (s.2.1.2.2.1 x.toNatClampNeg) else if w = 2 then nI (s.2.1.2.2.2.1 x.toNatClampNeg) else 0) else 0
/-- PlaneBench.trail -/
theorem L136 {x w : Int32} (hV : V ≤ 16) (h1 : h.2 1 = cpb V) (hC : CW h V p c N F s) : pb_call 136 [.ref 1, .int x, .int w] h Q ↔ Q (some (.int (aTrl s x w))) h := by
  obtain ⟨pb0, tb, fb, lt, h47, ⟨W, hl, g1, g2⟩, hS, hT, hA, hl2⟩ := hC
  obtain ⟨t1, t2, t3, ⟨f1, f2, f3, d1, d2, d3, d4⟩, t5, t6⟩ := hT
  rw [pb_c136]
  unfold aTrl
  by_cases ck : 0 ≤ x ∧ x < nI s.2.1.1
  · obtain ⟨j, j1, j2, j3⟩ := i32_btw ck.1 (Int32.le_of_lt ck.2) (by omega)
    have j5 : j < s.2.1.1 := by
      have := ck.2
      rw [j2] at this
      exact (nI_ltI (by omega) (by omega)).mp this
    have n1 : ¬ x < 0 := i32_nlt.mpr ck.1
    have ga := pb_ai_eq (k := 0) (n := V) (j := j) (f := f1) (Or.inl rfl) (by omega) (by omega)
    have gb := pb_ai_eq (k := 0) (n := V) (j := j) (f := f2) (Or.inl rfl) (by omega) (by omega)
    have gc := pb_ai_eq (k := 0) (n := V) (j := j) (f := f3) (Or.inl rfl) (by omega) (by omega)
    rw [(d4 j j5).1, ← j2] at ga
    rw [(d4 j j5).2.1, ← j2] at gb
    rw [(d4 j j5).2.2, ← j2] at gc
    rw [if_pos ck, j3]
    by_cases w0 : w = 0
    · simp only [pb_e136, n1, if_false, h1, pb_g11, pb_o_some, h47, pb_g6, t1, pb_g9, ck.2, if_true, w0, d1, ga]
    · by_cases w1 : w = 1
      · have n10 : ¬ (1 : Int32) = 0 := by decide
        simp only [pb_e136, n1, if_false, h1, pb_g11, pb_o_some, h47, pb_g6, t1, pb_g9, ck.2, if_true, w1, n10, d2, gb]
      · by_cases w2 : w = 2
        · have n20 : ¬ (2 : Int32) = 0 := by decide
          have n21 : ¬ (2 : Int32) = 1 := by decide
          simp only [pb_e136, n1, if_false, h1, pb_g11, pb_o_some, h47, pb_g6, t1, pb_g9, ck.2, if_true, w2, n20, n21, d3, gc]
        · simp only [pb_e136, n1, if_false, h1, pb_g11, pb_o_some, h47, pb_g6, t1, pb_g9, ck.2, if_true, w0, w1, w2]
  · rw [if_neg ck]
    by_cases c1 : x < 0
    · simp only [pb_e136, c1, if_true]
    · have n2 : ¬ x < nI s.2.1.1 := fun w => ck ⟨i32_nlt.mp c1, w⟩
      simp only [pb_e136, c1, if_false, h1, pb_g11, pb_o_some, h47, pb_g6, t1, pb_g9, n2]
def aPrf (s : SS) (x : Int32) : Int32 := if 0 ≤ x ∧ x < nI s.2.2.1.length then nI (gd s.2.2.1 x.toNatClampNeg) else -1
/-- PlaneBench.proof -/
theorem L137 {x : Int32} (h1 : h.2 1 = cpb V) (hC : CW h V p c N F s) : pb_call 137 [.ref 1, .int x] h Q ↔ Q (some (.int (aPrf s x))) h := by
  obtain ⟨pb0, tb, fb, lt, h47, ⟨W, hl, g1, g2⟩, hS, hT, hA, hl2⟩ := hC
  have is48 := WB_is W
  obtain ⟨sz, ov, b, ⟨b1, b2, b3, b4, b5, b6, b7, b8, b9, b10⟩, r1, r2, r3⟩ := W.2.2.1
  have hsz : sz = s.2.2.1.length ∧ ∀ i, i < s.2.2.1.length → b i = gd s.2.2.1 i := by
    rcases r3 with q | q
    · exact ⟨q.2.1, q.2.2⟩
    · omega
  have h11 : ∀ Q : Option Value → pb_H → Prop, pb_call 11 [.ref 48, .int x] h Q ↔ Q (some (.int (aPrf s x))) h := fun Q => by
    rw [pb_c11]
    unfold aPrf
    by_cases ck : 0 ≤ x ∧ x < nI s.2.2.1.length
    · obtain ⟨j, j1, j2, j3⟩ := i32_btw ck.1 (Int32.le_of_lt ck.2) (by omega)
      have j5 : j < s.2.2.1.length := by
        have := ck.2
        rw [j2] at this
        exact (nI_ltI (by omega) (by omega)).mp this
      have n1 : ¬ x < 0 := i32_nlt.mpr ck.1
      have n2 : x < nI sz := by rw [hsz.1]; exact ck.2
      have hg := cb_get (N := N) (b := b) (j := j) (by omega) (by omega)
      rw [← j2] at hg
      have h2 := sB_255 (b j) (b7 j)
      rw [hsz.2 j j5] at h2 hg
      rw [if_pos ck, j3]
      simp only [pb_e11, n1, if_false, b1, pb_g0, pb_o_some, n2, if_true, b2, hg, h2]
    · rw [if_neg ck]
      by_cases c1 : x < 0
      · simp only [pb_e11, c1, if_true]
      · have n2 : ¬ x < nI sz := by rw [hsz.1]; exact fun w => ck ⟨i32_nlt.mp c1, w⟩
        simp only [pb_e11, c1, if_false, b1, pb_g0, pb_o_some, n2]
  rw [pb_c137]
  simp only [pb_e137, h1, pb_g11, pb_o_some, h47, pb_g6, is48, true_and, h11, Option.toList_some, List.singleton_append]
noncomputable def aCnt (V p n : Nat) (s : SS) (k : Int32) : Int32 := if k = 0 then nI s.2.2.2.1 else if k = 1 then nI p else if k = 2 then nI s.2.2.1.length else if k = 3 then nI s.1.1 else if k = 4 then nI s.2.1.1 else if k = 5 then nI s.1.2.1 else if k = 6 then nI s.1.2.2.1 else if k = 7 then nI s.1.2.2.2.1 else if k = 8 then nI s.1.2.2.2.2 else if k = 9 then nI (nfl V s.2.2.2.2.1 s.2.2.2.1) else if k = 10 then nI n else -1
/-- PlaneBench.count -/
theorem L138 {k : Int32} {lw sw ow : Value} {n : Nat} (h1 : h.2 1 = cpb V) (h9 : h.2 9 = .inr (0, [lw, sw, .int (nI n), ow])) (hC : CW h V p c N F s) : pb_call 138 [.ref 1, .int k] h Q ↔ Q (some (.int (aCnt V p n s k))) h := by
  obtain ⟨pb0, tb, fb, lt, h47, ⟨W, hl, g1, g2⟩, hS, hT, hA, hl2⟩ := hC
  obtain ⟨sz, ov, b, ⟨b1, b2, b3, b4, b5, b6, b7, b8, b9, b10⟩, r1, r2, r3⟩ := W.2.2.1
  have hsz : sz = s.2.2.1.length := by
    rcases r3 with q | q
    · exact q.2.1
    · omega
  subst hsz
  have hs1 := hS.1
  have ht1 := hT.1
  rw [pb_c138]
  unfold aCnt
  simp only [pb_e138, h1, pb_g11, pb_o_some, h47, pb_g6, hs1, pb_g7, b1, pb_g0, ht1, pb_g9, h9]
  by_cases k0 : k = 0
  · simp only [k0, if_true]
  · by_cases k1 : k = 1
    · simp only [k1, if_true]; simp
    · by_cases k2 : k = 2
      · simp only [k2, if_true]; simp
      · by_cases k3 : k = 3
        · simp only [k3, if_true]; simp
        · by_cases k4 : k = 4
          · simp only [k4, if_true]; simp
          · by_cases k5 : k = 5
            · simp only [k5, if_true]; simp
            · by_cases k6 : k = 6
              · simp only [k6, if_true]; simp
              · by_cases k7 : k = 7
                · simp only [k7, if_true]; simp
                · by_cases k8 : k = 8
                  · simp only [k8, if_true]; simp
                  · by_cases k9 : k = 9
                    · simp only [k9, if_true]; simp
                    · by_cases k10 : k = 10
                      · simp only [k10, if_true]; simp
                      · simp only [k0, k1, k2, k3, k4, k5, k6, k7, k8, k9, k10, if_false]
end GT2
