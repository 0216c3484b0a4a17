/-! Search.act -/
section CNT
variable {V m : Nat} {X : Nat → LN} {T : Nat → Int} {Lv Rs : Nat → Nat} {lv ts : Nat} {A : AS}
theorem sm_ones : ∀ V : Nat, sm (fun _ => 1) V = V := by
  intro V
  induction V with
  | zero => rfl
  | succ V ih => show sm (fun _ => 1) V + 1 = V + 1; rw [ih]
theorem cnt_asg (h1 : ∀ i, i < ts → 1 ≤ (T i).natAbs ∧ (T i).natAbs ≤ V) (h2 : ∀ i j, i < j → j < ts → (T i).natAbs ≠ (T j).natAbs) : ∀ n, n ≤ ts → cnt (asg T n) V + n = V := by
  intro n
  induction n with
  | zero => intro _; exact sm_ones V
  | succ n ih =>
    intro hn
    have ih := ih (by omega)
    obtain ⟨a, b⟩ := h1 n (by omega)
    have hnone : asg T n (T n).natAbs = none := asg_none (fun j hj => h2 j n hj (by omega))
    have hat : asg T (n + 1) (T n).natAbs ≠ none := by
      show (if (T n).natAbs = (T n).natAbs then _ else _) ≠ none
      rw [if_pos rfl]; exact fun e => by cases e
    have hoff : ∀ w, w ≠ (T n).natAbs → asg T (n + 1) w = asg T n w := fun w hw => by
      show (if w = (T n).natAbs then _ else _) = _
      rw [if_neg hw]
    have g1 : cnt (asg T (n + 1)) V + 1 ≤ cnt (asg T n) V := by
      refine sm_one a b (fun v v1 v2 => ?_) ?_
      · by_cases e : v = (T n).natAbs
        · subst e; rw [if_neg hat]; omega
        · rw [hoff v e]; exact Nat.le_refl _
      · rw [if_neg hat, if_pos hnone]; exact Nat.le_refl _
    have g2 : cnt (asg T n) V ≤ cnt (asg T (n + 1)) V + 1 := by
      refine sm_up (u := (T n).natAbs) (fun w w1 w2 w3 => ?_) ?_
      · rw [hoff w w3]; exact Nat.le_refl _
      · rw [if_pos hnone]; omega
    omega
theorem TV_cnt (hT : TV V m X T Lv Rs lv ts) : cnt (asg T ts) V + ts = V := cnt_asg hT.2.1 hT.2.2.1 ts (Nat.le_refl _)
theorem TV_free {v : Nat} (hT : TV V m X T Lv Rs lv ts) (v1 : 1 ≤ v) (v2 : v ≤ V) (hn : asg T ts v = none) : ts < V := by
  have h := TV_cnt hT
  have g : sm (fun _ => 0) V + 1 ≤ cnt (asg T ts) V := sm_one v1 v2 (fun _ _ _ => Nat.zero_le _) (by rw [if_pos hn]; exact Nat.le_refl _)
  omega
theorem cnt_some (A : AS) : ∀ V : Nat, 1 ≤ cnt A V → ∃ v, 1 ≤ v ∧ v ≤ V ∧ A v = none ∧ ∀ u, 1 ≤ u → u < v → A u ≠ none := by
  intro V
  induction V with
  | zero => intro h; exact absurd h (by show ¬ 1 ≤ 0; omega)
  | succ V ih =>
    intro h
    by_cases c : 1 ≤ cnt A V
    · obtain ⟨v, a, b, d, e⟩ := ih c
      exact ⟨v, a, by omega, d, e⟩
    · have e : cnt A V + (if A (V + 1) = none then 1 else 0) = cnt A (V + 1) := rfl
      by_cases q : A (V + 1) = none
      · refine ⟨V + 1, by omega, Nat.le_refl _, q, fun u u1 u2 w => c ?_⟩
        have g : sm (fun _ => 0) V + 1 ≤ cnt A V := sm_one u1 (by omega) (fun _ _ _ => Nat.zero_le _) (by rw [if_pos w]; exact Nat.le_refl _)
        omega
      · rw [if_neg q] at e
        omega
end CNT
/-- the class's SEARCH -/
def CW (h : pb_H) (V p c N : Nat) (F : Nat → Option Nat) (s : SS) : Prop := ∃ pb tb fb lt, h.2 47 = csr (nI s.1.1) (nI s.1.2.1) (nI s.1.2.2.1) (nI s.1.2.2.2.1) (nI s.1.2.2.2.2) pb ∧ SRx h V c N s.2.2.1 ∧ SHL h V s.2.2.2.1 p F s.2.2.2.2.1 s.2.2.2.2.2 ∧ CT h V s.2.1.1 s.2.1.2.1 s.2.1.2.2.1 s.2.1.2.2.2.1 tb fb lt ∧ AB V (asg s.2.1.2.1 s.2.1.1) tb fb ∧ ∀ v, 1 ≤ v → v ≤ V → bt lt v = s.2.1.2.2.2.2 v
/-- the TRAIL's invariant -/
def SV (V : Nat) (s : SS) : Prop := TV V s.2.2.2.1 s.2.2.2.2.1 s.2.1.2.1 s.2.1.2.2.1 s.2.1.2.2.2.1 s.1.2.1 s.2.1.1
set_option maxRecDepth 100000 in
theorem sg2_dec : ∀ v : Nat, v < 17 → nI v * 1 = Int32.ofInt (v : Int) ∧ nI v * (-1) = Int32.ofInt (-(v : Int)) := by decide
section ACT
variable {h : pb_H} {Q : Option Value → pb_H → Prop} {V c N p st lv ch le ac ts m : Nat} {T : Nat → Int} {Lv Rs : Nat → Nat} {l0 : Nat → Bool} {P : List Nat} {X : Nat → LN} {og : Nat → Nat} {F : Nat → Option Nat} {pb tb fb lt : Int32}
theorem ltz_abs {x : LN} {v : Nat} : (ltz x v).natAbs = v := by
  unfold ltz
  by_cases c : 0 < x.2 v
  · rw [if_pos c]; rfl
  · rw [if_neg c, Int.natAbs_neg]; rfl
theorem ltz_pos {x : LN} {v : Nat} (v1 : 1 ≤ v) : 0 < ltz x v ↔ 0 < x.2 v := by
  unfold ltz
  by_cases c : 0 < x.2 v
  · rw [if_pos c]; exact ⟨fun _ => c, fun _ => by omega⟩
  · rw [if_neg c]; exact ⟨fun w => by omega, fun w => absurd w c⟩
theorem mul_ltz {x : LN} {f : Nat → Int32} {pl nl : Int32} {wi v : Nat} (hF : LF V f pl nl wi x) (hV : V ≤ 16) (v1 : 1 ≤ v) (v2 : v ≤ V) (hx : x.2 v ≠ 0) : nI v * sgn pl nl v = lI (ltz x v) := by
  obtain ⟨d1, d2⟩ := sg2_dec v (by omega)
  unfold lI ltz
  rcases sgn_3 hF v1 v2 with ⟨a, b⟩ | ⟨a, b⟩ | ⟨a, b⟩
  · rw [b, if_pos a]; exact d1
  · rw [b, if_neg (by omega)]; exact d2
  · exact absurd a hx
/-- a look at LINE k changes nothing -/
theorem CW_look {h' : pb_H} {k a : Nat} {r : Nat → Int32} (hR : SRx h V c N P) (hS : SHL h V m p F X og) (hC : CT h V ts T Lv Rs tb fb lt) (k1 : 1 ≤ k) (k2 : k ≤ m) (ea : F (k - 1) = some a) (G : fr (fun b => b = a ∨ b = 3) h h') (L : LA h' V a (nI (og k)) (X k)) (e3 : h'.2 3 = ci 8 r) : AG V h F c N h' F c N ∧ SRx h' V c N P ∧ SHL h' V m p F X og ∧ CT h' V ts T Lv Rs tb fb lt ∧ h'.2 47 = h.2 47 := by
  have lk := hS.2.2.2.2.2.1 (k - 1) a (by have := hS.2.2.2.1; omega) ea
  have a83 := lk.1
  have nc := (cb_line (WB_cb hR.1).2 lk.2.2).1
  have hc := WB_c hR.1
  have m300 := hS.2.2.2.1
  refine ⟨AG_fr G (fun q w => ?_), SRx_fg hR (fg_fr G) (fun q w => by omega) ⟨r, e3⟩, SHL_look hS k1 k2 ea G L e3, CT_fr G (fun q w => by omega) hC, G.2.2 47 (by omega)⟩
  rcases w with w | w
  · exact Or.inr (Or.inr (Or.inr (Or.inr ⟨k - 1, a, by omega, ea, Or.inl w⟩)))
  · exact Or.inr (Or.inl w)
end ACT
