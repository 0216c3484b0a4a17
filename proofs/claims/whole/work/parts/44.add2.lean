/-! Line.add -/
theorem hl_hl {h : pb_H} {a N : Nat} {V : Int32} {f f' : Nat → Int32} {p n wi so ca cf co p' n' wi' so' ca' cf' co' : Int32} : hl (hl h a N V f p n wi so ca cf co) a N V f' p' n' wi' so' ca' cf' co' = hl h a N V f' p' n' wi' so' ca' cf' co' := by
  rw [show hl (hl h a N V f p n wi so ca cf co) a N V f' p' n' wi' so' ca' cf' co' = pb_set (pb_set (hl h a N V f p n wi so ca cf co) (a + 1) (ci N f')) a (cl V (a + 1) p' n' wi' so' ca' cf' co') from rfl, hl_sw, hl_sa]
theorem sgn_of {V p n wi v : Nat} {f : Nat → Int32} {P N : Int32} {x : LN} (hF : LF V f P N wi x) (h1 : 1 ≤ v) (h2 : v ≤ V) : (0 < x.2 v ∧ sgn P N v = 1 ∧ bt P v = true ∧ bt N v = false) ∨ (x.2 v < 0 ∧ sgn P N v = -1 ∧ bt P v = false ∧ bt N v = true) ∨ (x.2 v = 0 ∧ sgn P N v = 0 ∧ bt P v = false ∧ bt N v = false) := by
  have a1 := hF.2.2.2.1 v h1
  have a2 := hF.2.2.2.2.1 v h1
  unfold sgn
  rcases Int.lt_trichotomy (x.2 v) 0 with c | c | c
  · have b1 : ¬ bt P v = true := fun q => by have := (a1.mp q).2; omega
    have b2 : bt N v = true := a2.mpr ⟨h2, c⟩
    refine Or.inr (Or.inl ⟨c, by rw [if_neg b1, if_pos b2], by simpa using b1, b2⟩)
  · have b1 : ¬ bt P v = true := fun q => by have := (a1.mp q).2; omega
    have b2 : ¬ bt N v = true := fun q => by have := (a2.mp q).2; omega
    refine Or.inr (Or.inr ⟨c, by rw [if_neg b1, if_neg b2], by simpa using b1, by simpa using b2⟩)
  · have b1 : bt P v = true := a1.mpr ⟨h2, c⟩
    have b2 : ¬ bt N v = true := fun q => by have := (a2.mp q).2; omega
    refine Or.inl ⟨c, by rw [if_pos b1], b1, by simpa using b2⟩
/-- where add stands when m VARIABLES are done -/
def AI (V bd m : Nat) (f0 f : Nat → Int32) (p0 n0 p n : Int32) (x y : LN) (o room : Nat) : Prop := o ≤ 1 ∧ (∀ k, 8 * (m + 1) ≤ k → f k = f0 k) ∧ (∀ u, m < u → bt p u = bt p0 u ∧ bt n u = bt n0 u) ∧ wv f 0 8 + o * 4294967296 ^ bd = ln_dg x y m ∧ wv f 0 8 < 4294967296 ^ bd ∧ (room = 1 → ∀ u, 1 ≤ u → u ≤ m → wv f (u * 8) 8 = (x.2 u + y.2 u).natAbs ∧ (bt p u = true ↔ 0 < x.2 u + y.2 u) ∧ (bt n u = true ↔ x.2 u + y.2 u < 0)) ∧ (room = 1 ↔ ∀ u, 1 ≤ u → u ≤ m → (x.2 u + y.2 u).natAbs < B8) ∧ room ≤ 1
section AIS
variable {V bd m wi0 wi2 o room : Nat} {f0 f g : Nat → Int32} {p0 n0 p n p2 n2 : Int32} {x y : LN}
theorem AI_skip (hx : LF V f0 p0 n0 wi0 x) (hm : m < V) (hy : y.2 (m + 1) = 0) (hI : AI V bd m f0 f p0 n0 p n x y o room) : AI V bd (m + 1) f0 f p0 n0 p n x y o room := by
  obtain ⟨i1, i2, i3, i4, i5, i6, i7, i8⟩ := hI
  have hfx : wv f ((m + 1) * 8) 8 = (x.2 (m + 1)).natAbs := by
    rw [← hx.2.2.1 (m + 1) (by omega) (by omega)]
    exact wv_congr (fun i hi => i2 _ (by omega))
  refine ⟨i1, fun k hk => i2 k (by omega), fun u hu => i3 u (by omega), ?_, i5, ?_, ?_, i8⟩
  · show _ = ln_dg x y m - ln_mt (x.2 (m + 1)) (y.2 (m + 1))
    rw [hy, i4]
    unfold ln_mt
    rw [if_neg (by omega)]
    rfl
  · intro hr u h1 h2
    by_cases hu : u = m + 1
    · subst hu
      rw [hy, Int.add_zero]
      have := i3 (m + 1) (by omega)
      rw [this.1, this.2]
      refine ⟨hfx, ?_, ?_⟩
      · rw [hx.2.2.2.1 (m + 1) (by omega)]; exact ⟨fun q => q.2, fun q => ⟨by omega, q⟩⟩
      · rw [hx.2.2.2.2.1 (m + 1) (by omega)]; exact ⟨fun q => q.2, fun q => ⟨by omega, q⟩⟩
    · exact i6 hr u h1 (by omega)
  · rw [i7]
    refine ⟨fun q u h1 h2 => ?_, fun q u h1 h2 => q u h1 (by omega)⟩
    by_cases hu : u = m + 1
    · subst hu
      rw [hy, Int.add_zero, ← hfx]
      exact wv_lt f _ 8
    · exact q u h1 (by omega)
theorem AI_can {f' : Nat → Int32} {p' n' : Int32} {o' : Nat} (hx : LF V f0 p0 n0 wi0 x) (hy : LF V g p2 n2 wi2 y) (hm : m < V) (hI : AI V bd m f0 f p0 n0 p n x y o room) (hop : (0 < x.2 (m + 1) ∧ y.2 (m + 1) < 0) ∨ (x.2 (m + 1) < 0 ∧ 0 < y.2 (m + 1)))
    (c1 : o' ≤ o) (c8 : wv f' 0 8 < 4294967296 ^ bd) (c2 : ∀ k, 8 ≤ k → (k < (m + 1) * 8 ∨ (m + 1) * 8 + 8 ≤ k) → f' k = f k) (c3 : wv f' 0 8 + o' * 4294967296 ^ bd = wv f 0 8 + o * 4294967296 ^ bd - min (wv f ((m + 1) * 8) 8) (wv g ((m + 1) * 8) 8)) (c4 : wv f' ((m + 1) * 8) 8 = (wv f ((m + 1) * 8) 8 - wv g ((m + 1) * 8) 8) + (wv g ((m + 1) * 8) 8 - wv f ((m + 1) * 8) 8)) (c5 : ∀ u, 1 ≤ u → u ≠ m + 1 → bt p' u = bt p u ∧ bt n' u = bt n u) (c6 : bt p' (m + 1) = if wv g ((m + 1) * 8) 8 < wv f ((m + 1) * 8) 8 then bt p (m + 1) else if wv f ((m + 1) * 8) 8 = wv g ((m + 1) * 8) 8 then false else decide (0 < sgn p2 n2 (m + 1))) (c7 : bt n' (m + 1) = if wv g ((m + 1) * 8) 8 < wv f ((m + 1) * 8) 8 then bt n (m + 1) else if wv f ((m + 1) * 8) 8 = wv g ((m + 1) * 8) 8 then false else decide (sgn p2 n2 (m + 1) < 0)) : AI V bd (m + 1) f0 f' p0 n0 p' n' x y o' room := by
  obtain ⟨i1, i2, i3, i4, i5, i6, i7, i8⟩ := hI
  have hfx : wv f ((m + 1) * 8) 8 = (x.2 (m + 1)).natAbs := by
    rw [← hx.2.2.1 (m + 1) (by omega) (by omega)]
    exact wv_congr (fun i hi => i2 _ (by omega))
  have hgy : wv g ((m + 1) * 8) 8 = (y.2 (m + 1)).natAbs := hy.2.2.1 (m + 1) (by omega) (by omega)
  have gx : (x.2 (m + 1)).natAbs < B8 := by rw [← hfx]; exact wv_lt f _ 8
  have gy : (y.2 (m + 1)).natAbs < B8 := by rw [← hgy]; exact wv_lt g _ 8
  rw [hfx, hgy] at c3 c4 c6 c7
  have hbit := i3 (m + 1) (by omega)
  rw [hbit.1] at c6
  rw [hbit.2] at c7
  refine ⟨by omega, fun k hk => by rw [c2 k (by omega) (by omega)]; exact i2 k (by omega), fun u hu => by rw [(c5 u (by omega) (by omega)).1, (c5 u (by omega) (by omega)).2]; exact i3 u (by omega), ?_, ?_, ?_, ?_, i8⟩
  · show _ = ln_dg x y m - ln_mt (x.2 (m + 1)) (y.2 (m + 1))
    rw [c3, i4]
    unfold ln_mt
    rw [if_pos hop]
  · exact c8
  · intro hr u h1 h2
    by_cases hu : u = m + 1
    · subst hu
      refine ⟨by rw [c4]; omega, ?_, ?_⟩
      · rw [c6]
        rcases sgn_of (p := 0) (n := 0) hx (show 1 ≤ m + 1 by omega) (show m + 1 ≤ V by omega) with ⟨x1, x2, x3, x4⟩ | ⟨x1, x2, x3, x4⟩ | ⟨x1, x2, x3, x4⟩
        · rcases sgn_of (p := 0) (n := 0) hy (show 1 ≤ m + 1 by omega) (show m + 1 ≤ V by omega) with ⟨y1, y2, y3, y4⟩ | ⟨y1, y2, y3, y4⟩ | ⟨y1, y2, y3, y4⟩
          · omega
          · rw [x3, y2]
            by_cases g1 : (y.2 (m + 1)).natAbs < (x.2 (m + 1)).natAbs
            · simp [g1]; omega
            · by_cases g2 : (x.2 (m + 1)).natAbs = (y.2 (m + 1)).natAbs
              · simp [g1, g2]; omega
              · simp [g1, g2]; omega
          · omega
        · rcases sgn_of (p := 0) (n := 0) hy (show 1 ≤ m + 1 by omega) (show m + 1 ≤ V by omega) with ⟨y1, y2, y3, y4⟩ | ⟨y1, y2, y3, y4⟩ | ⟨y1, y2, y3, y4⟩
          · rw [x3, y2]
            by_cases g1 : (y.2 (m + 1)).natAbs < (x.2 (m + 1)).natAbs
            · simp [g1]; omega
            · by_cases g2 : (x.2 (m + 1)).natAbs = (y.2 (m + 1)).natAbs
              · simp [g1, g2]; omega
              · simp [g1, g2]; omega
          · omega
          · omega
        · omega
      · rw [c7]
        rcases sgn_of (p := 0) (n := 0) hx (show 1 ≤ m + 1 by omega) (show m + 1 ≤ V by omega) with ⟨x1, x2, x3, x4⟩ | ⟨x1, x2, x3, x4⟩ | ⟨x1, x2, x3, x4⟩
        · rcases sgn_of (p := 0) (n := 0) hy (show 1 ≤ m + 1 by omega) (show m + 1 ≤ V by omega) with ⟨y1, y2, y3, y4⟩ | ⟨y1, y2, y3, y4⟩ | ⟨y1, y2, y3, y4⟩
          · omega
          · rw [x4, y2]
            by_cases g1 : (y.2 (m + 1)).natAbs < (x.2 (m + 1)).natAbs
            · simp [g1]; omega
            · by_cases g2 : (x.2 (m + 1)).natAbs = (y.2 (m + 1)).natAbs
              · simp [g1, g2]; omega
              · simp [g1, g2]; omega
          · omega
        · rcases sgn_of (p := 0) (n := 0) hy (show 1 ≤ m + 1 by omega) (show m + 1 ≤ V by omega) with ⟨y1, y2, y3, y4⟩ | ⟨y1, y2, y3, y4⟩ | ⟨y1, y2, y3, y4⟩
          · rw [x4, y2]
            by_cases g1 : (y.2 (m + 1)).natAbs < (x.2 (m + 1)).natAbs
            · simp [g1]; omega
            · by_cases g2 : (x.2 (m + 1)).natAbs = (y.2 (m + 1)).natAbs
              · simp [g1, g2]; omega
              · simp [g1, g2]; omega
          · omega
          · omega
        · omega
    · rw [(c5 u h1 hu).1, (c5 u h1 hu).2, show wv f' (u * 8) 8 = wv f (u * 8) 8 from wv_congr (fun i hi => c2 _ (by omega) (by omega))]
      exact i6 hr u h1 (by omega)
  · rw [i7]
    refine ⟨fun q u h1 h2 => ?_, fun q u h1 h2 => q u h1 (by omega)⟩
    by_cases hu : u = m + 1
    · subst hu
      omega
    · exact q u h1 (by omega)
theorem AI_add (hx : LF V f0 p0 n0 wi0 x) (hy : LF V g p2 n2 wi2 y) (hV : V ≤ 16) (hm : m < V) (hbd : bd ≤ 8) (z1 : hz f ((m + 1) * 8) bd) (z2 : hz g ((m + 1) * 8) bd) (hfit : bd < 8 → (x.2 (m + 1)).natAbs + (y.2 (m + 1)).natAbs < 4294967296 ^ bd) (hI : AI V bd m f0 f p0 n0 p n x y o room) (hop : ¬ ((0 < x.2 (m + 1) ∧ y.2 (m + 1) < 0) ∨ (x.2 (m + 1) < 0 ∧ 0 < y.2 (m + 1)))) (hy0 : y.2 (m + 1) ≠ 0) :
    AI V bd (m + 1) f0 (wa f g ((m + 1) * 8) ((m + 1) * 8) bd).1 p0 n0 (ssp p (m + 1) (sgn p2 n2 (m + 1))) (ssn n (m + 1) (sgn p2 n2 (m + 1))) x y o (if (wa f g ((m + 1) * 8) ((m + 1) * 8) bd).2 = 0 then room else 0) := by
  obtain ⟨i1, i2, i3, i4, i5, i6, i7, i8⟩ := hI
  have hfx : wv f ((m + 1) * 8) 8 = (x.2 (m + 1)).natAbs := by
    rw [← hx.2.2.1 (m + 1) (by omega) (by omega)]
    exact wv_congr (fun i hi => i2 _ (by omega))
  have hgy : wv g ((m + 1) * 8) 8 = (y.2 (m + 1)).natAbs := hy.2.2.1 (m + 1) (by omega) (by omega)
  have hw := wa_8 hbd z1 z2
  rw [hfx, hgy] at hw
  have hab : (x.2 (m + 1) + y.2 (m + 1)).natAbs = (x.2 (m + 1)).natAbs + (y.2 (m + 1)).natAbs := by omega
  have hc1 := wa_carry f g ((m + 1) * 8) ((m + 1) * 8) bd
  have hout : ∀ k, k < (m + 1) * 8 ∨ (m + 1) * 8 + 8 ≤ k → (wa f g ((m + 1) * 8) ((m + 1) * 8) bd).1 k = f k := fun k hk => wa_out _ _ _ _ _ _ (by omega)
  have hcar : (wa f g ((m + 1) * 8) ((m + 1) * 8) bd).2 = 0 ↔ (x.2 (m + 1) + y.2 (m + 1)).natAbs < B8 := by
    rw [hab]
    have hl := wv_lt (wa f g ((m + 1) * 8) ((m + 1) * 8) bd).1 ((m + 1) * 8) 8
    constructor
    · intro e
      rw [e] at hw
      have : (x.2 (m + 1)).natAbs + (y.2 (m + 1)).natAbs = wv (wa f g ((m + 1) * 8) ((m + 1) * 8) bd).1 ((m + 1) * 8) 8 := by omega
      rw [this]
      exact hl
    · intro e
      rcases Nat.lt_or_ge (wa f g ((m + 1) * 8) ((m + 1) * 8) bd).2 1 with h0 | h0
      · omega
      · exfalso
        have e1 : (wa f g ((m + 1) * 8) ((m + 1) * 8) bd).2 = 1 := by omega
        rw [e1] at hw
        by_cases b8 : bd = 8
        · subst b8
          have e' : (x.2 (m + 1)).natAbs + (y.2 (m + 1)).natAbs < 4294967296 ^ 8 := e
          omega
        · have := hfit (by omega)
          omega
  refine ⟨i1, fun k hk => by rw [hout k (by omega)]; exact i2 k (by omega), fun u hu => by rw [bt_ssp (by omega) (by omega) (by omega), bt_ssn (by omega) (by omega) (by omega), if_neg (by omega), if_neg (by omega)]; exact i3 u (by omega), ?_, ?_, ?_, ?_, ?_⟩
  · show _ = ln_dg x y m - ln_mt (x.2 (m + 1)) (y.2 (m + 1))
    rw [show wv (wa f g ((m + 1) * 8) ((m + 1) * 8) bd).1 0 8 = wv f 0 8 from wv_congr (fun i hi => hout _ (by omega)), i4]
    unfold ln_mt
    rw [if_neg hop]
    rfl
  · rw [show wv (wa f g ((m + 1) * 8) ((m + 1) * 8) bd).1 0 8 = wv f 0 8 from wv_congr (fun i hi => hout _ (by omega))]
    exact i5
  · intro hr u h1 h2
    have hc0 : (wa f g ((m + 1) * 8) ((m + 1) * 8) bd).2 = 0 := by
      by_cases e : (wa f g ((m + 1) * 8) ((m + 1) * 8) bd).2 = 0
      · exact e
      · rw [if_neg e] at hr; omega
    rw [if_pos hc0] at hr
    rw [bt_ssp (by omega) (by omega) h1, bt_ssn (by omega) (by omega) h1]
    by_cases hu : u = m + 1
    · subst hu
      rw [if_pos rfl, if_pos rfl]
      rw [hc0] at hw
      refine ⟨by omega, ?_, ?_⟩
      · rcases sgn_of (p := 0) (n := 0) hy (show 1 ≤ m + 1 by omega) (show m + 1 ≤ V by omega) with ⟨y1, y2, y3, y4⟩ | ⟨y1, y2, y3, y4⟩ | ⟨y1, y2, y3, y4⟩
        · rw [y2]; simp; omega
        · rw [y2]; simp; omega
        · omega
      · rcases sgn_of (p := 0) (n := 0) hy (show 1 ≤ m + 1 by omega) (show m + 1 ≤ V by omega) with ⟨y1, y2, y3, y4⟩ | ⟨y1, y2, y3, y4⟩ | ⟨y1, y2, y3, y4⟩
        · rw [y2]; simp; omega
        · rw [y2]; simp; omega
        · omega
    · rw [if_neg hu, if_neg hu, show wv (wa f g ((m + 1) * 8) ((m + 1) * 8) bd).1 (u * 8) 8 = wv f (u * 8) 8 from wv_congr (fun i hi => hout _ (by omega))]
      exact i6 hr u h1 (by omega)
  · by_cases e : (wa f g ((m + 1) * 8) ((m + 1) * 8) bd).2 = 0
    · rw [if_pos e, i7]
      refine ⟨fun q u h1 h2 => ?_, fun q u h1 h2 => q u h1 (by omega)⟩
      by_cases hu : u = m + 1
      · subst hu
        exact hcar.mp e
      · exact q u h1 (by omega)
    · rw [if_neg e]
      refine ⟨fun q => by omega, fun q => absurd (hcar.mpr (q (m + 1) (by omega) (by omega))) e⟩
  · split <;> omega
end AIS
