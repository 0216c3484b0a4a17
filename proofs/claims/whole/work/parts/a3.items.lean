/-! What the ITEMS of a p say; where the Checker stands -/
noncomputable def fitb (V : Nat) (x : LN) : Bool := @decide (ln_fit V x) (Classical.propDecidable _)
theorem fitb_1 {V : Nat} {x : LN} (h : ln_fit V x) : fitb V x = true := @decide_eq_true _ (Classical.propDecidable _) h
theorem fitb_0 {V : Nat} {x : LN} (h : ¬ ln_fit V x) : ¬ fitb V x = true := fun w => h (@of_decide_eq_true _ (Classical.propDecidable _) w)
abbrev IT : Type := Nat × Nat × (Nat → LN)
/-- a NUMBER at st -/
noncomputable def iNum (b : Nat → Nat) (n V m : Nat) (X : Nat → LN) (st hg : Nat) (S : Nat → LN) : Sum FL IT :=
  if tkk b n (nxt b n st) = 42 ∨ tkk b n (nxt b n st) = 100 then
    if tkn b n st = 0 then .inl (3, st)
    else if hg = 0 then .inl (4, nxt b n st)
    else if tkk b n (nxt b n st) = 100 then .inr (nxt b n (nxt b n st), hg, lput S (hg - 1) (ln_dv (S (hg - 1)) (tkn b n st)))
    else if fitb V (ln_tm (S (hg - 1)) (tkn b n st)) = true then .inr (nxt b n (nxt b n st), hg, lput S (hg - 1) (ln_tm (S (hg - 1)) (tkn b n st)))
    else .inl (5, nxt b n st)
  else if 1 ≤ tkn b n st ∧ tkn b n st ≤ m then (if hg < 12 then .inr (nxt b n st, hg + 1, lput S hg (X (tkn b n st))) else .inl (4, st)) else .inl (2, st)
/-- a LITERAL at st -/
def iLet (b : Nat → Nat) (n V st hg : Nat) (S : Nat → LN) : Sum FL IT :=
  if 1 ≤ tkw b n st ∧ tkw b n st ≤ V then
    if tkk b n (nxt b n st) = 119 then (if hg = 0 then .inl (4, nxt b n st) else .inr (nxt b n (nxt b n st), hg, lput S (hg - 1) (ln_wo (S (hg - 1)) (tkw b n st))))
    else if hg < 12 then .inr (nxt b n st, hg + 1, lput S hg (ln_lit (tkw b n st) (if b st = 120 then 1 else -1))) else .inl (4, st)
  else .inl (2, st)
/-- + or s, or what can't stand there -/
noncomputable def iSgn (b : Nat → Nat) (n V st hg : Nat) (S : Nat → LN) : Sum FL IT :=
  if tkk b n st = 43 then
    if hg < 2 then .inl (4, st)
    else if fitb V (ln_sum V (S (hg - 2)) (S (hg - 1))) = true then .inr (nxt b n st, hg - 1, lput S (hg - 2) (ln_sum V (S (hg - 2)) (S (hg - 1)))) else .inl (5, st)
  else if tkk b n st = 115 then (if hg = 0 then .inl (4, st) else .inr (nxt b n st, hg, lput S (hg - 1) (ln_cut (S (hg - 1)))))
  else .inl (1, st)
noncomputable def iOne (b : Nat → Nat) (n V m : Nat) (X : Nat → LN) (st hg : Nat) (S : Nat → LN) : Sum FL IT :=
  if tkk b n st = 48 then iNum b n V m X st hg S else if tkk b n st = 120 then iLet b n V st hg S else iSgn b n V st hg S
/-- the ITEMS up to the ; -/
noncomputable def iAll (b : Nat → Nat) (n V m : Nat) (X : Nat → LN) : Nat → Nat → Nat → (Nat → LN) → Sum FL IT
  | 0, st, hg, S => .inr (st, hg, S)
  | f + 1, st, hg, S => if tkk b n st = 59 then .inr (st, hg, S) else match iOne b n V m X st hg S with
    | .inl e => .inl e
    | .inr r => iAll b n V m X f r.1 r.2.1 r.2.2
abbrev cck (hg : Nat) : pb_E := .inr (1, [.ref 5, .ref 6, .ref 2, .ref 14, .ref 21, .ref 15, .ref 19, .ref 20, .int (nI hg)])
/-- what the Checker has of its own -/
def CKs (h : pb_H) (V : Nat) : Prop := (∃ f, h.2 14 = co 12 f ∧ ∀ i, i < 12 → f i = some (23 + 2 * i)) ∧ DG h 15 ∧ (∃ g, h.2 19 = ci 8 g) ∧ (∃ q, h.2 20 = ci 16 q) ∧ LG h V 21 ∧ ∀ i, i < 12 → LG h V (23 + 2 * i)
/-- the Shelf and its LINES -/
def SHL (h : pb_H) (V m p : Nat) (F : Nat → Option Nat) (X : Nat → LN) (og : Nat → Nat) : Prop := h.2 2 = csh V m p (nfl V X m) ∧ (∃ r, h.2 3 = ci 8 r) ∧ h.2 4 = co 300 F ∧ m ≤ 300 ∧ SL h V m F X og ∧ (∀ i a, i < 300 → F i = some a → lok h V a) ∧ (∀ i j a, i < 300 → j < 300 → F i = some a → F j = some a → i = j)
def KB (h : pb_H) (V c N n : Nat) (b : Nat → Nat) (s : Nat → Int32) (m p : Nat) (F : Nat → Option Nat) (X : Nat → LN) (og : Nat → Nat) : Prop := (∃ fs g rel, CD h V c N n b s fs g rel) ∧ (c = 10 ∨ 83 ≤ c) ∧ CKs h V ∧ SHL h V m p F X og
/-- the STACK's LINES -/
def ST (h : pb_H) (V hg : Nat) (S : Nat → LN) : Prop := ∀ i, i < hg → ∃ so, LA h V (23 + 2 * i) so (S i)
section KBS
variable {h h' : pb_H} {V c N n m p hg : Nat} {b : Nat → Nat} {s s' : Nat → Int32} {F : Nat → Option Nat} {X S : Nat → LN} {og : Nat → Nat}
theorem SHL_fr {T : Nat → Prop} (G : fr T h h') (hT : ∀ b, T b → 5 ≤ b ∧ b < 83) (hS : SHL h V m p F X og) : SHL h' V m p F X og := by
  obtain ⟨a1, ⟨r, a2⟩, a3, a4, a5, a6, a7⟩ := hS
  have q : ∀ x, (x < 5 ∨ 83 ≤ x) → ¬ T x := fun x hx w => by have := hT x w; omega
  refine ⟨(G.2.2 2 (q _ (by omega))).trans a1, ⟨r, (G.2.2 3 (q _ (by omega))).trans a2⟩, (G.2.2 4 (q _ (by omega))).trans a3, a4, fun k k1 k2 => ?_, fun i a i1 i2 => ?_, a7⟩
  · obtain ⟨a, e1, e2⟩ := a5 k k1 k2
    have := (a6 (k - 1) a (by omega) e1).1
    exact ⟨a, e1, LA_fr G (q _ (by omega)) (q _ (by omega)) e2⟩
  · have l := a6 i a i1 i2
    have := l.1
    exact lok_fg (fg_fr G) (q _ (by omega)) (q _ (by omega)) l
theorem CKs_fr {T : Nat → Prop} (G : fr T h h') (hT : ∀ b, T b → b < 14 ∨ 47 ≤ b) (hC : CKs h V) : CKs h' V := by
  obtain ⟨⟨f, a1, a2⟩, a3, ⟨g, a4⟩, ⟨q, a5⟩, a6, a7⟩ := hC
  have k : ∀ x, 14 ≤ x → x < 47 → ¬ T x := fun x x1 x2 w => by have := hT x w; omega
  refine ⟨⟨f, (G.2.2 14 (k _ (by omega) (by omega))).trans a1, a2⟩, DG_fr G (fun x hx => k x (by omega) (by omega)) a3, ⟨g, (G.2.2 19 (k _ (by omega) (by omega))).trans a4⟩, ⟨q, (G.2.2 20 (k _ (by omega) (by omega))).trans a5⟩, LG_fr G (k _ (by omega) (by omega)) (k _ (by omega) (by omega)) a6, fun i hi => LG_fr G (k _ (by omega) (by omega)) (k _ (by omega) (by omega)) (a7 i hi)⟩
theorem ST_fr {T : Nat → Prop} (G : fr T h h') (hg12 : hg ≤ 12) (hT : ∀ b, T b → b < 23 ∨ 47 ≤ b) (hS : ST h V hg S) : ST h' V hg S := fun i hi => by
  obtain ⟨so, e⟩ := hS i hi
  exact ⟨so, LA_fr G (fun w => by have := hT _ w; omega) (fun w => by have := hT _ w; omega) e⟩
theorem KB_5 (K : KB h V c N n b s m p F X og) : h.2 5 = cx (.ref c) s := by
  obtain ⟨⟨fs, g, rel, C⟩, _⟩ := K
  exact C.1.1
theorem KB_TX (K : KB h V c N n b s m p F X og) : TX h c N n b s := by
  obtain ⟨⟨fs, g, rel, C⟩, _⟩ := K
  exact C.1
theorem fr_5 {x : pb_E} (K : KB h V c N n b s m p F X og) (hx : pb_sz x = pb_sz (cx (.ref c) s)) : fr (fun b => b = 5) h (pb_set h 5 x) := fr_set rfl (by rw [KB_5 K]; exact hx)
/-- the reader moves -/
theorem KB_s (K : KB h V c N n b s m p F X og) (h1 : s' 1 = s 1) : KB (pb_set h 5 (cx (.ref c) s')) V c N n b s' m p F X og := by
  have G : fr (fun b => b = 5) h (pb_set h 5 (cx (.ref c) s')) := fr_5 K rfl
  obtain ⟨⟨fs, g, rel, C⟩, k2, k3, k4⟩ := K
  exact ⟨⟨fs, g, rel, (CD_s C h1).1⟩, k2, CKs_fr G (fun b w => by omega) k3, SHL_fr G (fun b w => by omega) k4⟩
theorem KB_fr {T : Nat → Prop} (G : fr T h h') (hT : ∀ b, T b → 13 ≤ b ∧ b < 47) (hC : CKs h' V) (K : KB h V c N n b s m p F X og) : KB h' V c N n b s m p F X og := by
  obtain ⟨⟨fs, g, rel, C⟩, k2, k3, k4⟩ := K
  have q : ∀ x, (x < 13 ∨ 47 ≤ x) → ¬ T x := fun x hx w => by have := hT x w; omega
  refine ⟨⟨fs, g, rel, ⟨(G.2.2 5 (q _ (by omega))).trans C.1.1, (G.2.2 c (q _ (by omega))).trans C.1.2.1, C.1.2.2⟩, (G.2.2 6 (q _ (by omega))).trans C.2.1, (G.2.2 7 (q _ (by omega))).trans C.2.2.1, (G.2.2 8 (q _ (by omega))).trans C.2.2.2.1, C.2.2.2.2⟩, k2, hC, SHL_fr G (fun b w => by have := hT b w; omega) k4⟩
/-- the LINE at j of the STACK changes, and what is worked in -/
theorem CKs_top {T : Nat → Prop} {j : Nat} (hj : j < 12) (G : fr T h h') (hT : ∀ b, T b → lc (23 + 2 * j) b ∨ (15 ≤ b ∧ b ≤ 20) ∨ b = 13) (d : DG h' 15) (e19 : ∃ g, h'.2 19 = ci 8 g) (e20 : ∃ q, h'.2 20 = ci 16 q) (L : LG h' V (23 + 2 * j)) (hC : CKs h V) : CKs h' V := by
  obtain ⟨⟨f, a1, a2⟩, a3, _, _, a6, a7⟩ := hC
  refine ⟨⟨f, (G.2.2 14 (fun w => by have := hT _ w; omega)).trans a1, a2⟩, d, e19, e20, LG_fr G (fun w => by have := hT _ w; omega) (fun w => by have := hT _ w; omega) a6, fun i hi => ?_⟩
  by_cases e : i = j
  · subst e; exact L
  · exact LG_fr G (fun w => by have := hT _ w; omega) (fun w => by have := hT _ w; omega) (a7 i hi)
theorem ST_top {T : Nat → Prop} {j : Nat} {x : LN} {so : Int32} (hj : j ≤ hg) (G : fr T h h') (hT : ∀ b, T b → lc (23 + 2 * j) b ∨ (15 ≤ b ∧ b ≤ 20) ∨ b = 13) (L : LA h' V (23 + 2 * j) so x) (hS : ST h V hg S) : ST h' V (j + 1) (lput S j x) := fun i hi => by
  unfold lput
  by_cases e : i = j
  · subst e
    rw [if_pos rfl]
    exact ⟨so, L⟩
  · rw [if_neg e]
    obtain ⟨so', e'⟩ := hS i (by omega)
    exact ⟨so', LA_fr G (fun w => by have := hT _ w; omega) (fun w => by have := hT _ w; omega) e'⟩
theorem lneg_wu (x : Int32) : x < 0 ↔ 2147483648 ≤ wu x := by
  constructor
  · intro h
    by_cases c : wu x < 2147483648
    · have := nI_pos (n := wu x) (by omega)
      rw [nI_wu] at this
      exact absurd h this
    · omega
  · intro h
    by_cases c : x < 0
    · exact c
    · obtain ⟨j, j1, j2⟩ := nI_of c
      rw [j2, wu_nI] at h
      omega
/-- the value by Wide.small -/
theorem small_val {f : Nat → Int32} : (wv f 0 8 < 2147483648 → (if 1 < wd f 0 8 ∨ f 0 < 0 then -1 else f 0) = nI (wv f 0 8)) ∧ (¬ wv f 0 8 < 2147483648 → (if 1 < wd f 0 8 ∨ f 0 < 0 then -1 else f 0) = (-1 : Int32)) := by
  have hs := wv_split f 0 1 7
  rw [wv_one] at hs
  have hlt := wu_lt (f 0)
  have hs' : wv f 0 8 = wu (f 0) + 4294967296 ^ 1 * wv f (0 + 1) 7 := hs
  rw [Nat.pow_one] at hs'
  refine ⟨fun h => ?_, fun h => ?_⟩
  · have z : wv f (0 + 1) 7 = 0 := by omega
    have zz := wv_zero z
    have w1 : ¬ 1 < wd f 0 8 := fun w => by
      have h1 := wd_ne (f := f) (o := 0) 8 (by omega)
      have h2 := wd_le f 0 8
      apply h1
      have := zz (wd f 0 8 - 2) (by omega)
      rw [show 0 + 1 + (wd f 0 8 - 2) = 0 + (wd f 0 8 - 1) by omega] at this
      exact this
    have w2 : ¬ f 0 < 0 := fun w => by
      have := (lneg_wu _).mp w
      omega
    rw [if_neg (by
      rintro (w | w)
      · exact w1 w
      · exact w2 w), show wv f 0 8 = wu (f 0) by omega, nI_wu]
  · by_cases c : 1 < wd f 0 8 ∨ f 0 < 0
    · rw [if_pos c]
    · exfalso
      have c1 : ¬ 1 < wd f 0 8 := fun w => c (Or.inl w)
      have c2 : ¬ 2147483648 ≤ wu (f 0) := fun w => c (Or.inr ((lneg_wu _).mpr w))
      have z : wv f (0 + 1) 7 = 0 := wv_of_zero (fun i hi => by
        have := wd_top f 0 8 (i + 1) (by omega) (by omega)
        rw [show 0 + 1 + i = 0 + (i + 1) by omega]
        exact this)
      omega
end KBS
