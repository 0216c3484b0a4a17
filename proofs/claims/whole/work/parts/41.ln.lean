/-! LINES as numbers: what the cells of a Line stand for. -/
abbrev LN : Type := Nat × (Nat → Int)
abbrev B8 : Nat := 4294967296 ^ 8
def ln_lit (v : Nat) (s : Int) : LN := (0, fun u => if u = v then s else 0)
def ln_wo (x : LN) (v : Nat) : LN := (x.1 - (x.2 v).natAbs, fun u => if u = v then 0 else x.2 u)
def ln_mt (a b : Int) : Nat := if (0 < a ∧ b < 0) ∨ (a < 0 ∧ 0 < b) then min a.natAbs b.natAbs else 0
def ln_dg (x y : LN) : Nat → Nat
  | 0 => x.1 + y.1
  | m + 1 => ln_dg x y m - ln_mt (x.2 (m + 1)) (y.2 (m + 1))
def ln_sum (V : Nat) (x y : LN) : LN := (ln_dg x y V, fun u => x.2 u + y.2 u)
def ln_fit (V : Nat) (x : LN) : Prop := x.1 < B8 ∧ ∀ v, 1 ≤ v → v ≤ V → (x.2 v).natAbs < B8
def ln_tm (x : LN) (n : Nat) : LN := (x.1 * n, fun u => x.2 u * n)
def cdv (a n : Nat) : Nat := a / n + (if a % n = 0 then 0 else 1)
def ln_dv (x : LN) (n : Nat) : LN := (cdv x.1 n, fun u => (x.2 u).sign * cdv (x.2 u).natAbs n)
def ln_cut (x : LN) : LN := (x.1, fun u => (x.2 u).sign * min (x.2 u).natAbs x.1)
def sm (g : Nat → Nat) : Nat → Nat
  | 0 => 0
  | m + 1 => sm g m + g (m + 1)
def ln_op (V : Nat) (x : LN) : LN := (1 + sm (fun v => (x.2 v).natAbs) V - x.1, fun u => - x.2 u)
/-- ASSIGNMENTS -/
abbrev AS : Type := Nat → Option Bool
def lwr (c : Int) (a : Option Bool) : Prop := (0 < c ∧ a = some false) ∨ (c < 0 ∧ a = some true)
noncomputable def ln_nf (x : LN) (A : AS) (v : Nat) : Nat := by
  classical
  exact if lwr (x.2 v) (A v) then 0 else (x.2 v).natAbs
def ln_br (V : Nat) (x : LN) (A : AS) : Prop := sm (ln_nf x A) V < x.1
def ln_fc (V : Nat) (x : LN) (A : AS) (v : Nat) : Prop := A v = none ∧ x.2 v ≠ 0 ∧ sm (ln_nf x A) V < x.1 + (x.2 v).natAbs
theorem sm_congr {f g : Nat → Nat} : ∀ {m : Nat}, (∀ v, 1 ≤ v → v ≤ m → f v = g v) → sm f m = sm g m
  | 0, _ => rfl
  | m + 1, h => by
    show sm f m + f (m + 1) = sm g m + g (m + 1)
    rw [sm_congr (fun v h1 h2 => h v h1 (by omega)), h (m + 1) (by omega) (by omega)]
theorem sm_le {f g : Nat → Nat} : ∀ {m : Nat}, (∀ v, 1 ≤ v → v ≤ m → f v ≤ g v) → sm f m ≤ sm g m
  | 0, _ => Nat.le_refl _
  | m + 1, h => by
    show sm f m + f (m + 1) ≤ sm g m + g (m + 1)
    exact Nat.add_le_add (sm_le (fun v h1 h2 => h v h1 (by omega))) (h (m + 1) (by omega) (by omega))
/-- one of them is greater by k -/
theorem sm_one {f g : Nat → Nat} {k u : Nat} : ∀ {m : Nat}, 1 ≤ u → u ≤ m → (∀ v, 1 ≤ v → v ≤ m → f v ≤ g v) → f u + k ≤ g u → sm f m + k ≤ sm g m
  | 0, h1, h2, _, _ => by omega
  | m + 1, h1, h2, h, hk => by
    show sm f m + f (m + 1) + k ≤ sm g m + g (m + 1)
    by_cases hu : u = m + 1
    · subst hu
      have := sm_le (f := f) (g := g) (m := m) (fun v h1 h2 => h v h1 (by omega))
      omega
    · have := sm_one (m := m) h1 (by omega) (fun v h1 h2 => h v h1 (by omega)) hk
      have := h (m + 1) (by omega) (by omega)
      omega
/-- words from b on are 0 -/
def hz (f : Nat → Int32) (o b : Nat) : Prop := ∀ j, b ≤ j → j < 8 → f (o + j) = 0
theorem hz_val {f : Nat → Int32} {o b : Nat} (hb : b ≤ 8) (h : hz f o b) : wv f o 8 = wv f o b := wv_cut hb h
theorem hz_lt {f : Nat → Int32} {o b : Nat} (hb : b ≤ 8) (h : hz f o b) : wv f o 8 < 4294967296 ^ b := by
  rw [hz_val hb h]
  exact wv_lt f o b
theorem hz_of {f : Nat → Int32} {o b : Nat} (hb : b ≤ 8) (h : wv f o 8 < 4294967296 ^ b) : hz f o b := by
  intro j h1 h2
  have e : wv f o 8 = wv f o b + 4294967296 ^ b * wv f (o + b) (8 - b) := by
    rw [← wv_split, show b + (8 - b) = 8 by omega]
  have hz0 : wv f (o + b) (8 - b) = 0 := by
    rcases Nat.eq_zero_or_pos (wv f (o + b) (8 - b)) with h0 | h0
    · exact h0
    · have := Nat.mul_le_mul_left (4294967296 ^ b) h0
      omega
  have := wv_zero hz0 (j - b) (by omega)
  rw [show o + b + (j - b) = o + j by omega] at this
  exact this
theorem wa_8 {f g : Nat → Int32} {i j b : Nat} (hb : b ≤ 8) (hf : hz f i b) (hg : hz g j b) : wv (wa f g i j b).1 i 8 + (wa f g i j b).2 * 4294967296 ^ b = wv f i 8 + wv g j 8 := by
  have h0 : hz (wa f g i j b).1 i b := fun k h1 h2 => by rw [wa_out f g i j b (i + k) (by omega)]; exact hf k h1 h2
  rw [hz_val hb h0, hz_val hb hf, hz_val hb hg]
  exact wa_sum f g i j b
theorem wsb_8 {f g : Nat → Int32} {i j b : Nat} (hb : b ≤ 8) (hf : hz f i b) (hg : hz g j b) : wv (wsb f g i j b).1 i 8 + wv g j 8 = wv f i 8 + (wsb f g i j b).2 * 4294967296 ^ b := by
  have h0 : hz (wsb f g i j b).1 i b := fun k h1 h2 => by rw [wsb_out f g i j b (i + k) (by omega)]; exact hf k h1 h2
  rw [hz_val hb h0, hz_val hb hf, hz_val hb hg]
  exact wsb_sum f g i j b
theorem wcp_8 {f g : Nat → Int32} {i j b : Nat} (hb : b ≤ 8) (hf : hz f i b) (hg : hz g j b) : wcp f g i j b = if wv f i 8 < wv g j 8 then -1 else if wv f i 8 = wv g j 8 then 0 else 1 := by
  rw [hz_val hb hf, hz_val hb hg]
  exact wcp_eq f g i j b
theorem B8_le {b : Nat} (hb : b ≤ 8) : 4294967296 ^ b ≤ B8 := Nat.pow_le_pow_right (by omega) hb
/-- the words and signs of a LINE -/
def LF (V : Nat) (f : Nat → Int32) (p n : Int32) (wi : Nat) (x : LN) : Prop := wi ≤ 8 ∧ wv f 0 8 = x.1 ∧ (∀ v, 1 ≤ v → v ≤ V → wv f (v * 8) 8 = (x.2 v).natAbs) ∧ (∀ v, 1 ≤ v → (bt p v = true ↔ v ≤ V ∧ 0 < x.2 v)) ∧ (∀ v, 1 ≤ v → (bt n v = true ↔ v ≤ V ∧ x.2 v < 0)) ∧ ∀ v, v ≤ V → hz f (v * 8) wi
/-- an ASSIGNMENT by which it was calm -/
def CM (V : Nat) (x : LN) (ca cf co : Int32) : Prop := ca = 0 ∨ (ca = 1 ∧ x.1 ≤ sm (fun v => if bt cf v = true then 0 else (x.2 v).natAbs) V ∧ ∀ v, 1 ≤ v → v ≤ V → bt co v = true → x.1 + (x.2 v).natAbs ≤ sm (fun v => if bt cf v = true then 0 else (x.2 v).natAbs) V)
/-- a Line object at a, its words behind it -/
def LA (h : pb_H) (V a : Nat) (so : Int32) (x : LN) : Prop := ∃ f p n wi ca cf co, h.2 a = cl (nI V) (a + 1) p n (nI wi) so ca cf co ∧ h.2 (a + 1) = ci ((V + 1) * 8) f ∧ LF V f p n wi x ∧ CM V x ca cf co
/-- a Line of whatever words -/
def LG (h : pb_H) (V a : Nat) : Prop := ∃ f p n wi so ca cf co, h.2 a = cl (nI V) (a + 1) p n wi so ca cf co ∧ h.2 (a + 1) = ci ((V + 1) * 8) f
theorem LA_LG {h : pb_H} {V a : Nat} {so : Int32} {x : LN} (hL : LA h V a so x) : LG h V a := by
  obtain ⟨f, p, n, wi, ca, cf, co, h1, h2, _⟩ := hL
  exact ⟨f, p, n, nI wi, so, ca, cf, co, h1, h2⟩
/-- nothing but S has changed -/
def fr (S : Nat → Prop) (h h' : pb_H) : Prop := h'.1 = h.1 ∧ (∀ b, pb_sz (h'.2 b) = pb_sz (h.2 b)) ∧ ∀ b, ¬ S b → h'.2 b = h.2 b
theorem fr_refl (S : Nat → Prop) (h : pb_H) : fr S h h := ⟨rfl, fun _ => rfl, fun _ _ => rfl⟩
theorem fr_trans {S : Nat → Prop} {h h' h'' : pb_H} (a : fr S h h') (b : fr S h' h'') : fr S h h'' := ⟨b.1.trans a.1, fun k => (b.2.1 k).trans (a.2.1 k), fun k hk => (b.2.2 k hk).trans (a.2.2 k hk)⟩
theorem fr_mono {S T : Nat → Prop} {h h' : pb_H} (hST : ∀ b, S b → T b) (a : fr S h h') : fr T h h' := ⟨a.1, a.2.1, fun k hk => a.2.2 k (fun q => hk (hST k q))⟩
theorem fr_set {S : Nat → Prop} {h : pb_H} {a : Nat} {c : pb_E} (hS : S a) (hc : pb_sz c = pb_sz (h.2 a)) : fr S h (pb_set h a c) := by
  refine ⟨rfl, fun b => ?_, fun b hb => ?_⟩
  · rw [pb_set_get]
    split
    · rename_i e; rw [e, hc]
    · rfl
  · rw [pb_set_get, if_neg (fun e : b = a => hb (by rw [e]; exact hS))]
theorem fr_sl {S : Nat → Prop} {h h' : pb_H} (a : fr S h h') : pb_sl h' = pb_sl h := by
  unfold pb_sl
  rw [a.1]
  exact pb_slr_congr _ (fun i _ => a.2.1 i)
/-- the cells of a Line -/
abbrev lc (a : Nat) : Nat → Prop := fun b => b = a ∨ b = a + 1
theorem LA_fr {S : Nat → Prop} {h h' : pb_H} {V a : Nat} {so : Int32} {x : LN} (F : fr S h h') (h1 : ¬ S a) (h2 : ¬ S (a + 1)) (hL : LA h V a so x) : LA h' V a so x := by
  obtain ⟨f, p, n, wi, ca, cf, co, e1, e2, r⟩ := hL
  exact ⟨f, p, n, wi, ca, cf, co, (F.2.2 a h1).trans e1, (F.2.2 _ h2).trans e2, r⟩
theorem LG_fr {S : Nat → Prop} {h h' : pb_H} {V a : Nat} (F : fr S h h') (h1 : ¬ S a) (h2 : ¬ S (a + 1)) (hL : LG h V a) : LG h' V a := by
  obtain ⟨f, p, n, wi, so, ca, cf, co, e1, e2⟩ := hL
  exact ⟨f, p, n, wi, so, ca, cf, co, (F.2.2 a h1).trans e1, (F.2.2 _ h2).trans e2⟩
/-- the form in which Line's methods leave the heap -/
theorem LA_put {h : pb_H} {V a N wi : Nat} {Vx p0 n0 wi0 so0 ca0 cf0 co0 so p n cf co : Int32} {f g : Nat → Int32} {w : Nat} {x : LN} (e1 : h.2 a = cl Vx w p0 n0 wi0 so0 ca0 cf0 co0) (e2 : h.2 (a + 1) = ci N g) (hN : N = (V + 1) * 8) (hF : LF V f p n wi x) {ca : Int32} (hc : CM V x ca cf co) :
    fr (lc a) h (pb_set (pb_set h (a + 1) (ci N f)) a (cl (nI V) (a + 1) p n (nI wi) so ca cf co)) ∧ LA (pb_set (pb_set h (a + 1) (ci N f)) a (cl (nI V) (a + 1) p n (nI wi) so ca cf co)) V a so x := by
  subst hN
  have ha : a ≠ a + 1 := by omega
  have ha' : a + 1 ≠ a := by omega
  refine ⟨fr_trans (fr_set (Or.inr rfl) (by rw [e2]; rfl)) (fr_set (Or.inl rfl) (by rw [pb_set_get, if_neg ha, e1]; rfl)), f, p, n, wi, ca, cf, co, by rw [pb_set_get, if_pos rfl], by rw [pb_set_get, if_neg ha', pb_set_get, if_pos rfl], hF, hc⟩
theorem LG_put {h : pb_H} {V a N : Nat} {Vx p0 n0 wi0 so0 ca0 cf0 co0 so p n cf co wi : Int32} {f g : Nat → Int32} {w : Nat} (e1 : h.2 a = cl Vx w p0 n0 wi0 so0 ca0 cf0 co0) (e2 : h.2 (a + 1) = ci N g) (hN : N = (V + 1) * 8) {ca : Int32} :
    fr (lc a) h (pb_set (pb_set h (a + 1) (ci N f)) a (cl (nI V) (a + 1) p n wi so ca cf co)) ∧ LG (pb_set (pb_set h (a + 1) (ci N f)) a (cl (nI V) (a + 1) p n wi so ca cf co)) V a := by
  subst hN
  have ha : a ≠ a + 1 := by omega
  have ha' : a + 1 ≠ a := by omega
  refine ⟨fr_trans (fr_set (Or.inr rfl) (by rw [e2]; rfl)) (fr_set (Or.inl rfl) (by rw [pb_set_get, if_neg ha, e1]; rfl)), f, p, n, wi, so, ca, cf, co, by rw [pb_set_get, if_pos rfl], by rw [pb_set_get, if_neg ha', pb_set_get, if_pos rfl]⟩
/-- settle: the width that it finds -/
theorem stl_hz {f : Nat → Int32} {V b : Nat} (hb : b ≤ 8) (h : ∀ v, v ≤ V → hz f (v * 8) b) : ∀ v, v ≤ V → hz f (v * 8) (stl f ((V + 1) * 8) b) := by
  intro v hv j h1 h2
  by_cases hj : b ≤ j
  · exact h v hv j hj h2
  · have := stl_zero f ((V + 1) * 8) b j v h1 (by omega) (by omega)
    rw [show v * 8 + j = j + 8 * v by omega]
    exact this
theorem bm_any {v u : Nat} (h1 : 1 ≤ v) (h2 : v ≤ 16) (h3 : 1 ≤ u) : bt (bm v) u = decide (u = v) := by
  unfold bt
  rw [bm_two v (by omega) h1, BitVec.getLsbD_twoPow]
  by_cases e : u = v
  · subst e
    simp
    omega
  · have : ¬ v - 1 = u - 1 := by omega
    simp [e, this]
theorem bt_big {x : Int32} {u : Nat} (h : 32 < u) : bt x u = false := BitVec.getLsbD_of_ge _ _ (by omega)
theorem bt_or' {x : Int32} {v u : Nat} (h1 : 1 ≤ v) (h2 : v ≤ 16) (h3 : 1 ≤ u) : bt (x ||| bm v) u = (bt x u || decide (u = v)) := by
  rw [bt_or2, bm_any h1 h2 h3]
theorem bt_not {x : Int32} {u : Nat} (h : u ≤ 32) (h1 : 1 ≤ u) : bt (x ^^^ -1) u = !bt x u := by
  unfold bt
  rw [Int32.toBitVec_xor, BitVec.getLsbD_xor]
  have : (-1 : Int32).toBitVec = BitVec.allOnes 32 := by decide
  rw [this, BitVec.getLsbD_allOnes]
  have : u - 1 < 32 := by omega
  simp [this]
theorem bt_off' {x : Int32} {v u : Nat} (h1 : 1 ≤ v) (h2 : v ≤ 16) (h3 : 1 ≤ u) : bt (x &&& (bm v ^^^ -1)) u = (bt x u && !decide (u = v)) := by
  rw [bt_and2]
  by_cases h : u ≤ 32
  · rw [bt_not h h3, bm_any h1 h2 h3]
  · rw [bt_big (x := x) (by omega)]
    simp
theorem bt_ssp {p : Int32} {v u : Nat} {sg : Int32} (h1 : 1 ≤ v) (h2 : v ≤ 16) (h3 : 1 ≤ u) : bt (ssp p v sg) u = if u = v then decide (0 < sg) else bt p u := by
  unfold ssp
  by_cases hs : sg ≤ 0
  · rw [if_pos hs, bt_off' h1 h2 h3]
    have : ¬ 0 < sg := Int32.not_lt.mpr hs
    by_cases hu : u = v <;> simp [hu, this]
  · rw [if_neg hs, bt_or' h1 h2 h3]
    have : 0 < sg := Int32.not_le.mp hs
    by_cases hu : u = v <;> simp [hu, this]
theorem bt_ssn {n : Int32} {v u : Nat} {sg : Int32} (h1 : 1 ≤ v) (h2 : v ≤ 16) (h3 : 1 ≤ u) : bt (ssn n v sg) u = if u = v then decide (sg < 0) else bt n u := by
  unfold ssn
  by_cases hs : 0 ≤ sg
  · rw [if_pos hs, bt_off' h1 h2 h3]
    have : ¬ sg < 0 := Int32.not_lt.mpr hs
    by_cases hu : u = v <;> simp [hu, this]
  · rw [if_neg hs, bt_or' h1 h2 h3]
    have : sg < 0 := Int32.not_le.mp hs
    by_cases hu : u = v <;> simp [hu, this]
