/-! Rows of Lines; Problem.makeLine -/
def co (n : Nat) (f : Nat → Option Nat) : pb_E := .inl (2, n, .inr (.inr (.inr (.inr f))))
theorem co_get {n j : Nat} {f : Nat → Option Nat} (h : j < n) (hn : n < 2 ^ 31) : pb_aa (co n f) (nI j) = some (f j) := by
  have h1 : ¬ (nI j < 0 ∨ n ≤ (nI j).toNatClampNeg) := nI_in h hn
  have h2 : (nI j).toNatClampNeg = j := nI_clamp (by omega)
  show (if _ then _ else _) = _
  rw [if_pos ⟨rfl, h1⟩, h2]
theorem co_set {n j : Nat} {f : Nat → Option Nat} {r : Option Nat} (h : j < n) (hn : n < 2 ^ 31) : pb_sa (co n f) (nI j) r = some (co n (va_up f j r)) := by
  have h1 : ¬ (nI j < 0 ∨ n ≤ (nI j).toNatClampNeg) := nI_in h hn
  have h2 : (nI j).toNatClampNeg = j := nI_clamp (by omega)
  show (if _ then _ else _) = _
  rw [if_pos ⟨rfl, h1⟩, h2]
  rfl
theorem co_len (n : Nat) (f : Nat → Option Nat) : pb_al2 (co n f) = some n := rfl
theorem co_sz (n : Nat) (f g : Nat → Option Nat) : pb_sz (co n f) = pb_sz (co n g) := rfl
theorem up_same {f : Nat → Option Nat} {i : Nat} {r : Option Nat} : va_up f i r i = r := by unfold va_up; rw [if_pos rfl]
theorem up_ne {f : Nat → Option Nat} {i j : Nat} {r : Option Nat} (h : j ≠ i) : va_up f i r j = f j := by unfold va_up; rw [if_neg h]
/-- how many are null -/
def nul (f : Nat → Option Nat) : Nat → Nat
  | 0 => 0
  | n + 1 => nul f n + (if f n = none then 1 else 0)
theorem nul_congr {f g : Nat → Option Nat} : ∀ {N : Nat}, (∀ i, i < N → f i = g i) → nul f N = nul g N
  | 0, _ => rfl
  | N + 1, h => by
    show nul f N + (if f N = none then 1 else 0) = nul g N + (if g N = none then 1 else 0)
    rw [nul_congr (fun i hi => h i (by omega)), h N (by omega)]
theorem nul_set {f : Nat → Option Nat} {i a : Nat} (hf : f i = none) : ∀ {N : Nat}, i < N → nul (va_up f i (some a)) N + 1 = nul f N
  | 0, h => by omega
  | N + 1, h => by
    show nul (va_up f i (some a)) N + (if va_up f i (some a) N = none then 1 else 0) + 1 = nul f N + (if f N = none then 1 else 0)
    by_cases e : i = N
    · subst e
      rw [nul_congr (g := f) (fun j hj => up_ne (by omega)), up_same, hf, if_pos rfl, if_neg (by simp)]
    · rw [up_ne (fun q => e q.symm)]
      have := nul_set (a := a) hf (N := N) (by omega)
      omega
/-- a Line that may be used -/
def lok (h : pb_H) (V a : Nat) : Prop := 83 ≤ a ∧ a + 1 < h.1 ∧ LG h V a
/-- nothing but S has changed of what there was -/
def fg (S : Nat → Prop) (h h' : pb_H) : Prop := h.1 ≤ h'.1 ∧ ∀ b, b < h.1 → ¬ S b → h'.2 b = h.2 b
theorem fg_refl (S : Nat → Prop) (h : pb_H) : fg S h h := ⟨Nat.le_refl _, fun _ _ _ => rfl⟩
theorem fg_trans {S : Nat → Prop} {h h' h'' : pb_H} (a : fg S h h') (b : fg S h' h'') : fg S h h'' := ⟨Nat.le_trans a.1 b.1, fun k k1 k2 => (b.2 k (Nat.lt_of_lt_of_le k1 a.1) k2).trans (a.2 k k1 k2)⟩
theorem fg_mono {S T : Nat → Prop} {h h' : pb_H} (hST : ∀ b, b < h.1 → S b → T b) (a : fg S h h') : fg T h h' := ⟨a.1, fun k k1 k2 => a.2 k k1 (fun q => k2 (hST k k1 q))⟩
theorem fg_fr {S : Nat → Prop} {h h' : pb_H} (a : fr S h h') : fg S h h' := ⟨Nat.le_of_eq a.1.symm, fun k _ k2 => a.2.2 k k2⟩
theorem lok_fg {S : Nat → Prop} {h h' : pb_H} {V a : Nat} (F : fg S h h') (h1 : ¬ S a) (h2 : ¬ S (a + 1)) (hL : lok h V a) : lok h' V a := by
  obtain ⟨l1, l2, f, p, n, wi, so, ca, cf, co, e1, e2⟩ := hL
  exact ⟨l1, Nat.lt_of_lt_of_le l2 F.1, f, p, n, wi, so, ca, cf, co, (F.2 a (by omega) h1).trans e1, (F.2 _ l2 h2).trans e2⟩
theorem LA_fg {S : Nat → Prop} {h h' : pb_H} {V a : Nat} {so : Int32} {x : LN} (F : fg S h h') (hlt : a + 1 < h.1) (h1 : ¬ S a) (h2 : ¬ S (a + 1)) (hL : LA h V a so x) : LA h' V a so x := by
  obtain ⟨f, p, n, wi, ca, cf, co, e1, e2, r⟩ := hL
  exact ⟨f, p, n, wi, ca, cf, co, (F.2 a (by omega) h1).trans e1, (F.2 _ hlt h2).trans e2, r⟩
abbrev cpr (V m : Nat) : pb_E := .inr (5, [.ref 5, .ref 6, .int (nI V), .ref 12, .int (nI m)])
/-- cells that makeLine touches: the Line of draft m, and 11, 12 -/
abbrev dS (f : Nat → Option Nat) (m : Nat) : Nat → Prop := fun b => b = 11 ∨ b = 12 ∨ ∃ a, f m = some a ∧ lc a b
section DRF
variable {h : pb_H} {Q : Option Value → pb_H → Prop} {V c N n st m : Nat} {b : Nat → Nat} {s fs g : Nat → Int32} {rel : Int32} {t : Nat → Int} {f : Nat → Option Nat}
theorem TX_fg {S : Nat → Prop} {h' : pb_H} (F : fg S h h') (h5 : ¬ S 5) (hc : ¬ S c) (hl : 5 < h.1) (hlc : c < h.1) (hT : TX h c N n b s) : TX h' c N n b s := ⟨(F.2 5 hl h5).trans hT.1, (F.2 c hlc hc).trans hT.2.1, hT.2.2⟩
theorem CD_fg {S : Nat → Prop} {h' : pb_H} (F : fg S h h') (hS : ∀ b, b ≤ 8 → ¬ S b) (hc : ¬ S c) (hl : 8 < h.1) (hlc : c < h.1) (hC : CD h V c N n b s fs g rel) : CD h' V c N n b s fs g rel := ⟨TX_fg F (hS 5 (by omega)) hc (by omega) hlc hC.1, (F.2 6 (by omega) (hS 6 (by omega))).trans hC.2.1, (F.2 7 (by omega) (hS 7 (by omega))).trans hC.2.2.1, (F.2 8 (by omega) (hS 8 (by omega))).trans hC.2.2.2.1, hC.2.2.2.2⟩
/-- the bytes are no Line's -/
theorem c_line {a : Nat} (hC : CD h V c N n b s fs g rel) (hL : LG h V a) : c ≠ a ∧ c ≠ a + 1 := by
  obtain ⟨f, p, n, wi, so, ca, cf, co, e1, e2⟩ := hL
  have hc := hC.1.2.1
  refine ⟨fun e => ?_, fun e => ?_⟩
  · rw [e, e1] at hc; cases hc
  · rw [e, e2] at hc
    unfold cb at hc
    injection hc with hc
    injection hc with hc _
    exact absurd hc (by decide)
theorem c_ne {x : Nat} {e : pb_E} (hT : TX h c N n b s) (hx : h.2 x = e) (he : ∀ N b, cb N b ≠ e) : c ≠ x := fun q => by
  have hc := hT.2.1
  rw [q, hx] at hc
  exact he _ _ hc.symm
theorem cb_inr {N : Nat} {b : Nat → Nat} {x : Nat × List Value} : cb N b ≠ .inr x := fun e => by unfold cb at e; cases e
theorem cb_co {N n : Nat} {b : Nat → Nat} {f : Nat → Option Nat} : cb N b ≠ co n f := fun e => by
  unfold cb co at e
  injection e with e
  injection e with e _
  exact absurd e (by decide)
/-- from the draft's Line on -/
theorem L90_53 {a : Nat} {tn : Bool} (hV : V ≤ 16) (hC : CD h V c N n b s fs g rel) (h11 : h.2 11 = cpr V m) (h12 : h.2 12 = co 40 f) (hm : m < 40) (hf : f m = some a) (hL : lok h V a) (hT : ∀ u, u ≤ V → TC fs (u * 8) (t u)) (hB : Bd t 4500) (hlc : c < h.1)
    (hQ : ∀ h' so, fr (dS f m) h h' → CD h' V c N n b s fs g rel → h'.2 11 = cpr V (m + 1) → h'.2 12 = co 40 f → LA h' V a so (ln_of V (fun u => if tn = true then - t u else t u)) → Q (some (.int 1)) h') : pb_R 90 53 [some (.ref 11), some (.int (if tn = true then 1 else 0))] [] [] h Q := by
  have hc11 : c ≠ 11 := c_ne hC.1 h11 (fun _ _ => cb_inr)
  have hc8 := hC.2.2.2.2
  have hg := co_get (f := f) (n := 40) (j := m) hm (by omega)
  rw [hf] at hg
  have hLG := hL.2.2
  obtain ⟨fl, pl, nl, wl, sl, cal, cfl, col, e1, e2⟩ := hLG
  obtain ⟨c1, c2⟩ := c_line hC hL.2.2
  have hrf : va_rf (some a) = .ref a := rfl
  simp only [pb_e90, h11, pb_g5, pb_o_some, true_and, h12, hg, hrf, hC.2.1, pb_g2, e1, pb_g4]
  refine L81 (tn := tn) hV hL.2.2 hC.2.2.2.1 (by have := hL.1; omega) hT (fun u _ => Bd_64 hB (by omega) u) ?_
  intro h2 so2 F2 L2
  have l83 := hL.1
  have k11 : h2.2 11 = cpr V m := (F2.2.2 11 (by omega)).trans h11
  have k12 : h2.2 12 = co 40 f := (F2.2.2 12 (by omega)).trans h12
  have F3 : fr (dS f m) h h2 := fr_mono (fun b q => Or.inr (Or.inr ⟨a, hf, q⟩)) F2
  have F4 : fr (dS f m) h2 (pb_set h2 11 (cpr V (m + 1))) := fr_set (Or.inl rfl) (by rw [k11]; rfl)
  have hCD2 : CD h2 V c N n b s fs g rel := CD_fg (fg_fr F2) (fun b q => by omega) (by omega) (by omega) hlc hC
  have hCD3 : CD (pb_set h2 11 (cpr V (m + 1))) V c N n b s fs g rel := CD_fg (S := fun b => b = 11) (fg_fr (fr_set rfl (by rw [k11]; rfl))) (fun b q => by omega) (by omega) (by rw [F2.1]; omega) (by rw [F2.1]; exact hlc) hCD2
  have hL3 : LA (pb_set h2 11 (cpr V (m + 1))) V a so2 (ln_of V (fun u => if tn = true then - t u else t u)) := LA_fr (S := fun b => b = 11) (fr_set rfl (by rw [k11]; rfl)) (by omega) (by omega) L2
  simp only [Option.toList_none, List.nil_append, pb_e90, k11, pb_g5, pb_o_some, true_and, nI_1, nb1]
  exact hQ _ so2 (fr_trans F3 F4) hCD3 (by rw [pb_set_get, if_pos rfl]) (by rw [pb_set_get, if_neg (by omega), k12]) hL3
/-- Problem.makeLine -/
theorem L90 {tn : Bool} (hV : V ≤ 16) (hC : CD h V c N n b s fs g rel) (h11 : h.2 11 = cpr V m) (h12 : h.2 12 = co 40 f) (hm : m ≤ 40) (hok : ∀ a, m < 40 → f m = some a → lok h V a) (hT : ∀ u, u ≤ V → TC fs (u * 8) (t u)) (hB : Bd t 4500) (hlc : c < h.1) (h83 : 83 ≤ h.1)
    (hQ1 : ∀ h' f' a so, m < 40 → fg (dS f m) h h' → CD h' V c N n b s fs g rel → h'.2 11 = cpr V (m + 1) → h'.2 12 = co 40 f' → (∀ i, i ≠ m → f' i = f i) → f' m = some a → (f m = some a ∨ (f m = none ∧ a = h.1)) → lok h' V a → LA h' V a so (ln_of V (fun u => if tn = true then - t u else t u)) → h'.1 + 2 * nul f' 40 = h.1 + 2 * nul f 40 → pb_sl h' + (9 + (V + 1) * 8) * nul f' 40 = pb_sl h + (9 + (V + 1) * 8) * nul f 40 → Q (some (.int 1)) h')
    (hQ0 : ∀ h' s', m = 40 → fr (fun b => b = 5) h h' → CD h' V c N n b s' fs g rel → s' = upd (upd s 7 5) 8 (s 3) → Q (some (.int 0)) h') : pb_call 90 [.ref 11, .int (if tn = true then 1 else 0)] h Q := by
  have hc11 : c ≠ 11 := c_ne hC.1 h11 (fun _ _ => cb_inr)
  have hc12 : c ≠ 12 := c_ne hC.1 h12 (fun _ _ => cb_co)
  have k40 := nI_ltI (a := m) (b := 40) (by omega) (by omega)
  have e40 : Int32.ofNat 40 = nI 40 := rfl
  rw [pb_c90]
  by_cases c40 : m < 40
  · have hg := co_get (f := f) (n := 40) (j := m) c40 (by omega)
    cases hf : f m with
    | some a =>
      have hL := hok a c40 hf
      rw [hf] at hg
      have hrf : va_rf (some a) = .ref a := rfl
      have s1 : pb_R 90 0 [some (.ref 11), some (.int (if tn = true then 1 else 0))] [] [] h Q ↔ pb_R 90 53 [some (.ref 11), some (.int (if tn = true then 1 else 0))] [] [] h Q := by
        simp only [pb_e90, h11, pb_g5, pb_o_some, true_and, h12, co_len, e40, k40, c40, if_true, hg, hrf]
      rw [s1]
      refine L90_53 hV hC h11 h12 c40 hf hL hT hB hlc ?_
      intro h2 so F2 C2 k11 k12 L2
      have lk : lok h2 V a := ⟨hL.1, by rw [F2.1]; exact hL.2.1, LA_LG L2⟩
      exact hQ1 h2 f a so c40 (fg_fr F2) C2 k11 k12 (fun _ _ => rfl) hf (Or.inl hf) lk L2 (by rw [F2.1]) (by rw [fr_sl F2])
    | none =>
      rw [hf] at hg
      have hrn : va_rf none = .null := rfl
      simp only [pb_e90, h11, pb_g5, pb_o_some, true_and, h12, co_len, e40, k40, c40, if_true, hg, hrn, pb_new_get, show ¬ (11 : Nat) = h.1 by omega, if_false]
      refine L13 (a := h.1) hV (by rw [pb_new_get, if_pos rfl]) rfl ?_
      intro h1 e1 e2 e3 L1
      have r : ∀ q, q < h.1 → h1.2 q = h.2 q := fun q hq => by rw [e3 q (by omega) (by omega), pb_new_get, if_neg (by omega)]
      have k12 : h1.2 12 = co 40 f := by rw [r 12 (by omega), h12]
      have hs := co_set (f := f) (n := 40) (j := m) (r := some h.1) c40 (by omega)
      have his : ∀ v, some h.1 = some v → pb_is0 (h1.2 v) 4 = true := fun v hv => by
        injection hv with hv
        subst hv
        obtain ⟨_, _, _, _, _, _, _, q1, _⟩ := L1
        rw [q1]; rfl
      have hn1 : h1.1 = h.1 + 2 := e1
      have F1 : fg (dS f m) h h1 := ⟨by omega, fun q q1 _ => r q q1⟩
      have F2 : fr (fun b => b = 12) h1 (pb_set h1 12 (co 40 (va_up f m (some h.1)))) := fr_set rfl (by rw [k12]; rfl)
      have F2' : fg (dS f m) h (pb_set h1 12 (co 40 (va_up f m (some h.1)))) := fg_trans F1 (fg_mono (fun b _ q => Or.inr (Or.inl q)) (fg_fr F2))
      have C1 : CD (pb_set h1 12 (co 40 (va_up f m (some h.1)))) V c N n b s fs g rel := CD_fg F2' (fun b q => by
        rintro (w | w | ⟨a, w, _⟩)
        · omega
        · omega
        · rw [hf] at w; cases w) (by
        rintro (w | w | ⟨a, w, _⟩)
        · omega
        · omega
        · rw [hf] at w; cases w) (by omega) hlc hC
      have j11 : (pb_set h1 12 (co 40 (va_up f m (some h.1)))).2 11 = cpr V m := by rw [pb_set_get, if_neg (by omega), r 11 (by omega), h11]
      have j12 : (pb_set h1 12 (co 40 (va_up f m (some h.1)))).2 12 = co 40 (va_up f m (some h.1)) := by rw [pb_set_get, if_pos rfl]
      have lk : lok (pb_set h1 12 (co 40 (va_up f m (some h.1)))) V h.1 := ⟨h83, by show h.1 + 1 < h1.1; omega, LG_fr F2 (by omega) (by omega) (LA_LG L1)⟩
      suffices key : pb_R 90 53 [some (.ref 11), some (.int (if tn = true then 1 else 0))] [] [] (pb_set h1 12 (co 40 (va_up f m (some h.1)))) Q by
        simp only [pb_e90, j11, pb_g5, pb_o_some, true_and, j12] at key
        simp only [Option.toList_none, List.nil_append, pb_e90, his, k12, hs, pb_o_some, true_and, j11, pb_g5, j12, forall_const, implies_true]
        exact ⟨his, key⟩
      refine L90_53 hV C1 j11 j12 c40 up_same lk hT hB (by show c < h1.1; omega) ?_
      intro h3 so F3 C3 l11 l12 L3
      have hF3 : fg (dS f m) h h3 := by
        refine ⟨by rw [F3.1]; show h.1 ≤ h1.1; omega, fun q q1 q2 => ?_⟩
        rw [F3.2.2 q (by
          rintro (w | w | ⟨a, w, w2⟩)
          · exact q2 (Or.inl w)
          · exact q2 (Or.inr (Or.inl w))
          · rw [up_same] at w
            injection w with w
            subst w
            omega)]
        exact F2'.2 q q1 q2
      have hnl := nul_set (f := f) (i := m) (a := h.1) hf (N := 40) c40
      have hsl : pb_sl h3 = pb_sl h + 9 + (V + 1) * 8 := by
        rw [fr_sl F3, fr_sl F2, e2, pb_sl_new]
        rfl
      refine hQ1 h3 (va_up f m (some h.1)) h.1 so c40 hF3 C3 l11 l12 (fun i hi => up_ne hi) up_same (Or.inr ⟨hf, rfl⟩) ⟨h83, by rw [F3.1]; show h.1 + 1 < h1.1; omega, LA_LG L3⟩ L3 ?_ ?_
      · rw [F3.1]
        show h1.1 + _ = _
        omega
      · rw [hsl, ← hnl, Nat.mul_add]
        omega
  · obtain rfl : m = 40 := by omega
    have h29 := fun Q : Option Value → pb_H → Prop => m29 (Q := Q) (f := 5) hC.1.1
    obtain ⟨C2, _⟩ := CD_s hC (s' := upd (upd s 7 5) 8 (s 3)) (by rw [upd_ne _ _ (by omega), upd_ne _ _ (by omega)])
    have k : ¬ nI 40 < nI 40 := nI_nlt (Nat.le_refl _) (by omega)
    simp only [pb_e90, h11, pb_g5, pb_o_some, true_and, h12, co_len, e40, k, if_false, hC.1.1, pb_gx, h29, Option.toList_some, List.singleton_append, nb0]
    exact hQ0 _ _ rfl (fr_set rfl (by rw [hC.1.1]; rfl)) C2 rfl
end DRF
