/-! A step that touches the cells. -/
def pb_Cx (p : Program) (R : Room) (s : State) (m : MethodId) (args : Array Value) (meth : Method) (c : Code) (D : va_G) (dA : Nat → ClassId) (scr : Cell) (Ls : Nat) (xs : Nat → Int32) (base b : Nat) (k : Nat) : Prop :=
  p.tables.exec = Jvm.exec ∧ c.code = pb_c k ∧ c.maxLocals = pb_ml k ∧ s.vm.findClass (pb_y k).cls = some m.cls ∧ (∀ w ∈ pb_W, w.before args s = true) ∧ pb_KK D dA scr Ls xs s ∧ ((pb_y k).name = "<init>" → meth.name = "<init>") ∧ (pb_nd k).1 ≤ R.frames ∧ (pb_nd k).2 ≤ R.locals ∧ b < base
theorem pb_gf_inv {c : pb_E} {ci k : Nat} {v : Value} (h : pb_gf c ci k = some v) : ∃ fs, c = .inr (ci, fs) ∧ fs[k]? = some v := by
  unfold pb_gf at h
  split at h
  · rename_i cj fs
    split at h
    · rename_i e; subst e; exact ⟨fs, rfl, h⟩
    · cases h
  · cases h
theorem pb_pf_inv {c c' : pb_E} {ci k : Nat} {v : Value} (h : pb_pf c ci k v = some c') : ∃ fs, c = .inr (ci, fs) ∧ c' = .inr (ci, fs.set k v) ∧ k < fs.length ∧ narrow (pb_ty ci k) v = v ∧ fits (pb_ty ci k) v = true := by
  unfold pb_pf at h
  split at h
  · rename_i cj fs
    split at h
    · rename_i e
      obtain ⟨rfl, e2, e3, e4⟩ := e
      cases h
      exact ⟨fs, rfl, rfl, e2, e3, e4⟩
    · cases h
  · cases h
theorem pb_ai_inv {c : pb_E} {i x : Int32} (h : pb_ai c i = some x) : ∃ k n f, c = .inl (k, n, .inl f) ∧ (k = 0 ∨ k = 3) ∧ ¬ (i < 0 ∨ n ≤ i.toNatClampNeg) ∧ x = f i.toNatClampNeg := by
  unfold pb_ai at h
  split at h
  · rename_i k n f
    split at h
    · rename_i e; cases h; exact ⟨k, n, f, rfl, e.1, e.2, rfl⟩
    · cases h
  · cases h
theorem pb_ab_inv {c : pb_E} {i x : Int32} (h : pb_ab c i = some x) : ∃ n f, c = .inl (1, n, .inl f) ∧ ¬ (i < 0 ∨ n ≤ i.toNatClampNeg) ∧ x = f i.toNatClampNeg := by
  unfold pb_ab at h
  split at h
  · rename_i k n f
    split at h
    · rename_i e; cases h; obtain ⟨rfl, e2⟩ := e; exact ⟨n, f, rfl, e2, rfl⟩
    · cases h
  · cases h
theorem pb_aa_inv {c : pb_E} {i : Int32} {x : Option Nat} (h : pb_aa c i = some x) : ∃ n f, c = .inl (2, n, .inr (.inr (.inr (.inr f)))) ∧ ¬ (i < 0 ∨ n ≤ i.toNatClampNeg) ∧ x = f i.toNatClampNeg := by
  unfold pb_aa at h
  split at h
  · rename_i k n f
    split at h
    · rename_i e; cases h; obtain ⟨rfl, e2⟩ := e; exact ⟨n, f, rfl, e2, rfl⟩
    · cases h
  · cases h
theorem pb_si_inv {c c' : pb_E} {i x : Int32} (h : pb_si c i x = some c') : ∃ n f, c = .inl (0, n, .inl f) ∧ ¬ (i < 0 ∨ n ≤ i.toNatClampNeg) ∧ c' = .inl (0, n, .inl (upd f i.toNatClampNeg x)) := by
  unfold pb_si at h
  split at h
  · rename_i k n f
    split at h
    · rename_i e; cases h; obtain ⟨rfl, e2⟩ := e; exact ⟨n, f, rfl, e2, rfl⟩
    · cases h
  · cases h
theorem pb_sb_inv {c c' : pb_E} {i x : Int32} (h : pb_sb c i x = some c') : ∃ n f, c = .inl (1, n, .inl f) ∧ ¬ (i < 0 ∨ n ≤ i.toNatClampNeg) ∧ c' = .inl (1, n, .inl (upd f i.toNatClampNeg (vp_nar .byte x))) := by
  unfold pb_sb at h
  split at h
  · rename_i k n f
    split at h
    · rename_i e; cases h; obtain ⟨rfl, e2⟩ := e; exact ⟨n, f, rfl, e2, rfl⟩
    · cases h
  · cases h
theorem pb_sa_inv {c c' : pb_E} {i : Int32} {r : Option Nat} (h : pb_sa c i r = some c') : ∃ n f, c = .inl (2, n, .inr (.inr (.inr (.inr f)))) ∧ ¬ (i < 0 ∨ n ≤ i.toNatClampNeg) ∧ c' = .inl (2, n, .inr (.inr (.inr (.inr (va_up f i.toNatClampNeg r))))) := by
  unfold pb_sa at h
  split at h
  · rename_i k n f
    split at h
    · rename_i e; cases h; obtain ⟨rfl, e2⟩ := e; exact ⟨n, f, rfl, e2, rfl⟩
    · cases h
  · cases h
theorem pb_cp_inv {c0 c1 c' : pb_E} {sp dp n : Int32} (h : pb_cp c0 c1 sp dp n = some c') : ∃ k n0 n1 f g, c0 = .inl (k, n0, .inl f) ∧ c1 = .inl (k, n1, .inl g) ∧ k ≤ 1 ∧ ¬ sp < 0 ∧ ¬ dp < 0 ∧ ¬ n < 0 ∧ sp.toNatClampNeg + n.toNatClampNeg ≤ n0 ∧ dp.toNatClampNeg + n.toNatClampNeg ≤ n1 ∧ (k = 0 ∨ ∀ i, i < n.toNatClampNeg → fits .byte (.int (f (sp.toNatClampNeg + i))) = true) ∧ c' = .inl (k, n1, .inl (va_cpy f g sp.toNatClampNeg dp.toNatClampNeg n.toNatClampNeg)) := by
  unfold pb_cp at h
  split at h
  · rename_i k0 n0 f k1 n1 g
    split at h
    · rename_i e
      obtain ⟨rfl, e1, e2, e3, e4, e5, e6, e7⟩ := e
      cases h
      exact ⟨k0, n0, n1, f, g, rfl, rfl, e1, e2, e3, e4, e5, e6, e7, rfl⟩
    · cases h
  · cases h
theorem pb_tv_rf {base b : Nat} (r : Option Nat) : pb_tv base b (va_rf r) = va_rf (r.map (pb_ad base b)) := by cases r <;> rfl
theorem pb_narrow_tv {base b : Nat} {ty : FieldType} {v : Value} (h : narrow ty v = v) : narrow ty (pb_tv base b v) = pb_tv base b v := by
  cases v <;> first | exact h | (cases ty <;> rfl)
theorem pb_fits_tv {base b : Nat} {ty : FieldType} {v : Value} (h : fits ty v = true) : fits ty (pb_tv base b v) = true := by
  cases v <;> first | exact h | (cases ty <;> first | rfl | exact h)
theorem pb_df_len (ci : Nat) : (pb_df ci).length = pb_nf ci := by simp [pb_df]
theorem pb_nf_at : ∀ (ci : Nat), ci < 13 → pb_nf ci = (pb_cl3 ci).2.2
  | 0, _ => rfl
  | 1, _ => rfl
  | 2, _ => rfl
  | 3, _ => rfl
  | 4, _ => rfl
  | 5, _ => rfl
  | 6, _ => rfl
  | 7, _ => rfl
  | 8, _ => rfl
  | 9, _ => rfl
  | 10, _ => rfl
  | 11, _ => rfl
  | 12, _ => rfl
  | _ + 13, h => absurd h (by omega)
theorem pb_dv_tv {base b : Nat} (ty : FieldType) : pb_tv base b (defaultValue ty) = defaultValue ty := by cases ty <;> rfl
section PD
variable {p : Program} {l : Launch} {e : Env} {R : Room} {s : State} {m : MethodId} {args : Array Value} {below : List Frame} {meth : Method} {c : Code} {H : Heap} {locs : List Loc} {cells slots : Nat} {Q : State → Prop} {base b Ls : Nat} {xs : Nat → Int32} {pc : Nat} {ls : Array Slot} {D : va_G} {dA : Nat → ClassId} {mk : Nat} {h h' : pb_H} {scr : Cell}
set_option maxHeartbeats 1000000 in
theorem pb_W_D (C : pb_Cx p R s m args meth c D dA scr Ls xs base b mk) (hr : pb_rep D dA base b Ls xs scr h H) (hlo : ∀ q ∈ locs, base ≤ q.base) (hls : ls.size = pb_ml mk) {ins : Instr} {len r1 r2 : Nat} {kv : Int} {g : List (Nat × Nat)} (hg : pb_okb (pb_y mk) (pb_c mk) (pb_nd mk) mk (pc, ins, len, r1, r2, kv) g = true) {st st' : List Value} (hD : pb_D (ins, len, r1, r2, kv) st h = some (st', h'))
    (hcap1 : cells + (h'.1 - h.1) ≤ R.cells) (hcap2 : slots + (pb_sl h' - pb_sl h) ≤ R.slots)
    (k : ∀ (H1 : Heap) (locs1 : List Loc), pb_rep D dA base b Ls xs scr h' H1 → (∀ q ∈ locs1, base ≤ q.base) → W p l e R s m args below meth c H1 locs1 (cells + (h'.1 - h.1)) (slots + (pb_sl h' - pb_sl h)) Q (F0 m (pc + len) ls (st'.map (pb_tv base b)))) : W p l e R s m args below meth c H locs cells slots Q (F0 m pc ls (st.map (pb_tv base b))) := by
  obtain ⟨hx, hb, hml, hown, hts, hKK, hini, hfr, hlc, hbb⟩ := C
  have hK := hKK.1
  unfold pb_okb at hg
  rw [Bool.and_eq_true, Bool.and_eq_true] at hg
  obtain ⟨⟨hd, hlen⟩, hw⟩ := hg
  have hd : decode (pb_c mk) pc = .ok (ins, len) := of_decide_eq_true hd
  rw [Bool.or_eq_true, decide_eq_true_eq, decide_eq_true_eq] at hlen
  dsimp only at hlen hw
  have k0 : h' = h → W p l e R s m args below meth c H locs cells slots Q (F0 m (pc + len) ls (st'.map (pb_tv base b))) := by
    intro e0
    subst e0
    have := k H locs hr hlo
    rw [Nat.sub_self, Nat.sub_self, Nat.add_zero, Nat.add_zero] at this
    exact this
  have kset : ∀ (a : Nat) (cN : pb_E) (H1 : Heap) (locs1 : List Loc), h' = pb_set h a cN → pb_sz cN = pb_sz (h.2 a) → pb_n3 cN = true → 1 ≤ a → a < h.1 → va_at D pb_cls (pb_ad base b a, pb_tE base b dA cN) H1 → H1.size = H.size → (∀ q, q ≠ pb_ad base b a → H1[q]? = H[q]?) → (∀ q ∈ locs1, q.base = pb_ad base b a) → W p l e R s m args below meth c H1 (locs ++ locs1) cells slots Q (F0 m (pc + len) ls (st'.map (pb_tv base b))) := by
    intro a cN H1 locs1 e0 e1 en e2 e3 e4 e5 e6 e7
    have hr' := pb_rep_set hr hbb e2 e3 en e4 e5 e6
    have := k H1 (locs ++ locs1) (by rw [e0]; exact hr') (fun q hq => by
      rcases List.mem_append.mp hq with hq | hq
      · exact hlo q hq
      · rw [e7 q hq, pb_ad_pos e2]; omega)
    rw [e0, pb_sl_set e1] at this
    have e8 : (pb_set h a cN).1 - h.1 = 0 := Nat.sub_self _
    rw [e8, Nat.sub_self, Nat.add_zero, Nat.add_zero] at this
    exact this
  have had : pb_ad base b h.1 = H.size := by
    have g1 := hr.1.1
    have g2 := hr.1.2
    rw [pb_ad_pos g1]
    omega
  have knew : ∀ (cN : pb_E) (H1 : Heap), h' = pb_new h cN → pb_n3 cN = true → va_at D pb_cls (H.size, pb_tE base b dA cN) H1 → H1.size = H.size + 1 → (∀ q, q < H.size → H1[q]? = H[q]?) → W p l e R s m args below meth c H1 locs (cells + 1) (slots + pb_sz cN) Q (F0 m (pc + len) ls (st'.map (pb_tv base b))) := by
    intro cN H1 e0 en e1 e2 e3
    have hr' := (pb_rep_new hr hbb en e1 e2 e3).1
    have h9 := k H1 locs (by rw [e0]; exact hr') hlo
    have e8 : h'.1 - h.1 = 1 := by rw [e0]; show h.1 + 1 - h.1 = 1; omega
    have e9 : pb_sl h' - pb_sl h = pb_sz cN := by rw [e0, pb_sl_new]; omega
    rw [e8, e9] at h9
    exact h9
  have hnc : ∀ cN : pb_E, h' = pb_new h cN → cells + 1 ≤ R.cells ∧ slots + pb_sz cN ≤ R.slots := by
    intro cN e0
    have e8 : h'.1 - h.1 = 1 := by rw [e0]; show h.1 + 1 - h.1 = 1; omega
    have e9 : pb_sl h' - pb_sl h = pb_sz cN := by rw [e0, pb_sl_new]; omega
    rw [e8] at hcap1
    rw [e9] at hcap2
    exact ⟨hcap1, hcap2⟩
  have hct : ∀ r : List Value, (List.map (fun v => v.category) (r.map (pb_tv base b))).sum = pb_cat r := by
    intro r
    unfold pb_cat
    rw [List.map_map]
    congr 1
    apply List.map_congr_left
    intro v _
    exact pb_tv_cat base b v
  have kone : ∀ (j x y : Nat), (∀ q ∈ [(⟨x, j⟩ : Loc)], q.base = y) ↔ x = y := by
    intro j x y
    simp
  unfold pb_D at hD
  dsimp only at hD
  split at hD
  · -- getfield
    obtain rfl : len = 3 := hlen.elim (fun h => by cases h) id
    dsimp only at hw
    split at hD
    · rename_i a r
      obtain ⟨v, hv, he⟩ := Option.map_eq_some_iff.mp hD
      cases he
      obtain ⟨fs, hc, hf⟩ := pb_gf_inv hv
      unfold pb_fok at hw
      simp only [Bool.and_eq_true, decide_eq_true_eq] at hw
      obtain ⟨⟨⟨w1, w2⟩, w3⟩, w4⟩ := hw
      obtain ⟨a1, a2⟩ := pb_rep_obj hr hc (by omega)
      have hat := hr.2.1 a a1 a2
      rw [hc] at hat
      exact va_get (D := D) (own := (pb_y mk).cls) (ref := (pb_cl3 r1).1) (C := (pb_cl3 r1).1) (T := (pb_cl3 r1).2.1) (N := (pb_cl3 r1).2.2) (ci := r1) hx hb hts (pb_ws_at r1 w1) hown hK (pb_one hat) 0 rfl (pb_cl3_at r1 w1) r2 w2 (hts _ (pb_hin_of w4)) (fun x h9 => by rw [← w3]; exact h9) (v := pb_tv base b v) (by rw [List.getElem?_map, hf]; rfl) hd (k0 rfl)
    · cases hD
  · -- putfield
    obtain rfl : len = 3 := hlen.elim (fun h => by cases h) id
    dsimp only at hw
    split at hD
    · rename_i v a r
      obtain ⟨cN, hv, he⟩ := Option.map_eq_some_iff.mp hD
      cases he
      obtain ⟨fs, hc, rfl, f1, f2, f3⟩ := pb_pf_inv hv
      rw [Bool.and_eq_true] at hw
      obtain ⟨hw, hw2⟩ := hw
      unfold pb_fok at hw
      simp only [Bool.and_eq_true, decide_eq_true_eq] at hw
      obtain ⟨⟨⟨w1, w2⟩, w3⟩, w4⟩ := hw
      obtain ⟨a1, a2⟩ := pb_rep_obj hr hc (by omega)
      have hat := hr.2.1 a a1 a2
      rw [hc] at hat
      refine pb_put (D := D) (own := (pb_y mk).cls) (C := (pb_cl3 r1).1) (T := (pb_cl3 r1).2.1) (N := (pb_cl3 r1).2.2) (ci := r1) hx hb hts (pb_ws_at r1 w1) (pb_ty r1) (pb_ty_at r1 w1) (pb_nm_at r1 w1) hown hK hat (pb_cl3_at r1 w1) r2 w2 (by rw [w3]; exact hts _ (pb_hin_of w4)) ?_ (pb_narrow_tv f2) (pb_fits_tv f3) (by rw [List.length_map]; exact f1) hd (fun H1 j g1 g2 g3 => ?_)
      · unfold pb_pok at hw2
        rw [Bool.or_eq_true, Bool.and_eq_true, decide_eq_true_eq, decide_eq_true_eq] at hw2
        rcases hw2 with hw2 | hw2
        · left
          simpa using hw2
        · right
          exact ⟨hini hw2.1, by rw [w3]; exact hw2.2⟩
      · refine kset a _ H1 _ rfl ?_ rfl a1 a2 ?_ g2 g3 ((kone j _ _).mpr rfl)
        · rw [hc]
          simp [pb_sz]
        · show va_at D pb_cls (_, .inr (r1, (fs.set r2 v).map (pb_tv base b))) H1
          rw [List.map_set]
          exact g1
    · cases hD
  · -- iaload
    obtain rfl : len = 1 := hlen.elim (fun h => by cases h) id
    split at hD
    · rename_i i a r
      obtain ⟨v, hv, he⟩ := Option.map_eq_some_iff.mp hD
      cases he
      obtain ⟨kk, n, f, hc, h0, hin, rfl⟩ := pb_ai_inv hv
      rcases h0 with rfl | rfl
      · obtain ⟨a1, a2⟩ := pb_rep_arr hr hc (by omega)
        have hat := hr.2.1 a a1 a2
        rw [hc] at hat
        exact va_iald (D := D) hx hb hK (pb_one hat) 0 0 rfl rfl hin hd (k0 rfl)
      · have a0 : a = 0 := by
          cases a with
          | zero => rfl
          | succ a =>
            have h9 := hr.2.2.2.2.1 (a + 1) (by omega)
            rw [hc] at h9
            cases h9
        subst a0
        have h9 := hr.2.2.2.1
        rw [hc] at h9
        cases h9
        have x1 := hr.2.2.2.2.2
        obtain ⟨x2, x3, x4, x5⟩ := hKK.2.2.2.2.2
        have hlt : i.toNatClampNeg < Ls := Nat.not_le.mp fun q => hin (Or.inr q)
        exact W.iald (v := .int (xs i.toNatClampNeg)) hx hb x1 x2 x3 (by rw [x4]; exact hin) (x5 _ hlt) rfl rfl hd (k0 rfl)
    · cases hD
  · -- baload
    obtain rfl : len = 1 := hlen.elim (fun h => by cases h) id
    split at hD
    · rename_i i a r
      obtain ⟨v, hv, he⟩ := Option.map_eq_some_iff.mp hD
      cases he
      obtain ⟨n, f, hc, hin, rfl⟩ := pb_ab_inv hv
      obtain ⟨a1, a2⟩ := pb_rep_arr hr hc (by omega)
      have hat := hr.2.1 a a1 a2
      rw [hc] at hat
      exact va_bald (D := D) hx hb hK (pb_one hat) 0 1 rfl rfl hin hd (k0 rfl)
    · cases hD
  · -- aaload
    obtain rfl : len = 1 := hlen.elim (fun h => by cases h) id
    split at hD
    · rename_i i a r
      obtain ⟨v, hv, he⟩ := Option.map_eq_some_iff.mp hD
      cases he
      obtain ⟨n, f, hc, hin, rfl⟩ := pb_aa_inv hv
      obtain ⟨a1, a2⟩ := pb_rep_arr hr hc (by omega)
      have hat := hr.2.1 a a1 a2
      rw [hc] at hat
      have k1 := k0 rfl
      rw [List.map_cons, pb_tv_rf] at k1
      exact va_aldq (D := D) hx hb hK (pb_one hat) 0 2 rfl rfl hin hd k1
    · cases hD
  · -- iastore
    obtain rfl : len = 1 := hlen.elim (fun h => by cases h) id
    split at hD
    · rename_i v i a r
      obtain ⟨cN, hv, he⟩ := Option.map_eq_some_iff.mp hD
      cases he
      obtain ⟨n, f, hc, hin, rfl⟩ := pb_si_inv hv
      obtain ⟨a1, a2⟩ := pb_rep_arr hr hc (by omega)
      have hat := hr.2.1 a a1 a2
      rw [hc] at hat
      exact pb_iast (D := D) hx hb hK 0 hat rfl hin hd (fun H1 j g1 g2 g3 => kset a _ H1 _ rfl (by rw [hc]; rfl) rfl a1 a2 g1 g2 g3 ((kone j _ _).mpr rfl))
    · cases hD
  · -- bastore
    obtain rfl : len = 1 := hlen.elim (fun h => by cases h) id
    split at hD
    · rename_i v i a r
      obtain ⟨cN, hv, he⟩ := Option.map_eq_some_iff.mp hD
      cases he
      obtain ⟨n, f, hc, hin, rfl⟩ := pb_sb_inv hv
      obtain ⟨a1, a2⟩ := pb_rep_arr hr hc (by omega)
      have hat := hr.2.1 a a1 a2
      rw [hc] at hat
      exact pb_bast (D := D) hx hb hK 1 hat rfl hin hd (fun H1 j g1 g2 g3 => kset a _ H1 _ rfl (by rw [hc]; rfl) rfl a1 a2 g1 g2 g3 ((kone j _ _).mpr rfl))
    · cases hD
  · -- aastore
    obtain rfl : len = 1 := hlen.elim (fun h => by cases h) id
    split at hD
    · rename_i i a r
      obtain ⟨cN, hv, he⟩ := Option.map_eq_some_iff.mp hD
      cases he
      obtain ⟨n, f, hc, hin, rfl⟩ := pb_sa_inv hv
      obtain ⟨a1, a2⟩ := pb_rep_arr hr hc (by omega)
      have hat := hr.2.1 a a1 a2
      rw [hc] at hat
      refine pb_aastN (D := D) (C := RX4) hx hb hK 2 hat rfl hin hd (fun H1 j g1 g2 g3 => kset a _ H1 _ rfl (by rw [hc]; rfl) rfl a1 a2 ?_ g2 g3 ((kone j _ _).mpr rfl))
      have e9 : (fun z => (va_up f i.toNatClampNeg none z).map (pb_ad base b)) = va_up (fun z => (f z).map (pb_ad base b)) i.toNatClampNeg none := by
        funext z
        unfold va_up
        split <;> rfl
      show va_at D pb_cls (_, .inl (dA 2, n, .inr (.inr (.inr (.inr (fun z => (va_up f i.toNatClampNeg none z).map (pb_ad base b))))))) H1
      rw [e9]
      exact g1
    · rename_i v i a r
      split at hD
      · rename_i his
        obtain ⟨cN, hv, he⟩ := Option.map_eq_some_iff.mp hD
        cases he
        obtain ⟨n, f, hc, hin, rfl⟩ := pb_sa_inv hv
        obtain ⟨a1, a2⟩ := pb_rep_arr hr hc (by omega)
        have hat := hr.2.1 a a1 a2
        rw [hc] at hat
        obtain ⟨vs, hvs⟩ : ∃ vs, h.2 v = .inr (4, vs) := by
          unfold pb_is0 at his
          split at his
          · rename_i cj vs hcv
            have := of_decide_eq_true his
            subst this
            exact ⟨vs, hcv⟩
          · cases his
        obtain ⟨b1, b2⟩ := pb_rep_obj hr hvs (by omega)
        have hat2 := hr.2.1 v b1 b2
        rw [hvs] at hat2
        refine pb_aast (D := D) (r := pb_cl3 4) hx hb hK 2 4 hat rfl hat2 (pb_cl3_at 4 (by omega)) hin hd (fun H1 j g1 g2 g3 => kset a _ H1 _ rfl (by rw [hc]; rfl) rfl a1 a2 ?_ g2 g3 ((kone j _ _).mpr rfl))
        have e9 : (fun z => (va_up f i.toNatClampNeg (some v) z).map (pb_ad base b)) = va_up (fun z => (f z).map (pb_ad base b)) i.toNatClampNeg (some (pb_ad base b v)) := by
          funext z
          unfold va_up
          split <;> rfl
        show va_at D pb_cls (_, .inl (dA 2, n, .inr (.inr (.inr (.inr (fun z => (va_up f i.toNatClampNeg (some v) z).map (pb_ad base b))))))) H1
        rw [e9]
        exact g1
      · cases hD
    · cases hD
  · -- arraylength
    obtain rfl : len = 1 := hlen.elim (fun h => by cases h) id
    split at hD
    · rename_i a r
      obtain ⟨n, hv, he⟩ := Option.map_eq_some_iff.mp hD
      cases he
      unfold pb_al2 at hv
      split at hv
      · rename_i kd n' f hc
        split at hv
        · rename_i hkd
          cases hv
          by_cases hk3 : kd = 3
          · subst hk3
            have a0 : a = 0 := by
              cases a with
              | zero => rfl
              | succ a =>
                have h9 := hr.2.2.2.2.1 (a + 1) (by omega)
                rw [hc] at h9
                cases h9
            subst a0
            have h9 := hr.2.2.2.1
            rw [hc] at h9
            cases h9
            have x1 := hr.2.2.2.2.2
            obtain ⟨x2, x3, x4, x5⟩ := hKK.2.2.2.2.2
            exact W.alen hx hb x1 x2 (by rw [x4]) rfl rfl hd (k0 rfl)
          · obtain ⟨a1, a2⟩ := pb_rep_arr hr hc hk3
            have hat := hr.2.1 a a1 a2
            rw [hc] at hat
            rcases hkd with rfl | rfl | rfl
            · exact va_alen (D := D) hx hb hK (pb_one hat) 0 0 rfl rfl rfl hd (k0 rfl)
            · exact va_alen (D := D) hx hb hK (pb_one hat) 0 1 rfl rfl rfl hd (k0 rfl)
            · exact absurd rfl hk3
        · cases hv
      · rename_i kd n' f hc
        split at hv
        · rename_i hkd
          cases hv
          subst hkd
          obtain ⟨a1, a2⟩ := pb_rep_arr hr hc (by omega)
          have hat := hr.2.1 a a1 a2
          rw [hc] at hat
          exact va_alen (D := D) hx hb hK (pb_one hat) 0 2 rfl rfl rfl hd (k0 rfl)
        · cases hv
      · cases hv
    · cases hD
  · -- newarray
    obtain rfl : len = 2 := hlen.elim (fun h => by cases h) id
    dsimp only at hw
    split at hD
    · rename_i n r
      split at hD
      · rename_i hcond
        obtain ⟨n1, n2, n3⟩ := hcond
        cases hD
        rcases n3 with rfl | rfl
        · have hnc2 := hnc (.inl (0, n.toNatClampNeg, .inl (fun _ => 0))) rfl
          refine va_newaK (atype := .int) hx hb (hts _ (pb_hin_of hw)) rfl hd rfl n1 rfl (by have e4 : componentBytes (newarray.typeOf .int) = 4 := rfl; rw [e4]; omega) hnc2.1 hnc2.2 rfl (fun H1 cA e1 z1 o1 hAr hNm => ?_)
          have ec : cA = dA 0 := Option.some.inj (hNm.symm.trans (hK.2 0 _ rfl).2)
          subst ec
          have kk := knew (.inl (0, n.toNatClampNeg, .inl (fun _ => 0))) H1 rfl rfl e1 z1 o1
          rw [List.map_cons, show pb_tv base b (.ref h.1) = .ref (pb_ad base b h.1) from rfl, had] at kk
          exact kk
        · have hnc2 := hnc (.inl (1, n.toNatClampNeg, .inl (fun _ => 0))) rfl
          refine va_newaK (atype := .byte) hx hb (hts _ (pb_hin_of hw)) rfl hd rfl n1 rfl (by have e4 : componentBytes (newarray.typeOf .byte) = 1 := rfl; rw [e4]; omega) hnc2.1 hnc2.2 rfl (fun H1 cA e1 z1 o1 hAr hNm => ?_)
          have ec : cA = dA 1 := Option.some.inj (hNm.symm.trans (hK.2 1 _ rfl).2)
          subst ec
          have kk := knew (.inl (1, n.toNatClampNeg, .inl (fun _ => 0))) H1 rfl rfl e1 z1 o1
          rw [List.map_cons, show pb_tv base b (.ref h.1) = .ref (pb_ad base b h.1) from rfl, had] at kk
          exact kk
      · cases hD
    · cases hD
  · -- anewarray
    obtain rfl : len = 3 := hlen.elim (fun h => by cases h) id
    dsimp only at hw
    split at hD
    · rename_i n r
      split at hD
      · rename_i hcond
        obtain ⟨n1, n2⟩ := hcond
        cases hD
        have hnc2 := hnc (.inl (2, n.toNatClampNeg, .inr (.inr (.inr (.inr (fun _ => none)))))) rfl
        refine W.anew (C := RX4) hx hb hown (hts _ (pb_hin_of hw)) hKK.2.1.use rfl hd rfl n1 (by omega) hnc2.1 hnc2.2 (fun cA kA comp f1 f2 f3 f4 => ?_)
        obtain ⟨kA', comp', -, -, -, t4⟩ := (hK.2 2 _ rfl).2
        have ec : cA = dA 2 := Option.some.inj (f1.symm.trans t4)
        subst ec
        have kk := knew (.inl (2, n.toNatClampNeg, .inr (.inr (.inr (.inr (fun _ => none)))))) (H.push { cls := dA 2, slots := Array.replicate n.toNatClampNeg .null, vm := .none }) rfl rfl (by
          show (H.push _)[H.size]? = some (vp_cell _ _)
          rw [pb_repl]
          simp
          rfl) (by simp) (fun q hq => by rw [Array.getElem?_push]; split <;> first | rfl | omega)
        rw [List.map_cons, show pb_tv base b (.ref h.1) = .ref (pb_ad base b h.1) from rfl, had] at kk
        exact kk
      · cases hD
    · cases hD
  · -- new
    obtain rfl : len = 3 := hlen.elim (fun h => by cases h) id
    dsimp only at hw
    cases hD
    simp only [Bool.and_eq_true, decide_eq_true_eq] at hw
    obtain ⟨⟨⟨w1, w2⟩, w3⟩, w4⟩ := hw
    have hnc2 := hnc (.inr (r1, pb_df r1)) rfl
    have ez : pb_sz (.inr (r1, pb_df r1)) = (pb_cl3 r1).2.2 := by
      show (pb_df r1).length = _
      rw [pb_df_len, pb_nf_at r1 w1]
    rw [ez] at hnc2
    have hKn := hK.1 r1 _ (pb_cl3_at r1 w1)
    refine W.newcK hx hb hown (hts _ (pb_hin_of w2)) (hts _ (pb_hin_of w3)) (hts _ (pb_hin_of w4)) rfl hd hnc2.1 hnc2.2 hKn.2.1 rfl (fun H1 kC hkC e1 z1 o1 => ?_)
    have kk := knew (.inr (r1, pb_df r1)) H1 rfl rfl ⟨_, pb_cl3_at r1 w1, (u_born (pb_ty r1) hts (pb_ws_at r1 w1) hKn hkC e1 (pb_ty_at r1 w1)).to (fun j hj => by
      unfold vp_V pb_df
      rw [pb_nf_at r1 w1]
      simp [hj, pb_dv_tv])⟩ z1 o1
    rw [List.map_cons, show pb_tv base b (.ref h.1) = .ref (pb_ad base b h.1) from rfl, had, ez] at kk
    exact kk
  · -- Object.<init>
    obtain rfl : len = 3 := hlen.elim (fun h => by cases h) id
    dsimp only at hw
    split at hD
    · rename_i hr1
      rw [if_pos hr1] at hw
      simp only [Bool.and_eq_true, decide_eq_true_eq] at hw
      obtain ⟨⟨⟨⟨w1, w2⟩, w3⟩, w4⟩, w5⟩ := hw
      split at hD
      · cases hD
        exact W.objInit hx hb hown (hts _ (pb_hin_of w3)) (hts _ (pb_hin_of w4)) (hts _ (pb_hin_of w5)) rfl (by rw [hml]; exact hls) rfl hd (by omega) (by show 2 * 0 + 0 + 12 ≤ _; omega) (k0 rfl)
      · cases hD
    · cases hD
  · -- static ones
    obtain rfl : len = 3 := hlen.elim (fun h => by cases h) id
    dsimp only at hw
    split at hD
    · rename_i hr1
      rw [if_pos hr1] at hw
      simp only [Bool.and_eq_true, decide_eq_true_eq] at hw
      obtain ⟨⟨⟨⟨⟨w1, w2⟩, w3⟩, w4⟩, w5⟩, w6⟩ := hw
      split at hD
      · rename_i n dp a sp a0 r
        split at hD
        · rename_i hcat
          obtain ⟨cN, hv, he⟩ := Option.map_eq_some_iff.mp hD
          cases he
          obtain ⟨kd, n0, n1, f, g0, hc0, hc1, c1, c2, c3, c4, c5, c6, c7, rfl⟩ := pb_cp_inv hv
          obtain ⟨a1, a2⟩ := pb_rep_arr hr hc1 (by omega)
          have hat := hr.2.1 a a1 a2
          rw [hc1] at hat
          obtain ⟨b1, b2⟩ := pb_rep_arr hr hc0 (by omega)
          have hat0 := hr.2.1 a0 b1 b2
          rw [hc0] at hat0
          have hq := hct st'
          have hk2 : kd = 0 ∨ kd = 1 := by omega
          rcases hk2 with rfl | rfl
          · exact pb_copy (D := D) (ty := .int) hx hb (by rw [hml, hls]) hown (hts _ (pb_hin_of w3)) (hts _ (pb_hin_of w4)) (hts _ (pb_hin_of w5)) (hts _ (pb_hin_of w6)) hK 0 hat0 hat rfl rfl c2 c3 c4 c5 c6 (fun i hi => rfl) (by omega) (by rw [hq]; show _ + (7 + 11) ≤ _; omega) hd (fun H1 locs1 g1 g2 g3 g4 => kset a _ H1 _ rfl (by rw [hc1]; rfl) rfl a1 a2 g1 g2 g3 g4)
          · exact pb_copy (D := D) (ty := .byte) hx hb (by rw [hml, hls]) hown (hts _ (pb_hin_of w3)) (hts _ (pb_hin_of w4)) (hts _ (pb_hin_of w5)) (hts _ (pb_hin_of w6)) hK 1 hat0 hat rfl rfl c2 c3 c4 c5 c6 (fun i hi => by rcases c7 with h | h; (· cases h); exact h i hi) (by omega) (by rw [hq]; show _ + (7 + 11) ≤ _; omega) hd (fun H1 locs1 g1 g2 g3 g4 => kset a _ H1 _ rfl (by rw [hc1]; rfl) rfl a1 a2 g1 g2 g3 g4)
        · cases hD
      · cases hD
    · rename_i hn1
      rw [if_neg hn1] at hw
      have hcc : ∀ r : List Value, h' = h → cells ≤ R.cells ∧ slots ≤ R.slots := by
        intro r e0
        subst e0
        rw [Nat.sub_self, Nat.add_zero] at hcap1 hcap2
        exact ⟨hcap1, hcap2⟩
      split at hD
      · rename_i hr1
        rw [if_pos hr1] at hw
        unfold pb_hok at hw
        simp only [Bool.and_eq_true, decide_eq_true_eq] at hw
        obtain ⟨⟨⟨⟨⟨w1, w2⟩, w3⟩, w4⟩, w5⟩, w6⟩ := hw
        split at hD
        · rename_i y x r
          split at hD
          · rename_i hcat
            cases hD
            have hq := hct r
            exact va_mmin hx hb (by rw [hml, hls]) hown (hts _ (pb_hin_of w3)) (hts _ (pb_hin_of w4)) (hts _ (pb_hin_of w5)) (hts _ (pb_hin_of w6)) (by omega) (by rw [hq]; omega) (hcc r rfl).1 (hcc r rfl).2 hd (k0 rfl)
          · cases hD
        · cases hD
      · rename_i hn2
        rw [if_neg hn2] at hw
        split at hD
        · rename_i hr1
          rw [if_pos hr1] at hw
          unfold pb_hok at hw
          simp only [Bool.and_eq_true, decide_eq_true_eq] at hw
          obtain ⟨⟨⟨⟨⟨w1, w2⟩, w3⟩, w4⟩, w5⟩, w6⟩ := hw
          split at hD
          · rename_i y x r
            split at hD
            · rename_i hcat
              cases hD
              have hq := hct r
              exact va_mmax hx hb (by rw [hml, hls]) hown (hts _ (pb_hin_of w3)) (hts _ (pb_hin_of w4)) (hts _ (pb_hin_of w5)) (hts _ (pb_hin_of w6)) (by omega) (by rw [hq]; omega) (hcc r rfl).1 (hcc r rfl).2 hd (k0 rfl)
            · cases hD
          · cases hD
        · rename_i hn3
          rw [if_neg hn3] at hw
          split at hD
          · rename_i hr1
            rw [if_pos hr1] at hw
            unfold pb_hok at hw
            simp only [Bool.and_eq_true, decide_eq_true_eq] at hw
            obtain ⟨⟨⟨⟨⟨w1, w2⟩, w3⟩, w4⟩, w5⟩, w6⟩ := hw
            split at hD
            · rename_i x r
              split at hD
              · rename_i hcat
                cases hD
                have hq := hct r
                exact va_mabs hx hb (by rw [hml, hls]) hown (hts _ (pb_hin_of w3)) (hts _ (pb_hin_of w4)) (hts _ (pb_hin_of w5)) (hts _ (pb_hin_of w6)) (by omega) (by rw [hq]; omega) (hcc r rfl).1 (hcc r rfl).2 hd (k0 rfl)
              · cases hD
            · cases hD
          · cases hD
  · cases hD
end PD
