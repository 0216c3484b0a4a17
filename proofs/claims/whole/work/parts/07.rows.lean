def pb_brk (q : Nat × pb_X) : Bool := match q.2.1 with
  | .if_icmp _ off => decide (0 ≤ (q.1 : Int) + off)
  | .ifCond _ off => decide (0 ≤ (q.1 : Int) + off)
  | _ => true
theorem pb_brks : pb_T.all (fun t => t.all pb_brk) = true := by decide +kernel
theorem pb_lookup_mem {l : List (Nat × pb_X)} {pc : Nat} {x : pb_X} (h : l.lookup pc = some x) : (pc, x) ∈ l := by
  induction l with
  | nil => cases h
  | cons q l ih =>
    obtain ⟨k, y⟩ := q
    rw [List.lookup_cons] at h
    by_cases hk : pc = k
    · subst hk
      simp at h
      subst h
      exact List.mem_cons_self
    · have e : (pc == k) = false := by simp [hk]
      rw [e] at h
      exact List.mem_cons_of_mem _ (ih h)
theorem pb_look_mem {m pc : Nat} {x : pb_X} (h : pb_look m pc = some x) : (pc, x) ∈ pb_t m := pb_lookup_mem h
theorem pb_brk_at {m pc : Nat} {x : pb_X} (h : pb_look m pc = some x) : pb_brk (pc, x) = true := by
  have h1 := pb_look_mem h
  unfold pb_t at h1
  rw [List.getD_eq_getElem?_getD] at h1
  cases hm : pb_T[m]? with
  | none => rw [hm] at h1; cases h1
  | some t =>
    rw [hm] at h1
    exact List.all_eq_true.mp (List.all_eq_true.mp pb_brks t (List.mem_of_getElem? hm)) _ h1
/-! The small machine is right about the large one. First: what is where. -/
def pb_ad (base b : Nat) (i : Nat) : Nat := match i with
  | 0 => b
  | j + 1 => base + j
def pb_tv (base b : Nat) (v : Value) : Value := match v with
  | .ref a => .ref (pb_ad base b a)
  | .int x => .int x
  | .long x => .long x
  | .float x => .float x
  | .double x => .double x
  | .null => .null
  | .retAddr x => .retAddr x
theorem pb_tv_cat (base b : Nat) (v : Value) : (pb_tv base b v).category = v.category := by cases v <;> rfl
def pb_tE (base b : Nat) (dA : Nat → ClassId) (c : pb_E) : va_E := match c with
  | .inl (k, n, .inl f) => .inl (dA k, n, .inl f)
  | .inl (k, n, .inr (.inl f)) => .inl (dA k, n, .inr (.inl f))
  | .inl (k, n, .inr (.inr (.inl f))) => .inl (dA k, n, .inr (.inr (.inl f)))
  | .inl (k, n, .inr (.inr (.inr (.inl f)))) => .inl (dA k, n, .inr (.inr (.inr (.inl f))))
  | .inl (k, n, .inr (.inr (.inr (.inr f)))) => .inl (dA k, n, .inr (.inr (.inr (.inr (fun i => (f i).map (pb_ad base b))))))
  | .inr (ci, fs) => .inr (ci, fs.map (pb_tv base b))
def pb_dead : pb_E := .inr (13, [])
def pb_n3 (c : pb_E) : Bool := match c with
  | .inl (k, _) => !(k == 3)
  | _ => true
def pb_rep (D : va_G) (dA : Nat → ClassId) (base b Ls : Nat) (xs : Nat → Int32) (scr : Cell) (h : pb_H) (H : Heap) : Prop :=
  (1 ≤ h.1 ∧ H.size + 1 = base + h.1) ∧ (∀ i, 1 ≤ i → i < h.1 → va_at D pb_cls (pb_ad base b i, pb_tE base b dA (h.2 i)) H) ∧ (∀ i, h.1 ≤ i → h.2 i = pb_dead) ∧ h.2 0 = .inl (3, Ls, .inl xs) ∧ (∀ i, 1 ≤ i → pb_n3 (h.2 i) = true) ∧ H[b]? = some scr
theorem pb_ad_pos {base b i : Nat} (h : 1 ≤ i) : pb_ad base b i = base + (i - 1) := by
  cases i with
  | zero => omega
  | succ j => rfl
theorem pb_rep_obj {D : va_G} {dA : Nat → ClassId} {base b Ls : Nat} {xs : Nat → Int32} {scr : Cell} {h : pb_H} {H : Heap} (hr : pb_rep D dA base b Ls xs scr h H) {a ci : Nat} {fs : List Value} (ha : h.2 a = .inr (ci, fs)) (hc : ci ≠ 13) : 1 ≤ a ∧ a < h.1 := by
  obtain ⟨-, -, h3, h4, -, -⟩ := hr
  constructor
  · cases a with
    | zero => rw [h4] at ha; cases ha
    | succ n => omega
  · apply Nat.lt_of_not_le
    intro hle
    rw [h3 a hle] at ha
    cases ha
    exact hc rfl
theorem pb_rep_arr {D : va_G} {dA : Nat → ClassId} {base b Ls : Nat} {xs : Nat → Int32} {scr : Cell} {h : pb_H} {H : Heap} (hr : pb_rep D dA base b Ls xs scr h H) {a k : Nat} {x : vp_A} (ha : h.2 a = .inl (k, x)) (hk : k ≠ 3) : 1 ≤ a ∧ a < h.1 := by
  obtain ⟨-, -, h3, h4, -, -⟩ := hr
  constructor
  · cases a with
    | zero => rw [h4] at ha; cases ha; exact absurd rfl hk
    | succ n => omega
  · apply Nat.lt_of_not_le
    intro hle
    rw [h3 a hle] at ha
    cases ha
theorem pb_rep_set {D : va_G} {dA : Nat → ClassId} {base b Ls : Nat} {xs : Nat → Int32} {scr : Cell} {h : pb_H} {H H1 : Heap} (hr : pb_rep D dA base b Ls xs scr h H) (hb : b < base) {a : Nat} (h1 : 1 ≤ a) (h2 : a < h.1) {c : pb_E} (hn3 : pb_n3 c = true) (hc : va_at D pb_cls (pb_ad base b a, pb_tE base b dA c) H1) (hz : H1.size = H.size) (ho : ∀ q, q ≠ pb_ad base b a → H1[q]? = H[q]?) : pb_rep D dA base b Ls xs scr (pb_set h a c) H1 := by
  obtain ⟨⟨g1, g2⟩, g3, g4, g5, g6, x1⟩ := hr
  refine ⟨⟨g1, by rw [hz]; exact g2⟩, fun i i1 i2 => ?_, fun i hi => ?_, ?_, fun i i1 => ?_, ?_⟩
  · show va_at D pb_cls (pb_ad base b i, pb_tE base b dA (va_up h.2 a c i)) H1
    by_cases hia : i = a
    · subst hia
      rw [va_up, if_pos rfl]
      exact hc
    · rw [va_up, if_neg hia]
      refine (g3 i i1 i2).kept (ho _ ?_)
      show pb_ad base b i ≠ pb_ad base b a
      rw [pb_ad_pos i1, pb_ad_pos h1]
      omega
  · show va_up h.2 a c i = _
    have hi' : h.1 ≤ i := hi
    rw [va_up, if_neg (by omega)]
    exact g4 i hi'
  · show va_up h.2 a c 0 = _
    rw [va_up, if_neg (by omega)]
    exact g5
  · show pb_n3 (va_up h.2 a c i) = true
    by_cases hia : i = a
    · rw [va_up, if_pos hia]; exact hn3
    · rw [va_up, if_neg hia]; exact g6 i i1
  · rw [ho b (by rw [pb_ad_pos h1]; omega)]
    exact x1
theorem pb_rep_new {D : va_G} {dA : Nat → ClassId} {base b Ls : Nat} {xs : Nat → Int32} {scr : Cell} {h : pb_H} {H H1 : Heap} (hr : pb_rep D dA base b Ls xs scr h H) (hb : b < base) {c : pb_E} (hn3 : pb_n3 c = true) (hc : va_at D pb_cls (H.size, pb_tE base b dA c) H1) (hz : H1.size = H.size + 1) (ho : ∀ q, q < H.size → H1[q]? = H[q]?) : pb_rep D dA base b Ls xs scr (pb_new h c) H1 ∧ pb_ad base b h.1 = H.size := by
  obtain ⟨⟨g1, g2⟩, g3, g4, g5, g6, x1⟩ := hr
  have e1 : pb_ad base b h.1 = H.size := by rw [pb_ad_pos g1]; omega
  refine ⟨⟨⟨?_, ?_⟩, fun i i1 i2 => ?_, fun i hi => ?_, ?_, fun i i1 => ?_, ?_⟩, e1⟩
  · show 1 ≤ h.1 + 1
    omega
  · show H1.size + 1 = base + (h.1 + 1)
    omega
  · have i2' : i < h.1 + 1 := i2
    show va_at D pb_cls (pb_ad base b i, pb_tE base b dA (va_up h.2 h.1 c i)) H1
    by_cases hia : i = h.1
    · subst hia
      rw [va_up, if_pos rfl, e1]
      exact hc
    · rw [va_up, if_neg hia]
      have hv := g3 i i1 (by omega)
      exact hv.kept (ho _ hv.lt)
  · have hi' : h.1 + 1 ≤ i := hi
    show va_up h.2 h.1 c i = _
    rw [va_up, if_neg (by omega)]
    exact g4 i (by omega)
  · show va_up h.2 h.1 c 0 = _
    rw [va_up, if_neg (by omega)]
    exact g5
  · show pb_n3 (va_up h.2 h.1 c i) = true
    by_cases hia : i = h.1
    · rw [va_up, if_pos hia]; exact hn3
    · rw [va_up, if_neg hia]; exact g6 i i1
  · rw [ho b (by omega)]
    exact x1
/-- the locals, as pairs -/
def pb_lv (base b : Nat) (L : pb_L) (J : pb_J) : List (Nat × Value) := L.zipIdx.filterMap (fun q => q.1.map (fun v => (q.2, pb_tv base b v))) ++ J.zipIdx.filterMap (fun q => q.1.map (fun v => (q.2, Value.long v)))
theorem pb_lv_mem {base b : Nat} {L : pb_L} {J : pb_J} {k : Nat} {w : Value} : (k, w) ∈ pb_lv base b L J ↔ (∃ v, L[k]? = some (some v) ∧ w = pb_tv base b v) ∨ ∃ v, J[k]? = some (some v) ∧ w = .long v := by
  unfold pb_lv
  rw [List.mem_append, List.mem_filterMap, List.mem_filterMap]
  constructor
  · rintro (⟨⟨o, i⟩, hq, he⟩ | ⟨⟨o, i⟩, hq, he⟩)
    · left
      rw [List.mem_zipIdx_iff_getElem?] at hq
      cases o with
      | none => cases he
      | some v => cases he; exact ⟨v, hq, rfl⟩
    · right
      rw [List.mem_zipIdx_iff_getElem?] at hq
      cases o with
      | none => cases he
      | some v => cases he; exact ⟨v, hq, rfl⟩
  · rintro (⟨v, hv, rfl⟩ | ⟨v, hv, rfl⟩)
    · left
      exact ⟨(some v, k), List.mem_zipIdx_iff_getElem?.mpr hv, rfl⟩
    · right
      exact ⟨(some v, k), List.mem_zipIdx_iff_getElem?.mpr hv, rfl⟩
def pb_lr (base b : Nat) (ls : Array Slot) (nL : Nat) (L : pb_L) (J : pb_J) : Prop := lv_has ls nL (pb_lv base b L J) ∧ L.length ≤ nL ∧ ∀ (k : Nat) (v : Value), L[k]? = some (some v) → v.category = 1
theorem pb_lr_atL {base b : Nat} {ls : Array Slot} {nL : Nat} {L : pb_L} {J : pb_J} (h : pb_lr base b ls nL L J) {k : Nat} {v : Value} (hv : L[k]? = some (some v)) : ls[k]? = some (.val (pb_tv base b v)) := h.1.2.2 (k, pb_tv base b v) (pb_lv_mem.mpr (Or.inl ⟨v, hv, rfl⟩))
theorem pb_lr_atJ {base b : Nat} {ls : Array Slot} {nL : Nat} {L : pb_L} {J : pb_J} (h : pb_lr base b ls nL L J) {k : Nat} {v : Int64} (hv : J[k]? = some (some v)) : ls[k]? = some (.val (.long v)) := h.1.2.2 (k, .long v) (pb_lv_mem.mpr (Or.inr ⟨v, hv, rfl⟩))
theorem pb_lv_has_sub {ls : Array Slot} {nL : Nat} {l l' : List (Nat × Value)} (h : lv_has ls nL l) (hs : ∀ q ∈ l', q ∈ l) : lv_has ls nL l' := ⟨h.1, h.2.1, fun q hq => h.2.2 q (hs q hq)⟩
theorem pb_cl_get {J : pb_J} {k j : Nat} {v : Int64} (h : (pb_cl J k)[j]? = some (some v)) : J[j]? = some (some v) ∧ j ≠ k ∧ j + 1 ≠ k := by
  unfold pb_cl at h
  rw [List.getElem?_set, List.getElem?_set] at h
  split at h
  · split at h <;> cases h
  · rename_i h1
    split at h
    · split at h <;> cases h
    · rename_i h2
      exact ⟨h, by omega, by omega⟩
theorem pb_lr_st1 {base b : Nat} {ls' : Array Slot} {nL : Nat} {L : pb_L} {J : pb_J} {k : Nat} {v : Value} (hL : L.length ≤ nL) (hc1 : ∀ (k : Nat) (v : Value), L[k]? = some (some v) → v.category = 1) (hv : v.category = 1) (h : lv_has ls' nL ((k, pb_tv base b v) :: (pb_lv base b L J).filter (fun q => !(q.1 == k) && !(q.1 + 1 == k && q.2.category == 2)))) : pb_lr base b ls' nL (L.set k (some v)) (pb_cl J k) := by
  refine ⟨pb_lv_has_sub h ?_, by rw [List.length_set]; exact hL, ?_⟩
  · rintro ⟨j, w⟩ hq
    rcases pb_lv_mem.mp hq with ⟨u, hu, rfl⟩ | ⟨u, hu, rfl⟩
    · rw [List.getElem?_set] at hu
      split at hu
      · rename_i e1
        split at hu
        · cases hu
          subst e1
          exact List.mem_cons_self
        · cases hu
      · rename_i e1
        refine List.mem_cons_of_mem _ (List.mem_filter.mpr ⟨pb_lv_mem.mpr (Or.inl ⟨u, hu, rfl⟩), ?_⟩)
        have h2 := hc1 j u hu
        simp [pb_tv_cat, h2, Ne.symm e1]
    · obtain ⟨g1, g2, g3⟩ := pb_cl_get hu
      refine List.mem_cons_of_mem _ (List.mem_filter.mpr ⟨pb_lv_mem.mpr (Or.inr ⟨u, g1, rfl⟩), ?_⟩)
      simp [g2, g3]
  · intro j u hu
    rw [List.getElem?_set] at hu
    split at hu
    · split at hu
      · cases hu; exact hv
      · cases hu
    · exact hc1 j u hu
theorem pb_lr_st2 {base b : Nat} {ls' : Array Slot} {nL : Nat} {L : pb_L} {J : pb_J} {k : Nat} {v : Int64} (hL : L.length ≤ nL) (hc1 : ∀ (k : Nat) (v : Value), L[k]? = some (some v) → v.category = 1) (h : lv_has ls' nL ((k, Value.long v) :: (pb_lv base b L J).filter (fun q => !(q.1 == k) && (!(q.1 == k + 1) && !(q.1 + 1 == k && q.2.category == 2))))) : pb_lr base b ls' nL ((L.set k none).set (k + 1) none) (((J.set (k + 1) none).set (k - 1) none).set k (some v)) := by
  have hg : ∀ (j : Nat) (u : Value), ((L.set k none).set (k + 1) none)[j]? = some (some u) → L[j]? = some (some u) ∧ j ≠ k ∧ j ≠ k + 1 := by
    intro j u hu
    rw [List.getElem?_set, List.getElem?_set] at hu
    split at hu
    · split at hu <;> cases hu
    · rename_i h1
      split at hu
      · split at hu <;> cases hu
      · rename_i h2
        exact ⟨hu, by omega, by omega⟩
  refine ⟨pb_lv_has_sub h ?_, by rw [List.length_set, List.length_set]; exact hL, fun j u hu => hc1 j u (hg j u hu).1⟩
  rintro ⟨j, w⟩ hq
  rcases pb_lv_mem.mp hq with ⟨u, hu, rfl⟩ | ⟨u, hu, rfl⟩
  · obtain ⟨g1, g2, g3⟩ := hg j u hu
    refine List.mem_cons_of_mem _ (List.mem_filter.mpr ⟨pb_lv_mem.mpr (Or.inl ⟨u, g1, rfl⟩), ?_⟩)
    have h2 := hc1 j u g1
    simp [pb_tv_cat, h2, g2, g3]
  · rw [List.getElem?_set] at hu
    split at hu
    · rename_i e1
      split at hu
      · cases hu
        subst e1
        exact List.mem_cons_self
      · cases hu
    · rename_i e1
      rw [List.getElem?_set, List.getElem?_set] at hu
      split at hu
      · split at hu <;> cases hu
      · rename_i e2
        split at hu
        · split at hu <;> cases hu
        · rename_i e3
          refine List.mem_cons_of_mem _ (List.mem_filter.mpr ⟨pb_lv_mem.mpr (Or.inr ⟨u, hu, rfl⟩), ?_⟩)
          have e4 : ¬ j + 1 = k := by omega
          simp [Ne.symm e1, Ne.symm e3, e4]
theorem pb_ii_inv {f : Int32 → Int32 → Option Int32} {st st' : List Value} (h : pb_ii f st = some st') : ∃ x y z r, st = .int y :: .int x :: r ∧ f x y = some z ∧ st' = .int z :: r := by
  unfold pb_ii at h
  split at h
  · rename_i y x r
    cases hf : f x y with
    | none => rw [hf] at h; cases h
    | some z => rw [hf] at h; cases h; exact ⟨x, y, z, r, rfl, hf, rfl⟩
  · cases h
theorem pb_jj_inv {f : Int64 → Int64 → Option Int64} {st st' : List Value} (h : pb_jj f st = some st') : ∃ x y z r, st = .long y :: .long x :: r ∧ f x y = some z ∧ st' = .long z :: r := by
  unfold pb_jj at h
  split at h
  · rename_i y x r
    cases hf : f x y with
    | none => rw [hf] at h; cases h
    | some z => rw [hf] at h; cases h; exact ⟨x, y, z, r, rfl, hf, rfl⟩
  · cases h
theorem pb_ji_inv {f : Int64 → Int32 → Int64} {st st' : List Value} (h : pb_ji f st = some st') : ∃ x y r, st = .int y :: .long x :: r ∧ st' = .long (f x y) :: r := by
  unfold pb_ji at h
  split at h
  · rename_i y x r
    cases h; exact ⟨x, y, r, rfl, rfl⟩
  · cases h
theorem pb_i1_inv {f : Int32 → Value} {st st' : List Value} (h : pb_i1 f st = some st') : ∃ x r, st = .int x :: r ∧ st' = f x :: r := by
  unfold pb_i1 at h
  split at h
  · rename_i x r
    cases h; exact ⟨x, r, rfl, rfl⟩
  · cases h
theorem pb_j1_inv {f : Int64 → Value} {st st' : List Value} (h : pb_j1 f st = some st') : ∃ x r, st = .long x :: r ∧ st' = f x :: r := by
  unfold pb_j1 at h
  split at h
  · rename_i x r
    cases h; exact ⟨x, r, rfl, rfl⟩
  · cases h
section PS
variable {p : Program} {l : Launch} {e : Env} {R : Room} {s : State} {m : MethodId} {args : Array Value} {below : List Frame} {meth : Method} {c : Code} {H : Heap} {locs : List Loc} {cells slots : Nat} {Q : State → Prop} {base b : Nat} {cc : ByteArray} {pc : Nat} {ls : Array Slot}
theorem pb_W_A (hx : p.tables.exec = Jvm.exec) (hb : c.code = cc) {own : String} (hown : s.vm.findClass own = some m.cls) {ins : Instr} {r1 r2 : Nat} {kv : Int} {st st' : List Value} (hA : pb_A (ins, pb_len ins, r1, r2, kv) st = some st') (hd : decode cc pc = .ok (ins, pb_len ins))
    (hk1 : ∀ i, ins = .ldc i ∨ ins = .ldc_w i → (Cond.constant own i (Int32.ofInt kv)).before args s = true) (hk2 : ∀ i, ins = .ldc2_w i → (Cond.constantLong own i (Int64.ofInt kv)).before args s = true)
    (k : W p l e R s m args below meth c H locs cells slots Q (F0 m (pc + pb_len ins) ls (st'.map (pb_tv base b)))) : W p l e R s m args below meth c H locs cells slots Q (F0 m pc ls (st.map (pb_tv base b))) := by
  unfold pb_A at hA
  dsimp only at hA
  split at hA
  · cases hA
    exact lv_null hx hb hd k
  · cases hA
    exact lv_iconst hx hb hd rfl k
  · cases hA
    exact lv_bipush hx hb hd rfl k
  · cases hA
    exact lv_sipush hx hb hd rfl k
  · cases hA
    exact lv_lconst hx hb hd rfl k
  · cases hA
    exact lv_ldc hx hb hown (hk1 _ (Or.inl rfl)) hd k
  · cases hA
    exact lv_ldcw hx hb hown (hk1 _ (Or.inr rfl)) hd k
  · cases hA
    exact lv_ldc2 hx hb hown (hk2 _ rfl) hd k
  · obtain ⟨x, y, z, r, rfl, hz, rfl⟩ := pb_ii_inv hA
    cases hz
    exact lv_iadd hx hb hd k
  · obtain ⟨x, y, z, r, rfl, hz, rfl⟩ := pb_ii_inv hA
    cases hz
    exact lv_isub hx hb hd k
  · obtain ⟨x, y, z, r, rfl, hz, rfl⟩ := pb_ii_inv hA
    cases hz
    exact lv_imul hx hb hd k
  · obtain ⟨x, y, z, r, rfl, hz, rfl⟩ := pb_ii_inv hA
    cases hz
    exact lv_iand hx hb hd k
  · obtain ⟨x, y, z, r, rfl, hz, rfl⟩ := pb_ii_inv hA
    cases hz
    exact lv_ior hx hb hd k
  · obtain ⟨x, y, z, r, rfl, hz, rfl⟩ := pb_ii_inv hA
    cases hz
    exact lv_ixor hx hb hd k
  · obtain ⟨x, y, z, r, rfl, hz, rfl⟩ := pb_ii_inv hA
    split at hz
    · cases hz
    · rename_i hne
      cases hz
      exact lv_idiv hx hb hd hne k
  · obtain ⟨x, y, z, r, rfl, hz, rfl⟩ := pb_ii_inv hA
    split at hz
    · cases hz
    · rename_i hne
      cases hz
      exact lv_irem hx hb hd hne k
  · obtain ⟨x, y, z, r, rfl, hz, rfl⟩ := pb_ii_inv hA
    cases hz
    exact lv_ishl hx hb hd k
  · obtain ⟨x, y, z, r, rfl, hz, rfl⟩ := pb_ii_inv hA
    cases hz
    exact lv_ishr hx hb hd k
  · obtain ⟨x, y, z, r, rfl, hz, rfl⟩ := pb_ii_inv hA
    cases hz
    exact lv_iushr hx hb hd rfl k
  · obtain ⟨x, r, rfl, rfl⟩ := pb_i1_inv hA
    exact lv_ineg hx hb hd k
  · obtain ⟨x, r, rfl, rfl⟩ := pb_i1_inv hA
    exact lv_i2b hx hb hd rfl k
  · obtain ⟨x, r, rfl, rfl⟩ := pb_i1_inv hA
    exact lv_i2l hx hb hd rfl k
  · obtain ⟨x, r, rfl, rfl⟩ := pb_j1_inv hA
    exact lv_l2i hx hb hd rfl k
  · obtain ⟨x, y, z, r, rfl, hz, rfl⟩ := pb_jj_inv hA
    cases hz
    exact lv_ladd hx hb hd k
  · obtain ⟨x, y, z, r, rfl, hz, rfl⟩ := pb_jj_inv hA
    cases hz
    exact lv_lsub hx hb hd k
  · obtain ⟨x, y, z, r, rfl, hz, rfl⟩ := pb_jj_inv hA
    cases hz
    exact lv_lmul hx hb hd k
  · obtain ⟨x, y, z, r, rfl, hz, rfl⟩ := pb_jj_inv hA
    cases hz
    exact lv_land hx hb hd k
  · obtain ⟨x, y, z, r, rfl, hz, rfl⟩ := pb_jj_inv hA
    cases hz
    exact lv_lor hx hb hd k
  · obtain ⟨x, y, z, r, rfl, hz, rfl⟩ := pb_jj_inv hA
    cases hz
    exact lv_lxor hx hb hd k
  · obtain ⟨x, y, z, r, rfl, hz, rfl⟩ := pb_jj_inv hA
    split at hz
    · cases hz
    · rename_i hne
      cases hz
      exact lv_ldiv hx hb hd hne k
  · obtain ⟨x, y, z, r, rfl, hz, rfl⟩ := pb_jj_inv hA
    split at hz
    · cases hz
    · rename_i hne
      cases hz
      exact lv_lrem hx hb hd hne k
  · obtain ⟨x, y, r, rfl, rfl⟩ := pb_ji_inv hA
    exact lv_lshl hx hb hd rfl k
  · obtain ⟨x, y, r, rfl, rfl⟩ := pb_ji_inv hA
    exact lv_lshr hx hb hd rfl k
  · obtain ⟨x, y, r, rfl, rfl⟩ := pb_ji_inv hA
    exact lv_lushr hx hb hd rfl k
  · unfold pb_lc at hA
    split at hA
    · cases hA
      exact W.lcmp hx hb hd k
    · cases hA
  · unfold pb_du at hA
    split at hA
    · cases hA
      exact lv_dup hx hb hd rfl k
    · cases hA
      exact lv_dup hx hb hd rfl k
    · cases hA
  · unfold pb_po at hA
    split at hA
    · cases hA
      exact lv_pop (va := .int _) hx hb hd rfl k
    · cases hA
      exact lv_pop (va := .ref _) hx hb hd rfl k
    · cases hA
  · cases hA
theorem pb_W_B (hx : p.tables.exec = Jvm.exec) (hb : c.code = cc) {nL : Nat} {L L' : pb_L} {J J' : pb_J} (hl : pb_lr base b ls nL L J) {ins : Instr} {len r1 r2 : Nat} {kv : Int} {st st' : List Value} (hB : pb_B (ins, len, r1, r2, kv) L J st = some (L', J', st')) (hd : decode cc pc = .ok (ins, pb_len ins))
    (k : ∀ ls' : Array Slot, pb_lr base b ls' nL L' J' → W p l e R s m args below meth c H locs cells slots Q (F0 m (pc + pb_len ins) ls' (st'.map (pb_tv base b)))) : W p l e R s m args below meth c H locs cells slots Q (F0 m pc ls (st.map (pb_tv base b))) := by
  unfold pb_B at hB
  dsimp only at hB
  split at hB
  · unfold pb_il at hB
    split at hB
    · rename_i hv
      cases hB
      exact lv_iload hx hb hd (pb_lr_atL hl hv) (k ls hl)
    · cases hB
  · unfold pb_il at hB
    split at hB
    · rename_i hv
      cases hB
      exact lv_iload_n hx hb hd rfl (pb_lr_atL hl hv) (k ls hl)
    · cases hB
  · unfold pb_al at hB
    split at hB
    · rename_i hv
      cases hB
      exact lv_aload hx hb hd (pb_lr_atL hl hv) (k ls hl)
    · rename_i hv
      cases hB
      exact lv_aloadN hx hb hd (pb_lr_atL hl hv) (k ls hl)
    · cases hB
  · unfold pb_al at hB
    split at hB
    · rename_i hv
      cases hB
      exact lv_aload_n hx hb hd rfl (pb_lr_atL hl hv) (k ls hl)
    · rename_i hv
      cases hB
      exact lv_aload_nN hx hb hd rfl (pb_lr_atL hl hv) (k ls hl)
    · cases hB
  · unfold pb_ll at hB
    split at hB
    · rename_i hv
      cases hB
      exact lv_lload hx hb hd (pb_lr_atJ hl hv) (k ls hl)
    · cases hB
  · unfold pb_ll at hB
    split at hB
    · rename_i hv
      cases hB
      exact lv_lload_n hx hb hd rfl (pb_lr_atJ hl hv) (k ls hl)
    · cases hB
  · unfold pb_is at hB
    split at hB
    · split at hB
      · rename_i hlt
        cases hB
        exact lv_istore hx hb hd hl.1 (Nat.lt_of_lt_of_le hlt hl.2.1) rfl (fun ls2 h2 => k ls2 (pb_lr_st1 hl.2.1 hl.2.2 rfl h2))
      · cases hB
    · cases hB
  · unfold pb_is at hB
    split at hB
    · split at hB
      · rename_i hlt
        cases hB
        exact lv_istore_n hx hb hd rfl hl.1 (Nat.lt_of_lt_of_le hlt hl.2.1) rfl (fun ls2 h2 => k ls2 (pb_lr_st1 hl.2.1 hl.2.2 rfl h2))
      · cases hB
    · cases hB
  · unfold pb_as at hB
    split at hB
    · split at hB
      · rename_i hlt
        cases hB
        exact lv_astore hx hb hd hl.1 (Nat.lt_of_lt_of_le hlt hl.2.1) rfl (fun ls2 h2 => k ls2 (pb_lr_st1 (v := .ref _) hl.2.1 hl.2.2 rfl h2))
      · cases hB
    · split at hB
      · rename_i hlt
        cases hB
        exact lv_astoreN hx hb hd hl.1 (Nat.lt_of_lt_of_le hlt hl.2.1) rfl (fun ls2 h2 => k ls2 (pb_lr_st1 (v := .null) hl.2.1 hl.2.2 rfl h2))
      · cases hB
    · cases hB
  · unfold pb_as at hB
    split at hB
    · split at hB
      · rename_i hlt
        cases hB
        exact lv_astore_n hx hb hd rfl hl.1 (Nat.lt_of_lt_of_le hlt hl.2.1) rfl (fun ls2 h2 => k ls2 (pb_lr_st1 (v := .ref _) hl.2.1 hl.2.2 rfl h2))
      · cases hB
    · split at hB
      · rename_i hlt
        cases hB
        exact lv_astore_nN hx hb hd rfl hl.1 (Nat.lt_of_lt_of_le hlt hl.2.1) rfl (fun ls2 h2 => k ls2 (pb_lr_st1 (v := .null) hl.2.1 hl.2.2 rfl h2))
      · cases hB
    · cases hB
  · unfold pb_ls at hB
    split at hB
    · split at hB
      · rename_i hlt
        cases hB
        exact lv_lstore hx hb hd hl.1 (Nat.lt_of_lt_of_le hlt hl.2.1) rfl (fun ls2 h2 => k ls2 (pb_lr_st2 hl.2.1 hl.2.2 h2))
      · cases hB
    · cases hB
  · unfold pb_ls at hB
    split at hB
    · split at hB
      · rename_i hlt
        cases hB
        exact lv_lstore_n hx hb hd rfl hl.1 (Nat.lt_of_lt_of_le hlt hl.2.1) rfl (fun ls2 h2 => k ls2 (pb_lr_st2 hl.2.1 hl.2.2 h2))
      · cases hB
    · cases hB
  · unfold pb_in at hB
    split at hB
    · rename_i k2 n2 x2 v hv
      cases hB
      have hm : (k2, pb_tv base b (.int v)) ∈ pb_lv base b L J := pb_lv_mem.mpr (Or.inl ⟨_, hv, rfl⟩)
      obtain ⟨j, hj⟩ := List.getElem?_of_mem hm
      exact lv_iinc hx hb hd hl.1 (k := j) hj rfl (Nat.lt_of_lt_of_le (List.getElem?_eq_some_iff.mp hv).1 hl.2.1) rfl (fun ls2 h2 => k ls2 (pb_lr_st1 (v := .int _) hl.2.1 hl.2.2 rfl h2))
    · cases hB
  · cases hB
theorem pb_go_inv {pc : Nat} {off : Int} {st : List Value} {q : Nat × List Value} (h : pb_go pc off st = some q) : (pc : Int) + off = (q.1 : Int) ∧ q.2 = st := by
  unfold pb_go at h
  split at h
  · rename_i h0
    cases h
    exact ⟨(Int.toNat_of_nonneg h0).symm, rfl⟩
  · cases h
theorem pb_W_C (hx : p.tables.exec = Jvm.exec) (hb : c.code = cc) {ins : Instr} {len r1 r2 : Nat} {kv : Int} {st : List Value} {q : Nat × List Value} (hC : pb_C (ins, len, r1, r2, kv) pc st = some q) (hd : decode cc pc = .ok (ins, len)) (hlen : pb_len ins = 0 ∨ len = pb_len ins) (hbr : pb_brk (pc, ins, len, r1, r2, kv) = true)
    (k : W p l e R s m args below meth c H locs cells slots Q (F0 m q.1 ls (q.2.map (pb_tv base b)))) : W p l e R s m args below meth c H locs cells slots Q (F0 m pc ls (st.map (pb_tv base b))) := by
  unfold pb_C at hC
  dsimp only at hC
  split at hC
  · obtain rfl : len = 3 := hlen.elim (fun h => by cases h) id
    obtain ⟨g1, g2⟩ := pb_go_inv hC
    rw [g2] at k
    exact lv_goto hx hb hd g1 k
  · obtain rfl : len = 3 := hlen.elim (fun h => by cases h) id
    rename_i cnd off
    have ht : (pc : Int) + off = ((((pc : Int) + off).toNat : Nat) : Int) := (Int.toNat_of_nonneg (of_decide_eq_true hbr)).symm
    split at hC
    · rename_i y x r
      by_cases hc : pb_cc cnd x y = true
      · rw [if_pos hc] at hC
        obtain ⟨g1, g2⟩ := pb_go_inv hC
        rw [g2] at k
        cases cnd
        · exact lv_icmp_eq hx hb hd g1 (fun _ => k) (fun h => absurd (of_decide_eq_true hc) h)
        · exact lv_icmp_ne hx hb hd g1 (fun _ => k) (fun h => absurd hc (by simp [pb_cc, h]))
        · exact lv_icmp_lt hx hb hd g1 (fun _ => k) (fun h => absurd (of_decide_eq_true hc) h)
        · exact lv_icmp_ge hx hb hd g1 (fun _ => k) (fun h => absurd (of_decide_eq_true hc) h)
        · exact lv_icmp_gt hx hb hd g1 (fun _ => k) (fun h => absurd (of_decide_eq_true hc) h)
        · exact lv_icmp_le hx hb hd g1 (fun _ => k) (fun h => absurd (of_decide_eq_true hc) h)
      · rw [if_neg hc] at hC
        cases hC
        cases cnd
        · exact lv_icmp_eq hx hb hd ht (fun h => absurd (decide_eq_true h) hc) (fun _ => k)
        · exact lv_icmp_ne hx hb hd ht (fun h => absurd (by simp [pb_cc, h]) hc) (fun _ => k)
        · exact lv_icmp_lt hx hb hd ht (fun h => absurd (decide_eq_true h) hc) (fun _ => k)
        · exact lv_icmp_ge hx hb hd ht (fun h => absurd (decide_eq_true h) hc) (fun _ => k)
        · exact lv_icmp_gt hx hb hd ht (fun h => absurd (decide_eq_true h) hc) (fun _ => k)
        · exact lv_icmp_le hx hb hd ht (fun h => absurd (decide_eq_true h) hc) (fun _ => k)
    · cases hC
  · obtain rfl : len = 3 := hlen.elim (fun h => by cases h) id
    rename_i cnd off
    have ht : (pc : Int) + off = ((((pc : Int) + off).toNat : Nat) : Int) := (Int.toNat_of_nonneg (of_decide_eq_true hbr)).symm
    split at hC
    · rename_i x r
      by_cases hc : pb_cc cnd x 0 = true
      · rw [if_pos hc] at hC
        obtain ⟨g1, g2⟩ := pb_go_inv hC
        rw [g2] at k
        cases cnd
        · exact lv_if_eq hx hb hd g1 (fun _ => k) (fun h => absurd (of_decide_eq_true hc) h)
        · exact lv_if_ne hx hb hd g1 (fun _ => k) (fun h => absurd hc (by simp [pb_cc, h]))
        · exact lv_if_lt hx hb hd g1 (fun _ => k) (fun h => absurd (of_decide_eq_true hc) h)
        · exact lv_if_ge hx hb hd g1 (fun _ => k) (fun h => absurd (of_decide_eq_true hc) h)
        · exact lv_if_gt hx hb hd g1 (fun _ => k) (fun h => absurd (of_decide_eq_true hc) h)
        · exact lv_if_le hx hb hd g1 (fun _ => k) (fun h => absurd (of_decide_eq_true hc) h)
      · rw [if_neg hc] at hC
        cases hC
        cases cnd
        · exact lv_if_eq hx hb hd ht (fun h => absurd (decide_eq_true h) hc) (fun _ => k)
        · exact lv_if_ne hx hb hd ht (fun h => absurd (by simp [pb_cc, h]) hc) (fun _ => k)
        · exact lv_if_lt hx hb hd ht (fun h => absurd (decide_eq_true h) hc) (fun _ => k)
        · exact lv_if_ge hx hb hd ht (fun h => absurd (decide_eq_true h) hc) (fun _ => k)
        · exact lv_if_gt hx hb hd ht (fun h => absurd (decide_eq_true h) hc) (fun _ => k)
        · exact lv_if_le hx hb hd ht (fun h => absurd (decide_eq_true h) hc) (fun _ => k)
    · cases hC
  · obtain rfl : len = 3 := hlen.elim (fun h => by cases h) id
    split at hC
    · obtain ⟨g1, g2⟩ := pb_go_inv hC
      rw [g2] at k
      exact lv_ifnullN hx hb hd g1 k
    · cases hC
      exact lv_ifnull hx hb hd k
    · cases hC
  · obtain rfl : len = 3 := hlen.elim (fun h => by cases h) id
    split at hC
    · obtain ⟨g1, g2⟩ := pb_go_inv hC
      rw [g2] at k
      exact lv_ifnonnull hx hb hd g1 k
    · cases hC
      exact lv_ifnonnullN hx hb hd k
    · cases hC
  · split at hC
    · split at hC
      · rename_i hout
        obtain ⟨g1, g2⟩ := pb_go_inv hC
        rw [g2] at k
        exact lv_tableOut hx hb hd hout g1 k
      · rename_i hin
        split at hC
        · rename_i off hoff
          obtain ⟨g1, g2⟩ := pb_go_inv hC
          rw [g2] at k
          exact lv_tableIn hx hb hd (fun h => hin (Or.inl h)) (fun h => hin (Or.inr h)) hoff g1 k
        · cases hC
    · cases hC
  · split at hC
    · split at hC
      · rename_i hso
        obtain ⟨g1, g2⟩ := pb_go_inv hC
        rw [g2] at k
        exact lv_lookup hx hb hd hso rfl g1 k
      · cases hC
    · cases hC
  · cases hC
end PS
