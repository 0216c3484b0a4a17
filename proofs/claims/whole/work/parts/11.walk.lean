/-! From the small machine's run to the large one's: the walk of a method, by its callees' soundness. -/
def pb_OK : Prop := (∀ (m : Nat), ∀ q ∈ pb_t m, ∃ g, pb_okb (pb_y m) (pb_c m) (pb_nd m) m q g = true) ∧ ∀ (c : Nat), c < 225 → ∃ hs, pb_mok (pb_y c) (pb_c c) (pb_ml c) (pb_na c) (pb_rt c) (pb_kd c) (pb_ci c) hs = true
def pb_ark (t : Option FieldType) (q : Nat × pb_X) : Bool := match q.2.1 with
  | .areturn => match t with
    | some (.object _) => true
    | some (.array _) => true
    | _ => false
  | _ => true
theorem pb_arks : (pb_T.zip pb_rts).all (fun z => z.1.all (pb_ark z.2)) = true := by decide +kernel
theorem pb_T_len : pb_T.length = 226 ∧ pb_rts.length = 226 := by decide +kernel
theorem pb_ark_at {m pc : Nat} {x : pb_X} (h : pb_look m pc = some x) : pb_ark (pb_rt m) (pc, x) = true := by
  have h1 := pb_look_mem h
  unfold pb_t at h1
  rw [List.getD_eq_getElem?_getD] at h1
  cases hm : pb_T[m]? with
  | none => rw [hm] at h1; cases h1
  | some t =>
    rw [hm] at h1
    have hlt : m < 226 := by rw [← pb_T_len.1]; exact (List.getElem?_eq_some_iff.mp hm).1
    obtain ⟨rt, hrt⟩ : ∃ rt, pb_rts[m]? = some rt := ⟨_, List.getElem?_eq_getElem (by rw [pb_T_len.2]; exact hlt)⟩
    have hz : (pb_T.zip pb_rts)[m]? = some (t, rt) := List.getElem?_zip_eq_some.mpr ⟨hm, hrt⟩
    have h2 := List.all_eq_true.mp (List.all_eq_true.mp pb_arks _ (List.mem_of_getElem? hz)) _ h1
    have e : pb_rt m = rt := by
      unfold pb_rt
      rw [List.getD_eq_getElem?_getD, hrt]
      rfl
    rw [e]
    exact h2
theorem pb_good (c : Nat) (hc : Cond.code (pb_y c) (pb_c c) (pb_ml c) (pb_rt c) ∈ pb_W) : GoodIn pb_W (pb_ws c) := by
  intro w hw
  have hm : w ∈ pb_W := by
    rcases List.mem_cons.mp hw with rfl | h
    · exact hc
    · exact h
  exact ⟨hm, good_of_word (List.mem_filter.mp hm).2⟩
theorem pb_blind {D : va_G} {dA : Nat → ClassId} {scr : Cell} {Ls : Nat} {xs : Nat → Int32} {base b : Nat} {as : List Value} {h : pb_H} : FrameBlind (pb_Pc D dA scr Ls xs base b as h) := fun _ U g mk q => ⟨q.1, q.2.1, pb_KK_same (s := U) (U := U.calling g mk _) rfl q.2.2⟩
theorem pb_K_inv {x : pb_X} {st : List Value} {h : pb_H} {q : Nat × List Value × List Value} (hK : pb_K x st h = some q) : q = (x.2.2.1, (st.take x.2.2.2.1).reverse, st.drop x.2.2.2.1) ∧ x.2.2.2.1 ≤ st.length ∧ pb_cat (st.drop x.2.2.2.1) ≤ 8 ∧ x.2.2.1 < 1000 ∧ (pb_el (st.take x.2.2.2.1).reverse).length ≤ pb_ml x.2.2.1 ∧ (st.take x.2.2.2.1).all pb_okv = true ∧
    ((∃ i, x.1 = .invokestatic i) ∨ (∃ i a r, x.1 = .invokespecial i ∧ (st.take x.2.2.2.1).reverse = .ref a :: r) ∨ (∃ i a r, x.1 = .invokevirtual i ∧ (st.take x.2.2.2.1).reverse = .ref a :: r ∧ pb_is0 (h.2 a) (pb_ci x.2.2.1) = true)) := by
  unfold pb_K at hK
  split at hK
  · rename_i i hi
    split at hK
    · rename_i hc
      cases hK
      exact ⟨rfl, hc.1, hc.2.1, hc.2.2.1, hc.2.2.2.1, hc.2.2.2.2, Or.inl ⟨i, hi⟩⟩
    · cases hK
  · rename_i i hi
    split at hK
    · rename_i a r hr
      split at hK
      · rename_i hc
        cases hK
        exact ⟨rfl, hc.1, hc.2.1, hc.2.2.1, hc.2.2.2.1, hc.2.2.2.2, Or.inr (Or.inl ⟨i, a, r, hi, hr⟩)⟩
      · cases hK
    · cases hK
  · rename_i i hi
    split at hK
    · rename_i a r hr
      split at hK
      · rename_i hc
        cases hK
        exact ⟨rfl, hc.1, hc.2.1, hc.2.2.1, hc.2.2.2.1.1, hc.2.2.2.1.2, Or.inr (Or.inr ⟨i, a, r, hi, hr, hc.2.2.2.2⟩)⟩
      · cases hK
    · cases hK
  · cases hK
section PW
variable {p : Program} {l : Launch} {e : Env} {R : Room} {s : State} {m : MethodId} {args : Array Value} {below : List Frame} {meth : Method} {c : Code} {H : Heap} {locs : List Loc} {cells slots : Nat} {Q : State → Prop} {rest : List Value}
theorem pb_callZ {Qa : State → Outcome → State → Prop} {free : Addr → Prop} {mc ms : Nat} {g : JFrame} (hr : va_Run p l e R s m args below meth c H locs cells slots mc ms g rest Qa free)
    (kk : ∀ (v : Option Value) (st₀ t : State) (L : List Loc), st₀.heap = H → (∀ q ∈ L, free q.base) → Qa st₀ (.returned v) t → W p l e R s m args below meth c t.heap (locs ++ L) (cells + mc) (slots + ms) Q { g with pc := g.pc + 3, stack := v.toList ++ rest }) : W p l e R s m args below meth c H locs cells slots Q g := by
  intro T hT X
  obtain ⟨v, st₀, t, T', L, h0, X', hL, e1, e2, hq, st⟩ := hr T hT X
  obtain ⟨t2, a1, b1⟩ := kk v st₀ t L h0 hL hq T' e1 X'
  exact ⟨t2, st t2 a1, b1⟩
variable {D : va_G} {dA : Nat → ClassId} {scr : Cell} {Ls : Nat} {xs : Nat → Int32} {base b : Nat}
set_option maxHeartbeats 1000000 in
theorem pb_W_K (ok : pb_OK) {mk : Nat} (C : pb_Cx p R s m args meth c D dA scr Ls xs base b mk) (IH : ∀ k, k < mk → pb_Sound l D dA scr Ls xs base b k) {pc : Nat} {x : pb_X} (hlk : pb_look mk pc = some x) {h : pb_H} {ls : Array Slot} (hls : ls.size = pb_ml mk) (hr : pb_rep D dA base b Ls xs scr h H) {st : List Value} {q : Nat × List Value × List Value} (hK : pb_K x st h = some q) {n : Nat} {r : Option Value × pb_H} (hE : pb_ev n q.1 0 (pb_eL q.1 q.2.1) (pb_eJ q.1 q.2.1) [] h = some r)
    (hcap : cells + (r.2.1 - h.1) ≤ R.cells ∧ slots + (pb_sl r.2 - pb_sl h) ≤ R.slots) (hlo : ∀ q ∈ locs, base ≤ q.base)
    (k : ∀ (H1 : Heap) (locs1 : List Loc), pb_rep D dA base b Ls xs scr r.2 H1 → (∀ q ∈ locs1, base ≤ q.base) → W p l e R s m args below meth c H1 locs1 (cells + (r.2.1 - h.1)) (slots + (pb_sl r.2 - pb_sl h)) Q (F0 m (pc + x.2.1) ls ((r.1.toList ++ q.2.2).map (pb_tv base b)))) : W p l e R s m args below meth c H locs cells slots Q (F0 m pc ls (st.map (pb_tv base b))) := by
  obtain ⟨hq, k1, k2, k3, k4, k5, kind⟩ := pb_K_inv hK
  obtain ⟨ins, len, r1, r2, kv⟩ := x
  dsimp only at hq k1 k2 k3 k4 k5 kind k
  subst hq
  dsimp only at hE k
  obtain ⟨g, hg⟩ := ok.1 mk _ (pb_look_mem hlk)
  obtain ⟨hx, hb, hml, hown, hts, hKK, hini, hfr, hlc, hbb⟩ := C
  unfold pb_okb at hg
  rw [Bool.and_eq_true, Bool.and_eq_true] at hg
  obtain ⟨⟨hd, hlen⟩, hw⟩ := hg
  have hd : decode (pb_c mk) pc = .ok (ins, len) := of_decide_eq_true hd
  rw [Bool.or_eq_true, decide_eq_true_eq, decide_eq_true_eq] at hlen
  dsimp only at hlen hw
  have hst : st.map (pb_tv base b) = (((st.take r2).reverse).map (pb_tv base b)).reverse ++ (st.drop r2).map (pb_tv base b) := by
    rw [List.map_reverse, List.reverse_reverse, ← List.map_append, List.take_append_drop]
  have hcat : (List.map (fun v => v.category) ((st.drop r2).map (pb_tv base b))).sum ≤ 8 := by
    rw [List.map_map]
    have e9 : List.map ((fun v => v.category) ∘ pb_tv base b) (st.drop r2) = List.map (fun v => v.category) (st.drop r2) := by
      apply List.map_congr_left
      intro v _
      exact pb_tv_cat base b v
    rw [e9]
    exact k2
  have hal : ((st.take r2).reverse).length = r2 := by rw [List.length_reverse, List.length_take]; omega
  have hok5 : ((st.take r2).reverse).all pb_okv = true := by rw [List.all_reverse]; exact k5
  have kk : ∀ (v : Option Value) (st₀ t : State) (L : List Loc), st₀.heap = H → (∀ q ∈ L, base ≤ q.base) → pb_Qc D dA scr Ls xs base b r (((st.take r2).reverse).map (pb_tv base b)).toArray st₀ (.returned v) t → W p l e R s m args below meth c t.heap (locs ++ L) (cells + (r.2.1 - h.1)) (slots + (pb_sl r.2 - pb_sl h)) Q { F0 m pc ls (st.map (pb_tv base b)) with pc := pc + len, stack := v.toList ++ (st.drop r2).map (pb_tv base b) } := by
    intro v st₀ t L _ hL hQ
    obtain ⟨e1, e2⟩ := hQ
    have e1 : v = r.1.map (pb_tv base b) := by injection e1
    have e3 : v.toList ++ (st.drop r2).map (pb_tv base b) = (r.1.toList ++ st.drop r2).map (pb_tv base b) := by
      rw [e1, List.map_append]
      congr 1
      cases r.1 <;> rfl
    rw [e3]
    exact k t.heap (locs ++ L) e2 (fun q hq => (List.mem_append.mp hq).elim (hlo q) (hL q))
  have hpre : ∀ U : State, U.heap = H → s.WarmedH U.vm → pb_Pc D dA scr Ls xs base b ((st.take r2).reverse) h (((st.take r2).reverse).map (pb_tv base b)).toArray U := fun U hU hW => ⟨rfl, by rw [hU]; exact hr, pb_KK_warm hW hKK⟩
  rcases kind with ⟨i, hi⟩ | ⟨i, a, as', hi, has⟩ | ⟨i, a, as', hi, has, his⟩
  · subst hi
    obtain rfl : len = 3 := hlen.elim (fun h => by cases h) id
    dsimp only at hw
    rw [if_neg (by omega), if_neg (by omega), if_neg (by omega), if_neg (by omega)] at hw
    simp only [Bool.and_eq_true, decide_eq_true_eq] at hw
    obtain ⟨⟨⟨w1, w2⟩, w3⟩, w4⟩ := hw
    unfold pb_sok at w1
    simp only [Bool.and_eq_true, decide_eq_true_eq] at w1
    obtain ⟨⟨v1, v2⟩, v3⟩ := w1
    have hlt : r1 < 225 := by
      have h9 := pb_look_mem hlk
      unfold pb_t at h9
      rw [List.getD_eq_getElem?_getD] at h9
      cases hm : pb_T[mk]? with
      | none => rw [hm] at h9; cases h9
      | some t =>
        have := (List.getElem?_eq_some_iff.mp hm).1
        rw [pb_T_len.1] at this
        omega
    obtain ⟨hs, hmo⟩ := ok.2 r1 hlt
    unfold pb_mok at hmo
    rw [w2] at hmo
    simp only [Bool.and_eq_true, decide_eq_true_eq] at hmo
    obtain ⟨⟨⟨⟨⟨⟨m1, m2⟩, m3⟩, m4⟩, m5⟩, m6⟩, m7⟩ := hmo
    have hM := IH r1 v1 _ h n r hE k4 hok5 hbb
    have cb : CallB R s args (pb_y mk).cls i (pb_y r1) (pb_c r1) (pb_ml r1) (pb_rt r1) (pb_ws r1) (pb_rm r1 (r.2.1 - h.1) (pb_sl r.2 - pb_sl h)) (r.2.1 - h.1) (pb_sl r.2 - pb_sl h) r2 := callB_of r2 hts (pb_good r1 (pb_hin_of m6)) rfl rfl rfl (hts _ (pb_hin_of m5)) (hts _ (pb_hin_of w4)) ⟨m1, m2, by rw [m4, w3]⟩ ⟨by show (pb_nd r1).1 + 1 ≤ _; omega, by show 8 + (pb_ml r1 + 11) + (pb_nd r1).2 ≤ _; omega⟩
    rw [hst] at kk ⊢
    exact pb_callY (W.runS (Ts := pb_W) ⟨hx, hb, hml, hown, hts⟩ hM ⟨cb, hts _ (pb_hin_of m7)⟩ ⟨pb_blind, hpre⟩ rfl (by rw [List.length_map]; exact hal) hls rfl (lv_room hcat) hd hcap) kk
  · subst hi
    obtain rfl : len = 3 := hlen.elim (fun h => by cases h) id
    dsimp only at hw
    rw [if_neg (by omega)] at hw
    simp only [Bool.and_eq_true, Bool.or_eq_true, decide_eq_true_eq] at hw
    obtain ⟨⟨⟨w1, w2⟩, w3⟩, w4⟩ := hw
    unfold pb_sok at w1
    simp only [Bool.and_eq_true, decide_eq_true_eq] at w1
    obtain ⟨⟨v1, v2⟩, v3⟩ := w1
    have hlt : r1 < 225 := by
      have h9 := pb_look_mem hlk
      unfold pb_t at h9
      rw [List.getD_eq_getElem?_getD] at h9
      cases hm : pb_T[mk]? with
      | none => rw [hm] at h9; cases h9
      | some t =>
        have := (List.getElem?_eq_some_iff.mp hm).1
        rw [pb_T_len.1] at this
        omega
    obtain ⟨hs, hmo⟩ := ok.2 r1 hlt
    unfold pb_mok at hmo
    rw [w2] at hmo
    simp only [Bool.and_eq_true, decide_eq_true_eq] at hmo
    obtain ⟨⟨⟨⟨⟨⟨m1, m2⟩, m3⟩, m4⟩, m5⟩, m6⟩, ⟨m7, m8⟩, m9⟩ := hmo
    have hM := IH r1 v1 _ h n r hE k4 hok5 hbb
    have hal2 : (as'.map (pb_tv base b)).length = pb_na r1 := by
      rw [has, List.length_cons] at hal
      rw [List.length_map]
      omega
    rw [has] at hst kk hpre hM
    have hst2 : st.map (pb_tv base b) = (as'.map (pb_tv base b)).reverse ++ .ref (pb_ad base b a) :: (st.drop r2).map (pb_tv base b) := by
      rw [hst, List.map_cons, List.reverse_cons, List.append_assoc]
      rfl
    rw [m9] at m6
    rw [hst2] at kk ⊢
    have hgood := pb_good r1 (by rw [m9]; exact pb_hin_of m6)
    have hwe : pb_ws r1 = Cond.code (pb_y r1) (pb_c r1) (pb_ml r1) none :: pb_W := by unfold pb_ws; rw [m9]
    have hro : (pb_rm r1 (r.2.1 - h.1) (pb_sl r.2 - pb_sl h)).frames + 1 ≤ R.frames ∧ 8 + (pb_ml r1 + 11) + (pb_rm r1 (r.2.1 - h.1) (pb_sl r.2 - pb_sl h)).locals ≤ R.locals := ⟨by show (pb_nd r1).1 + 1 ≤ _; omega, by show 8 + (pb_ml r1 + 11) + (pb_nd r1).2 ≤ _; omega⟩
    rcases w4 with w4 | w4
    · have cb : CallB R s args (pb_y mk).cls i (pb_y r1) (pb_c r1) (pb_ml r1) none (pb_ws r1) (pb_rm r1 (r.2.1 - h.1) (pb_sl r.2 - pb_sl h)) (r.2.1 - h.1) (pb_sl r.2 - pb_sl h) (pb_na r1) := callB_of (pb_na r1) hts hgood hwe rfl rfl (hts _ (pb_hin_of m5)) (hts _ (pb_hin_of w4)) ⟨m1, m2, m4⟩ hro
      exact pb_callY (W.runI (Ts := pb_W) ⟨hx, hb, hml, hown, hts⟩ hM ⟨cb, m8, hts _ (pb_hin_of m7)⟩ ⟨pb_blind, hpre⟩ rfl hal2 hls rfl (lv_room hcat) hd hcap) kk
    · have hnw : va_Nw (.methodLinkNest (pb_y mk).cls i (pb_y r1) "PlaneBench") s := by
        unfold pb_NW at w4
        rcases List.mem_cons.mp w4 with h1 | w4
        · rw [h1]; exact hKK.2.2.1
        rcases List.mem_cons.mp w4 with h1 | w4
        · rw [h1]; exact hKK.2.2.2.1
        rcases List.mem_cons.mp w4 with h1 | w4
        · rw [h1]; exact hKK.2.2.2.2.1
        rcases List.mem_cons.mp w4 with h1 | w4
        · cases h1
        · cases w4
      have cb := va_cnB (R := R) (bytes := pb_c r1) (maxL := pb_ml r1) (ret := none) (rm := pb_rm r1 (r.2.1 - h.1) (pb_sl r.2 - pb_sl h)) (pb_na r1) hts hgood hwe rfl rfl hnw (hts _ (pb_hin_of m5)) ⟨m1, m2, m4⟩ hro
      exact pb_callZ (va_runIN (Ts := pb_W) ⟨hx, hb, hml, hown, hts⟩ hM ⟨cb, m8, hts _ (pb_hin_of m7)⟩ ⟨pb_blind, hpre⟩ rfl hal2 hls rfl (lv_room hcat) hd hcap) kk
  · subst hi
    obtain rfl : len = 3 := hlen.elim (fun h => by cases h) id
    dsimp only at hw
    simp only [Bool.and_eq_true, Bool.or_eq_true, decide_eq_true_eq] at hw
    rcases hw with hw | hw
    · omega
    obtain ⟨⟨⟨w1, w2⟩, w3⟩, w4⟩ := hw
    unfold pb_sok at w1
    simp only [Bool.and_eq_true, decide_eq_true_eq] at w1
    obtain ⟨⟨v1, v2⟩, v3⟩ := w1
    have hlt : r1 < 225 := by
      have h9 := pb_look_mem hlk
      unfold pb_t at h9
      rw [List.getD_eq_getElem?_getD] at h9
      cases hm : pb_T[mk]? with
      | none => rw [hm] at h9; cases h9
      | some t =>
        have := (List.getElem?_eq_some_iff.mp hm).1
        rw [pb_T_len.1] at this
        omega
    obtain ⟨hs, hmo⟩ := ok.2 r1 hlt
    unfold pb_mok at hmo
    rw [w2] at hmo
    simp only [Bool.and_eq_true, decide_eq_true_eq] at hmo
    obtain ⟨⟨⟨⟨⟨⟨m1, m2⟩, m3⟩, m4⟩, m5⟩, m6⟩, ⟨⟨m7, m8⟩, m9⟩, m10⟩ := hmo
    have hM := IH r1 v1 _ h n r hE k4 hok5 hbb
    have hal2 : (as'.map (pb_tv base b)).length = pb_na r1 := by
      rw [has, List.length_cons] at hal
      rw [List.length_map]
      omega
    rw [has] at hst kk hpre hM
    have hst2 : st.map (pb_tv base b) = (as'.map (pb_tv base b)).reverse ++ .ref (pb_ad base b a) :: (st.drop r2).map (pb_tv base b) := by
      rw [hst, List.map_cons, List.reverse_cons, List.append_assoc]
      rfl
    rw [hst2] at kk ⊢
    have hro : (pb_rm r1 (r.2.1 - h.1) (pb_sl r.2 - pb_sl h)).frames + 1 ≤ R.frames ∧ 8 + (pb_ml r1 + 11) + (pb_rm r1 (r.2.1 - h.1) (pb_sl r.2 - pb_sl h)).locals ≤ R.locals := ⟨by show (pb_nd r1).1 + 1 ≤ _; omega, by show 8 + (pb_ml r1 + 11) + (pb_nd r1).2 ≤ _; omega⟩
    have cb : CallB R s args (pb_y mk).cls i (pb_y r1) (pb_c r1) (pb_ml r1) (pb_rt r1) (pb_ws r1) (pb_rm r1 (r.2.1 - h.1) (pb_sl r.2 - pb_sl h)) (r.2.1 - h.1) (pb_sl r.2 - pb_sl h) (pb_na r1) := callB_of (pb_na r1) hts (pb_good r1 (pb_hin_of m6)) rfl rfl rfl (hts _ (pb_hin_of m5)) (hts _ (pb_hin_of w4)) ⟨m1, m2, m4⟩ hro
    have hcell : ∃ cellB : Cell, H[pb_ad base b a]? = some cellB ∧ cellB.vm.isStatics = false ∧ s.vm.findClass (pb_y r1).cls = some cellB.cls := by
      obtain ⟨fs, hfs⟩ : ∃ fs, h.2 a = .inr (pb_ci r1, fs) := by
        unfold pb_is0 at his
        split at his
        · rename_i cj fs hcv
          have := of_decide_eq_true his
          subst this
          exact ⟨fs, hcv⟩
        · cases his
      obtain ⟨b1, b2⟩ := pb_rep_obj hr hfs (by omega)
      have hat := hr.2.1 a b1 b2
      rw [hfs] at hat
      obtain ⟨q', h1, cell, g1, g2, g3, -⟩ := hat
      exact ⟨cell, g1, by rw [g3]; rfl, by rw [g2, ← m10]; exact (hKK.1.1 (pb_ci r1) _ (pb_cl3_at _ m9)).2.1⟩
    exact pb_callY (W.runV (Ts := pb_W) (C := (pb_y r1).cls) ⟨hx, hb, hml, hown, hts⟩ hM ⟨cb, hts _ (pb_hin_of m7), hts _ (pb_hin_of m8)⟩ ⟨pb_blind, hcell, hpre⟩ rfl hal2 hls rfl (lv_room hcat) hd hcap) kk
end PW
