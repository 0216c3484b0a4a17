/-! The walk of a whole run, and the soundness of each method. -/
theorem pb_len_zero {ins : Instr} (h : pb_len ins = 0) : (∃ a b c d, ins = .tableswitch a b c d) ∨ ∃ d q, ins = .lookupswitch d q := by
  cases ins <;> first | exact Or.inl ⟨_, _, _, _, rfl⟩ | exact Or.inr ⟨_, _, rfl⟩ | (simp [pb_len] at h)
section PV
variable {p : Program} {l : Launch} {e : Env} {R : Room} {s : State} {m : MethodId} {args : Array Value} {below : List Frame} {meth : Method} {c : Code} {Q : State → Prop} {D : va_G} {dA : Nat → ClassId} {scr : Cell} {Ls : Nat} {xs : Nat → Int32} {base b : Nat}
set_option maxHeartbeats 1000000 in
theorem pb_W_ev (ok : pb_OK) {mk : Nat} (C : pb_Cx p R s m args meth c D dA scr Ls xs base b mk) (IH : ∀ k, k < mk → pb_Sound l D dA scr Ls xs base b k) (h0 : pb_H) (r : Option Value × pb_H) (hcap : r.2.1 - h0.1 ≤ R.cells ∧ pb_sl r.2 - pb_sl h0 ≤ R.slots)
    (fin : ∀ (pc : Nat) (x : pb_X) (st : List Value) (H : Heap) (locs : List Loc) (ls : Array Slot), pb_look mk pc = some x → pb_Rt (pb_rt mk) x st = some r.1 → pb_rep D dA base b Ls xs scr r.2 H → (∀ q ∈ locs, base ≤ q.base) → W p l e R s m args below meth c H locs (r.2.1 - h0.1) (pb_sl r.2 - pb_sl h0) Q (F0 m pc ls (st.map (pb_tv base b)))) :
    ∀ (n pc : Nat) (L : pb_L) (J : pb_J) (st : List Value) (h : pb_H) (H : Heap) (locs : List Loc) (ls : Array Slot), pb_ev n mk pc L J st h = some r → h0.1 ≤ h.1 → pb_sl h0 ≤ pb_sl h → pb_rep D dA base b Ls xs scr h H → (∀ q ∈ locs, base ≤ q.base) → pb_lr base b ls (pb_ml mk) L J → W p l e R s m args below meth c H locs (h.1 - h0.1) (pb_sl h - pb_sl h0) Q (F0 m pc ls (st.map (pb_tv base b))) := by
  intro n
  induction n with
  | zero => intro pc L J st h H locs ls hr; cases hr
  | succ n ih =>
    intro pc L J st h H locs ls hr g1 g2 hrep hlo hl
    rw [pb_ev] at hr
    cases hx : pb_look mk pc with
    | none => rw [hx] at hr; cases hr
    | some x =>
      rw [hx] at hr
      dsimp only at hr
      obtain ⟨g, hg⟩ := ok.1 mk _ (pb_look_mem hx)
      have hg0 := hg
      obtain ⟨hxe, hb, hml, hown, hts, hKK, hini, hfr, hlc, hbb⟩ := id C
      unfold pb_okb at hg
      rw [Bool.and_eq_true, Bool.and_eq_true] at hg
      obtain ⟨⟨hd, hlen⟩, hw⟩ := hg
      obtain ⟨ins, len, r1, r2, kv⟩ := x
      have hd : decode (pb_c mk) pc = .ok (ins, len) := of_decide_eq_true hd
      rw [Bool.or_eq_true, decide_eq_true_eq, decide_eq_true_eq] at hlen
      dsimp only at hlen hw hr
      cases hA : pb_A (ins, len, r1, r2, kv) st with
      | some st' =>
        rw [hA] at hr
        dsimp only at hr
        have hl2 : len = pb_len ins := by
          rcases hlen with h1 | h1
          · rcases pb_len_zero h1 with ⟨_, _, _, _, rfl⟩ | ⟨_, _, rfl⟩ <;> cases hA
          · exact h1
        subst hl2
        refine pb_W_A hxe hb hown hA hd (fun i hi => ?_) (fun i hi => ?_) (ih _ _ _ _ _ _ _ _ hr g1 g2 hrep hlo hl)
        · rcases hi with rfl | rfl
          · exact hts _ (pb_hin_of (hs := g) (k := 0) hw)
          · exact hts _ (pb_hin_of (hs := g) (k := 0) hw)
        · subst hi
          exact hts _ (pb_hin_of (hs := g) (k := 0) hw)
      | none =>
        rw [hA] at hr
        dsimp only at hr
        cases hB : pb_B (ins, len, r1, r2, kv) L J st with
        | some q =>
          rw [hB] at hr
          dsimp only at hr
          have hl2 : len = pb_len ins := by
            rcases hlen with h1 | h1
            · rcases pb_len_zero h1 with ⟨_, _, _, _, rfl⟩ | ⟨_, _, rfl⟩ <;> cases hB
            · exact h1
          rw [hl2] at hd hr
          exact pb_W_B (L' := q.1) (J' := q.2.1) (st' := q.2.2) hxe hb hl hB hd (fun ls' hl' => ih _ _ _ _ _ _ _ _ hr g1 g2 hrep hlo hl')
        | none =>
          rw [hB] at hr
          dsimp only at hr
          cases hC : pb_C (ins, len, r1, r2, kv) pc st with
          | some q =>
            rw [hC] at hr
            dsimp only at hr
            exact pb_W_C hxe hb hC hd hlen (pb_brk_at hx) (ih _ _ _ _ _ _ _ _ hr g1 g2 hrep hlo hl)
          | none =>
            rw [hC] at hr
            dsimp only at hr
            cases hD : pb_D (ins, len, r1, r2, kv) st h with
            | some q =>
              rw [hD] at hr
              dsimp only at hr
              have m1 := pb_D_mono (st' := q.1) (h' := q.2) hD
              have m2 := pb_ev_grows _ _ _ _ _ _ _ _ hr
              refine pb_W_D (st' := q.1) (h' := q.2) C hrep hlo (hl.1.1) hg0 hD (by omega) (by omega) (fun H1 locs1 hrep1 hlo1 => ?_)
              exact W.cs (by omega) (by omega) (ih _ _ _ _ _ _ _ _ hr (by omega) (by omega) hrep1 hlo1 hl)
            | none =>
              rw [hD] at hr
              dsimp only at hr
              cases hR : pb_Rt (pb_rt mk) (ins, len, r1, r2, kv) st with
              | some v =>
                rw [hR] at hr
                cases hr
                exact fin pc _ st H locs ls hx hR hrep hlo
              | none =>
                rw [hR] at hr
                dsimp only at hr
                cases hK : pb_K (ins, len, r1, r2, kv) st h with
                | none => rw [hK] at hr; cases hr
                | some q =>
                  rw [hK] at hr
                  dsimp only at hr
                  cases hE : pb_ev n q.1 0 (pb_eL q.1 q.2.1) (pb_eJ q.1 q.2.1) [] h with
                  | none => rw [hE] at hr; cases hr
                  | some r' =>
                    rw [hE] at hr
                    dsimp only at hr
                    have m1 := pb_ev_grows _ _ _ _ _ _ _ _ hE
                    have m2 := pb_ev_grows _ _ _ _ _ _ _ _ hr
                    refine pb_W_K ok C IH hx hl.1.1 hrep hK hE ⟨by omega, by omega⟩ hlo (fun H1 locs1 hrep1 hlo1 => ?_)
                    exact W.cs (by omega) (by omega) (ih _ _ _ _ _ _ _ _ hr (by omega) (by omega) hrep1 hlo1 hl)
theorem pb_fin (ok : pb_OK) {mk : Nat} (hxe : p.tables.exec = Jvm.exec) (hb : c.code = pb_c mk) (hrt : meth.sig.returnType = pb_rt mk) (hlocks : meth.locks = false) {pc : Nat} {x : pb_X} {st : List Value} {H : Heap} {locs : List Loc} {ls : Array Slot} {cells slots : Nat} {r : Option Value × pb_H} (hx : pb_look mk pc = some x) (hR : pb_Rt (pb_rt mk) x st = some r.1) (hrep : pb_rep D dA base b Ls xs scr r.2 H) (hlo : ∀ q ∈ locs, base ≤ q.base) :
    W p l e R s m args below meth c H locs cells slots (MQ below (pb_Qc D dA scr Ls xs base b r) args s cells slots (fun q => base ≤ q)) (F0 m pc ls (st.map (pb_tv base b))) := by
  obtain ⟨g, hg⟩ := ok.1 mk _ (pb_look_mem hx)
  have har := pb_ark_at hx
  unfold pb_okb at hg
  rw [Bool.and_eq_true, Bool.and_eq_true] at hg
  obtain ⟨⟨hd, hlen⟩, -⟩ := hg
  obtain ⟨ins, len, r1, r2, kv⟩ := x
  have hd : decode (pb_c mk) pc = .ok (ins, len) := of_decide_eq_true hd
  rw [Bool.or_eq_true, decide_eq_true_eq, decide_eq_true_eq] at hlen
  dsimp only at hlen
  obtain ⟨v, h2⟩ := r
  dsimp only at hR hrep
  have hq : ∀ w : Option Value, w = v.map (pb_tv base b) → ∀ t : State, t.heap = H → s.WarmedH t.vm → pb_Qc D dA scr Ls xs base b (v, h2) args s (.returned w) t := fun w hw t ht _ => ⟨by rw [hw], by rw [ht]; exact hrep⟩
  unfold pb_Rt at hR
  dsimp only at hR
  split at hR
  · obtain rfl : len = 1 := hlen.elim (fun h => by cases h) id
    split at hR
    · rename_i v0 ty ht
      split at hR
      · rename_i hn
        cases hR
        exact W.zret (ty := ty) hxe hb (by rw [hrt, ht]) hn (hq _ rfl) hlo hd hlocks
      · cases hR
    · cases hR
  · obtain rfl : len = 1 := hlen.elim (fun h => by cases h) id
    split at hR
    · rename_i v0 ht
      cases hR
      exact W.lret hxe hb (by rw [hrt, ht]) (hq _ rfl) hlo hd hlocks
    · cases hR
  · obtain rfl : len = 1 := hlen.elim (fun h => by cases h) id
    have hty : ∀ ty, pb_rt mk = some ty → (∃ n, ty = .object n) ∨ ∃ t, ty = .array t := by
      intro ty ht
      rw [ht] at har
      unfold pb_ark at har
      dsimp only at har
      cases ty <;> first | exact Or.inl ⟨_, rfl⟩ | exact Or.inr ⟨_, rfl⟩ | cases har
    split at hR
    · rename_i a ty ht
      cases hR
      exact W.aret hxe hb (by rw [hrt, ht]) (hty _ ht) (Or.inr ⟨_, rfl⟩) (hq _ rfl) hlo hd hlocks
    · rename_i ty ht
      cases hR
      exact W.aret hxe hb (by rw [hrt, ht]) (hty _ ht) (Or.inl rfl) (hq _ rfl) hlo hd hlocks
    · cases hR
  · obtain rfl : len = 1 := hlen.elim (fun h => by cases h) id
    split at hR
    · rename_i ht
      cases hR
      exact W.vret hxe hb (by rw [hrt, ht]) (hq _ rfl) hlo hd hlocks
    · cases hR
  · cases hR
end PV
theorem pb_el_mem {base b : Nat} : ∀ (as : List Value), as.all pb_okv = true → ∀ (i k : Nat) (v : Value), (pb_el as)[k]? = some (some v) → (i + k, pb_tv base b v) ∈ lv_args i (as.map (pb_tv base b)) ∧ v.category = 1
  | [], _, i, k, v, h => by simp [pb_el] at h
  | a :: as, hok, i, k, v, h => by
    rw [List.all_cons, Bool.and_eq_true] at hok
    have rec1 := pb_el_mem (base := base) (b := b) as hok.2
    have one : pb_el (a :: as) = some a :: pb_el as → a.category = 1 → (i + k, pb_tv base b v) ∈ lv_args i ((a :: as).map (pb_tv base b)) ∧ v.category = 1 := by
      intro e1 e2
      rw [e1] at h
      have e3 : ¬ (pb_tv base b a).category = 2 := by rw [pb_tv_cat, e2]; decide
      rw [List.map_cons, lv_args, if_neg e3]
      cases k with
      | zero => cases h; exact ⟨List.mem_cons_self, e2⟩
      | succ k =>
        have h9 := rec1 (i + 1) k v h
        rw [show i + (k + 1) = i + 1 + k by omega]
        exact ⟨List.mem_cons_of_mem _ h9.1, h9.2⟩
    cases a with
    | int x => exact one rfl rfl
    | ref x => exact one rfl rfl
    | null => exact one rfl rfl
    | long x =>
      have h' : (none :: none :: pb_el as : pb_L)[k]? = some (some v) := h
      rw [List.map_cons, lv_args, if_pos (by rfl)]
      match k, h' with
      | 0, h' => cases h'
      | 1, h' => cases h'
      | k + 2, h' =>
        have h9 := rec1 (i + 2) k v h'
        rw [show i + (k + 2) = i + 2 + k by omega]
        exact ⟨List.mem_cons_of_mem _ h9.1, h9.2⟩
    | float x => cases hok.1
    | double x => cases hok.1
    | retAddr x => cases hok.1
theorem pb_ej_mem {base b : Nat} : ∀ (as : List Value), as.all pb_okv = true → ∀ (i k : Nat) (v : Int64), (pb_ej as)[k]? = some (some v) → (i + k, Value.long v) ∈ lv_args i (as.map (pb_tv base b))
  | [], _, i, k, v, h => by simp [pb_ej] at h
  | a :: as, hok, i, k, v, h => by
    rw [List.all_cons, Bool.and_eq_true] at hok
    have rec1 := pb_ej_mem (base := base) (b := b) as hok.2
    have one : pb_ej (a :: as) = none :: pb_ej as → a.category = 1 → (i + k, Value.long v) ∈ lv_args i ((a :: as).map (pb_tv base b)) := by
      intro e1 e2
      rw [e1] at h
      have e3 : ¬ (pb_tv base b a).category = 2 := by rw [pb_tv_cat, e2]; decide
      rw [List.map_cons, lv_args, if_neg e3]
      cases k with
      | zero => cases h
      | succ k =>
        have h9 := rec1 (i + 1) k v h
        rw [show i + (k + 1) = i + 1 + k by omega]
        exact List.mem_cons_of_mem _ h9
    cases a with
    | int x => exact one rfl rfl
    | ref x => exact one rfl rfl
    | null => exact one rfl rfl
    | long x =>
      have h' : (some x :: none :: pb_ej as : pb_J)[k]? = some (some v) := h
      rw [List.map_cons, lv_args, if_pos (by rfl)]
      match k, h' with
      | 0, h' => cases h'; exact List.mem_cons_self
      | 1, h' => cases h'
      | k + 2, h' =>
        have h9 := rec1 (i + 2) k v h'
        rw [show i + (k + 2) = i + 2 + k by omega]
        exact List.mem_cons_of_mem _ h9
    | float x => cases hok.1
    | double x => cases hok.1
    | retAddr x => cases hok.1
theorem pb_el_len {base b : Nat} : ∀ (as : List Value), as.all pb_okv = true → (lg_sl (as.map (pb_tv base b))).length = (pb_el as).length
  | [], _ => rfl
  | a :: as, hok => by
    rw [List.all_cons, Bool.and_eq_true] at hok
    have rec1 := pb_el_len (base := base) (b := b) as hok.2
    have e1 : ∀ v : Value, (lg_sl (v :: as.map (pb_tv base b))).length = (if v.category = 2 then 2 else 1) + (lg_sl (as.map (pb_tv base b))).length := by
      intro v
      unfold lg_sl
      rw [List.flatMap_cons, List.length_append]
      congr 1
      split <;> rfl
    rw [List.map_cons, e1, rec1, pb_tv_cat]
    cases a with
    | int x => show 1 + _ = (pb_el as).length + 1; omega
    | ref x => show 1 + _ = (pb_el as).length + 1; omega
    | null => show 1 + _ = (pb_el as).length + 1; omega
    | long x => show 2 + _ = (pb_el as).length + 1 + 1; omega
    | float x => cases hok.1
    | double x => cases hok.1
    | retAddr x => cases hok.1
theorem pb_entry {base b c : Nat} {as : List Value} {ls : Array Slot} (hok : as.all pb_okv = true) (hlen : (pb_el as).length ≤ pb_ml c) (h : lv_has ls (pb_ml c) (lv_args 0 (as.map (pb_tv base b)))) : pb_lr base b ls (pb_ml c) (pb_eL c as) (pb_eJ c as) := by
  have hL : ∀ (k : Nat) (v : Value), (pb_eL c as)[k]? = some (some v) → (pb_el as)[k]? = some (some v) := by
    intro k v hv
    unfold pb_eL at hv
    by_cases hk : k < (pb_el as).length
    · rw [List.getElem?_append_left hk] at hv; exact hv
    · rw [List.getElem?_append_right (by omega)] at hv
      have := List.eq_of_mem_replicate (List.mem_of_getElem? hv)
      cases this
  have hJ : ∀ (k : Nat) (v : Int64), (pb_eJ c as)[k]? = some (some v) → (pb_ej as)[k]? = some (some v) := by
    intro k v hv
    unfold pb_eJ at hv
    split at hv
    · by_cases hk : k < (pb_ej as).length
      · rw [List.getElem?_append_left hk] at hv; exact hv
      · rw [List.getElem?_append_right (by omega)] at hv
        have := List.eq_of_mem_replicate (List.mem_of_getElem? hv)
        cases this
    · cases hv
  refine ⟨pb_lv_has_sub h ?_, ?_, fun k v hv => (pb_el_mem (base := base) (b := b) as hok 0 k v (hL k v hv)).2⟩
  · rintro ⟨k, w⟩ hq
    rcases pb_lv_mem.mp hq with ⟨v, hv, rfl⟩ | ⟨v, hv, rfl⟩
    · have := (pb_el_mem (base := base) (b := b) as hok 0 k v (hL k v hv)).1
      rwa [Nat.zero_add] at this
    · have := pb_ej_mem (base := base) (b := b) as hok 0 k v (hJ k v hv)
      rwa [Nat.zero_add] at this
  · unfold pb_eL
    rw [List.length_append, List.length_replicate]
    omega
theorem pb_sound_step (ok : pb_OK) (l : Launch) (D : va_G) (dA : Nat → ClassId) (scr : Cell) (Ls : Nat) (xs : Nat → Int32) (base b : Nat) (k : Nat) (hk : k < 225) (IH : ∀ j, j < k → pb_Sound l D dA scr Ls xs base b j) : pb_Sound l D dA scr Ls xs base b k := by
  intro as h n r hE hlen hok hbb
  obtain ⟨hs, hmo⟩ := ok.2 k hk
  unfold pb_mok at hmo
  simp only [Bool.and_eq_true, decide_eq_true_eq] at hmo
  obtain ⟨⟨⟨⟨⟨⟨m1, m2⟩, m3⟩, m4⟩, m5⟩, m6⟩, -⟩ := hmo
  refine Met.ofW (cc := pb_c k) (maxL := pb_ml k) (ret := pb_rt k) m3 rfl ?_
  intro p e s m args below meth c s₁ B hml hv
  obtain ⟨rfl, hrep, hKK⟩ := hv
  have hts0 := atoms_spec (ws := pb_ws k) B.pre
  have hown : s.vm.findClass (pb_y k).cls = some m.cls := findClass_of_methodNamed B.named
  have hl := lv_entry (as.map (pb_tv base b)) (n := pb_ml k) (by rw [pb_el_len as hok]; exact hlen)
  rw [lg_entry_eq]
  generalize (lg_sl (as.map (pb_tv base b)) ++ List.replicate (pb_ml k - (lg_sl (as.map (pb_tv base b))).length) Slot.unset).toArray = ls at hl ⊢
  have C : pb_Cx p (pb_rm k (r.2.1 - h.1) (pb_sl r.2 - pb_sl h)) s m ((as.map (pb_tv base b)).toArray) meth c D dA scr Ls xs base b k := ⟨B.exec, B.bytes, hml, hown, fun w hw => hts0 w (List.mem_cons_of_mem _ hw), hKK, fun hi => by rw [(name_of_methodNamed B.named B.method).1]; exact hi, Nat.le_refl _, Nat.le_refl _, hbb⟩
  have hW := pb_W_ev (below := below) (e := e) (l := l) (Q := MQ below (pb_Qc D dA scr Ls xs base b r) ((as.map (pb_tv base b)).toArray) s (r.2.1 - h.1) (pb_sl r.2 - pb_sl h) (fun q => base ≤ q)) ok C IH h r ⟨Nat.le_refl _, Nat.le_refl _⟩ (fun pc x st H locs ls hx hR hrep2 hlo => pb_fin ok B.exec B.bytes B.returns B.notSynchronized hx hR hrep2 hlo) n 0 _ _ [] h s.heap [] ls hE (Nat.le_refl _) (Nat.le_refl _) hrep (fun q hq => by cases hq) (pb_entry hok hlen hl)
  rw [Nat.sub_self, Nat.sub_self] at hW
  exact hW
theorem pb_sound_all (ok : pb_OK) (l : Launch) (D : va_G) (dA : Nat → ClassId) (scr : Cell) (Ls : Nat) (xs : Nat → Int32) (base b : Nat) : ∀ k, k < 225 → pb_Sound l D dA scr Ls xs base b k := by
  intro k
  induction k using Nat.strongRecOn with
  | ind k ih => intro hk; exact pb_sound_step ok l D dA scr Ls xs base b k hk (fun j hj => ih j hj (by omega))
