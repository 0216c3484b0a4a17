/-! THE CLAIM OUT OF ONE WALK OF THE LAW'S BODY. Your part is whole_start (and what it stands on); all else here is the same for every law, but numbers. -/
def R_law : String := "PlaneBenchLaw"
def lw_P (b : Addr) (xs : List Int32) (args : Array Value) (s : State) : Prop := args = #[.ref b] ∧ s.IntsAt b xs ∧ xs.length ≤ 3073 ∧ (Jvm.Cond.and given_1 narrow_1).before args s = true
def lw_Q (_ : Array Value) (s : State) (o : Outcome) (t : State) : Prop := o = .returned (some (.int 1)) ∧ Framed s o t [] 600000 7302250
def lw_Z (below : List Frame) (a : Array Value) (s : State) : State → Prop := fun t => ∃ o, t.status = .running ∧ Ended t below o ∧ lw_Q a s o t
/-- the law's own end, with 1 on the stack, nothing written that was there before, its room as the claim has it -/
theorem lw_ret {p : Program} {l : Launch} {e : Env} {s : State} {m : MethodId} {below : List Frame} {meth : Method} {c : Code} {b : Nat} (hx : p.tables.exec = Jvm.exec) (hb : c.code = code) (hr : meth.sig.returnType = ret) (hlocks : meth.locks = false) {pc : Nat} {H : Heap} {ls : Array Slot} (hdg : decode code pc = .ok (.ireturn, 1)) : W p l e room_1 s m #[Value.ref b] below meth c H [] 600000 7302250 (lw_Z below #[Value.ref b] s) (F0 m pc ls [.int 1]) := by
  intro T hT X
  obtain ⟨fs, hret, hrun, hended, hW, hframe⟩ := X.leave (v := some (.int 1)) (hlocks := hlocks) (fun h => by rw [hr] at h; cases h)
  have hmeth' : T.vm.method? m = some meth := X.method'
  refine ⟨T.setFrames fs, ?_, .returned (some (.int 1)), hrun, hended, rfl, ⟨_, rfl⟩, hW, hframe⟩
  jvm_step X.here [X.here.top, hx, hb, hdg, hmeth', hr, ret, narrow_b1]
  (try refine ⟨rfl, ?_⟩); (try refine ⟨rfl, ?_⟩)
  first | (intro acts; rw [hret _ acts rfl rfl rfl]) | rw [hret _ _ rfl rfl rfl]
  exact Steps.refl _
/-- what holds at the law's entry: the machine, the code, the tables' words (any of lw_tbl by 'hts w (by decide +kernel)'), the script of L ints xs at the cell b, what the Statement gives of the start (any of its parts by flat_of_before) -/
def lw_At (p : Program) (s : State) (m : MethodId) (meth : Method) (c : Code) (b L : Nat) (xs : Nat → Int32) : Prop :=
  p.tables.exec = Jvm.exec ∧ c.code = code ∧ meth.sig.returnType = ret ∧ c.maxLocals = 4 ∧ s.vm.findClass R_law = some m.cls ∧ (∀ w ∈ lw_tbl, w.before #[Value.ref b] s = true) ∧ va_X b L xs s s.heap ∧ b < s.heap.size ∧ meth.locks = false ∧ (Jvm.Cond.and given_1 narrow_1).before #[Value.ref b] s = true
theorem pb_it0 : Cond.instantiable RX0 4 ∈ lw_tbl := pb_chk_in 1 _ (List.mem_of_getElem? (i := 143) (by decide +kernel))
theorem pb_it1 : Cond.instantiable RX1 9 ∈ lw_tbl := pb_chk_in 1 _ (List.mem_of_getElem? (i := 193) (by decide +kernel))
theorem pb_it2 : Cond.instantiable RX2 5 ∈ lw_tbl := pb_chk_in 1 _ (List.mem_of_getElem? (i := 118) (by decide +kernel))
theorem pb_it3 : Cond.instantiable RX3 5 ∈ lw_tbl := pb_chk_in 1 _ (List.mem_of_getElem? (i := 200) (by decide +kernel))
theorem pb_it4 : Cond.instantiable RX4 9 ∈ lw_tbl := pb_chk_in 1 _ (List.mem_of_getElem? (i := 221) (by decide +kernel))
theorem pb_it5 : Cond.instantiable RX5 5 ∈ lw_tbl := pb_chk_in 1 _ (List.mem_of_getElem? (i := 168) (by decide +kernel))
theorem pb_it6 : Cond.instantiable RX6 15 ∈ lw_tbl := pb_chk_in 2 _ (List.mem_of_getElem? (i := 50) (by decide +kernel))
theorem pb_it7 : Cond.instantiable RX7 6 ∈ lw_tbl := pb_chk_in 1 _ (List.mem_of_getElem? (i := 33) (by decide +kernel))
theorem pb_it8 : Cond.instantiable RX8 9 ∈ lw_tbl := pb_chk_in 1 _ (List.mem_of_getElem? (i := 71) (by decide +kernel))
theorem pb_it9 : Cond.instantiable RX9 8 ∈ lw_tbl := pb_chk_in 2 _ (List.mem_of_getElem? (i := 60) (by decide +kernel))
theorem pb_it11 : Cond.instantiable RX11 7 ∈ lw_tbl := pb_chk_in 1 _ (List.mem_of_getElem? (i := 19) (by decide +kernel))
theorem pb_it12 : Cond.instantiable RX12 38 ∈ lw_tbl := pb_chk_in 5 _ (List.mem_of_getElem? (i := 35) (by decide +kernel))
theorem pb_nn1 : pb_nw1 ∈ lw_tbl := pb_chk_in 1 _ (List.mem_of_getElem? (i := 72) (by decide +kernel))
theorem pb_nn2 : pb_nw2 ∈ lw_tbl := pb_chk_in 1 _ (List.mem_of_getElem? (i := 201) (by decide +kernel))
theorem pb_nn3 : pb_nw3 ∈ lw_tbl := pb_chk_in 2 _ (List.mem_of_getElem? (i := 58) (by decide +kernel))
theorem pb_nn4 : Cond.arrayOver (.object RX4) ∈ lw_tbl := pb_chk_in 1 _ (List.mem_of_getElem? (i := 39) (by decide +kernel))
theorem pb_nn5 : Cond.arrayClass .int ∈ lw_tbl := pb_chk_in 1 _ (List.mem_of_getElem? (i := 69) (by decide +kernel))
theorem pb_nn6 : Cond.arrayClass .byte ∈ lw_tbl := pb_chk_in 1 _ (List.mem_of_getElem? (i := 166) (by decide +kernel))
/-- the script, and nothing else -/
def pb_h0 (L : Nat) (xs : Nat → Int32) : pb_H := (1, fun i => if i = 0 then .inl (3, L, .inl xs) else pb_dead)
/-- what is owed of the small machine -/
def pb_Pure : Prop := ∀ (L : Nat) (xs : Nat → Int32), L ≤ 3073 → pb_call 225 [.ref 0] (pb_h0 L xs) (fun v t => v = some (.int 1) ∧ t.1 ≤ 600001 ∧ pb_sl t ≤ L + 7302250)
theorem pb_W_tbl {w : Cond} (h : w ∈ pb_W) : w ∈ lw_tbl := (List.mem_filter.mp h).1
theorem pb_known {s : State} {args : Array Value} (hts : ∀ w ∈ lw_tbl, w.before args s = true) : ∀ k : Nat, ∃ z : ClassId × (Nat → Nat), ∀ q : vw_C, pb_cls[k]? = some q → u_Kn s q.1 q.2.1 q.2.2 z.1 z.2 := by
  have key : ∀ (ci n : Nat), ci < 13 → Cond.instantiable (pb_cl3 ci).1 n ∈ lw_tbl → ∃ z : ClassId × (Nat → Nat), ∀ q : vw_C, pb_cls[ci]? = some q → u_Kn s q.1 q.2.1 q.2.2 z.1 z.2 := by
    intro ci n hci hin
    obtain ⟨c0, iS0, hKn0⟩ := u_known (C := (pb_cl3 ci).1) (T := (pb_cl3 ci).2.1) (N := (pb_cl3 ci).2.2) (n := n) hts (fun w hw => pb_W_tbl (pb_ws_at ci hci w hw)) (hts _ hin)
    refine ⟨(c0, iS0), fun q hq => ?_⟩
    rw [pb_cl3_at ci hci] at hq
    cases hq
    exact hKn0
  intro k
  match k with
  | 0 => exact key 0 4 (by omega) pb_it0
  | 1 => exact key 1 9 (by omega) pb_it1
  | 2 => exact key 2 5 (by omega) pb_it2
  | 3 => exact key 3 5 (by omega) pb_it3
  | 4 => exact key 4 9 (by omega) pb_it4
  | 5 => exact key 5 5 (by omega) pb_it5
  | 6 => exact key 6 15 (by omega) pb_it6
  | 7 => exact key 7 6 (by omega) pb_it7
  | 8 => exact key 8 9 (by omega) pb_it8
  | 9 => exact key 9 8 (by omega) pb_it9
  | 10 => exact key 10 4 (by omega) pb_it0
  | 11 => exact key 11 7 (by omega) pb_it11
  | 12 => exact key 12 38 (by omega) pb_it12
  | k + 13 => exact ⟨(0, fun _ => 0), fun q hq => by cases hq⟩
theorem pb_arrT {s : State} {c : ClassId} {k : Class} {comp : ClassId} {ty : FieldType} (h1 : s.vm.classes[c]? = some k) (h2 : k.kind = .array comp ty) : ArrOfT s c ty := fun n z => ⟨(fun q h => by cases h), k, h1, comp, h2⟩
set_option maxHeartbeats 1000000 in
theorem pb_start (ok : pb_OK) (pure0 : pb_Pure) {p : Program} {e : Env} {s : State} {m : MethodId} {below : List Frame} {meth : Method} {c : Code} (l : Launch) {b L : Nat} {xs : Nat → Int32} (hL : L ≤ 3073) (C0 : lw_At p s m meth c b L xs) : W p l e room_1 s m #[Value.ref b] below meth c s.heap [] 0 0 (lw_Z below #[Value.ref b] s) (entryFrame m ([Value.ref b] : List Value).toArray 4) := by
  obtain ⟨hx, hb, hr, hml, hown, hts, hX, hbl, hlocks, hgv⟩ := C0
  obtain ⟨scr, x1, x2, x3, x4, x5⟩ := hX
  have hz := pb_known hts
  obtain ⟨cI, kI, compI, i1, i2, i3⟩ := Cond.arrayClass_spec (hts _ pb_nn5)
  obtain ⟨cB, kB, compB, b1, b2, b3⟩ := Cond.arrayClass_spec (hts _ pb_nn6)
  obtain ⟨compL, cL, kL, l1, -, l3, l4, l5⟩ := Cond.arrayOver_spec (hts _ pb_nn4)
  obtain ⟨dA, d0, d1, d2⟩ : ∃ dA : Nat → ClassId, dA 0 = cI ∧ dA 1 = cB ∧ dA 2 = cL := ⟨fun k => if k = 0 then cI else if k = 1 then cB else cL, rfl, rfl, rfl⟩
  have hK : va_K (fun k => (Classical.choose (hz k)).1, fun k => (Classical.choose (hz k)).2) pb_cls [(dA 0, .int), (dA 1, .byte), (dA 2, .object RX4)] s := by
    refine ⟨fun k q hq => Classical.choose_spec (hz k) q hq, fun k q hq => ?_⟩
    match k, hq with
    | 0, hq => cases hq; rw [d0]; exact ⟨pb_arrT i2 i3, i1⟩
    | 1, hq => cases hq; rw [d1]; exact ⟨pb_arrT b2 b3, b1⟩
    | 2, hq => cases hq; rw [d2]; exact ⟨pb_arrT l3 l4, kL, compL, l3, l4, l1, l5⟩
    | k + 3, hq => cases hq
  have hKK : pb_KK (fun k => (Classical.choose (hz k)).1, fun k => (Classical.choose (hz k)).2) dA scr L xs s := ⟨hK, va_AO.of (hts _ pb_nn4), va_Nw.of rfl (hts _ pb_nn1), va_Nw.of rfl (hts _ pb_nn2), va_Nw.of rfl (hts _ pb_nn3), x2, x3, x4, x5⟩
  generalize ((fun k => (Classical.choose (hz k)).1, fun k => (Classical.choose (hz k)).2) : va_G) = D at hKK
  obtain ⟨n, ⟨rv, rh⟩, hE, hrv, hr1, hr2⟩ := pure0 L xs hL
  dsimp only at hrv hr1 hr2
  subst hrv
  have hsl0 : pb_sl (pb_h0 L xs) = L := by
    show 0 + L = L
    omega
  have hrep : pb_rep D dA s.heap.size b L xs scr (pb_h0 L xs) s.heap := by
    refine ⟨⟨Nat.le_refl _, rfl⟩, fun i j1 j2 => ?_, fun i hi => ?_, rfl, fun i hi => ?_, x1⟩
    · have j2' : i < 1 := j2
      omega
    · have hi' : 1 ≤ i := hi
      show (if i = 0 then _ else pb_dead) = _
      rw [if_neg (by omega)]
    · show pb_n3 (if i = 0 then _ else pb_dead) = true
      rw [if_neg (by omega)]
      rfl
  have C : pb_Cx p room_1 s m #[Value.ref b] meth c D dA scr L xs s.heap.size b 225 := ⟨hx, hb, hml, hown, fun w hw => hts w (pb_W_tbl hw), hKK, fun h => by exact absurd h (by decide), by decide, by decide, hbl⟩
  have hl := lv_entry ([Value.ref b]) (n := 4) (Nat.le_of_ble_eq_true rfl)
  rw [lg_entry_eq]
  generalize (lg_sl ([Value.ref b]) ++ List.replicate (4 - (lg_sl ([Value.ref b])).length) Slot.unset).toArray = ls at hl ⊢
  have hW := pb_W_ev (below := below) (e := e) (l := l) (Q := lw_Z below #[Value.ref b] s) ok C (fun k hk => pb_sound_all ok l D dA scr L xs s.heap.size b k hk) (pb_h0 L xs) (some (.int 1), rh) ⟨by show rh.1 - 1 ≤ 600000; omega, by rw [hsl0]; show pb_sl rh - L ≤ 7302250; omega⟩ (fun pc x st H locs ls hlk hR hrep2 hlo => by
    obtain ⟨g, hg⟩ := ok.1 225 _ (pb_look_mem hlk)
    unfold pb_okb at hg
    rw [Bool.and_eq_true, Bool.and_eq_true] at hg
    obtain ⟨⟨hd, hlen⟩, -⟩ := hg
    obtain ⟨ins, len, r1, r2, kv⟩ := x
    have hd : decode (pb_c 225) pc = .ok (ins, len) := of_decide_eq_true hd
    rw [Bool.or_eq_true, decide_eq_true_eq, decide_eq_true_eq] at hlen
    dsimp only at hlen
    unfold pb_Rt at hR
    dsimp only at hR
    split at hR
    · obtain rfl : len = 1 := hlen.elim (fun h => by cases h) id
      split at hR
      · split at hR
        · cases hR
          refine va_forget (fun q hq => hlo q hq) ?_
          refine W.widen (k := 600000) (n := 7302250) (by show rh.1 - 1 ≤ 600000; omega) (by rw [hsl0]; show pb_sl rh - L ≤ 7302250; omega) ?_
          exact lw_ret hx hb hr hlocks hd
        · cases hR
      · cases hR
    · split at hR <;> cases hR
    · split at hR <;> cases hR
    · split at hR <;> cases hR
    · cases hR) n 0 _ _ [] (pb_h0 L xs) s.heap [] ls hE (Nat.le_refl _) (Nat.le_refl _) hrep (fun q hq => by cases hq) (pb_entry (c := 225) (as := [.ref 0]) rfl (by decide) hl)
  rw [Nat.sub_self, Nat.sub_self] at hW
  exact hW
