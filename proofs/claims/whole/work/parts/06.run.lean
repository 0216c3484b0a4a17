/-- values that the methods take -/
def pb_okv (v : Value) : Bool := match v with
  | .int _ => true
  | .long _ => true
  | .ref _ => true
  | .null => true
  | _ => false
/-- a call: the method, what it is given, what stays on the stack -/
def pb_K (x : pb_X) (st : List Value) (h : pb_H) : Option (Nat × List Value × List Value) := match x.1 with
  | .invokestatic _ => if x.2.2.2.1 ≤ st.length ∧ pb_cat (st.drop x.2.2.2.1) ≤ 8 ∧ x.2.2.1 < 1000 ∧ ((pb_el (st.take x.2.2.2.1).reverse).length ≤ pb_ml x.2.2.1 ∧ (st.take x.2.2.2.1).all pb_okv = true) then some (x.2.2.1, (st.take x.2.2.2.1).reverse, st.drop x.2.2.2.1) else none
  | .invokespecial _ => match (st.take x.2.2.2.1).reverse with
    | .ref _ :: _ => if x.2.2.2.1 ≤ st.length ∧ pb_cat (st.drop x.2.2.2.1) ≤ 8 ∧ x.2.2.1 < 1000 ∧ ((pb_el (st.take x.2.2.2.1).reverse).length ≤ pb_ml x.2.2.1 ∧ (st.take x.2.2.2.1).all pb_okv = true) then some (x.2.2.1, (st.take x.2.2.2.1).reverse, st.drop x.2.2.2.1) else none
    | _ => none
  | .invokevirtual _ => match (st.take x.2.2.2.1).reverse with
    | .ref a :: _ => if x.2.2.2.1 ≤ st.length ∧ pb_cat (st.drop x.2.2.2.1) ≤ 8 ∧ x.2.2.1 < 1000 ∧ ((pb_el (st.take x.2.2.2.1).reverse).length ≤ pb_ml x.2.2.1 ∧ (st.take x.2.2.2.1).all pb_okv = true) ∧ pb_is0 (h.2 a) (pb_ci x.2.2.1) = true then some (x.2.2.1, (st.take x.2.2.2.1).reverse, st.drop x.2.2.2.1) else none
    | _ => none
  | _ => none
/-- the machine: with fuel n, method m at pc -/
def pb_ev : Nat → Nat → Nat → pb_L → pb_J → List Value → pb_H → Option (Option Value × pb_H)
  | 0, _, _, _, _, _, _ => none
  | n + 1, m, pc, L, J, st, h => match pb_look m pc with
    | none => none
    | some x => match pb_A x st with
      | some st' => pb_ev n m (pc + x.2.1) L J st' h
      | none => match pb_B x L J st with
        | some q => pb_ev n m (pc + x.2.1) q.1 q.2.1 q.2.2 h
        | none => match pb_C x pc st with
          | some q => pb_ev n m q.1 L J q.2 h
          | none => match pb_D x st h with
            | some q => pb_ev n m (pc + x.2.1) L J q.1 q.2
            | none => match pb_Rt (pb_rt m) x st with
              | some v => some (v, h)
              | none => match pb_K x st h with
                | none => none
                | some q => match pb_ev n q.1 0 (pb_eL q.1 q.2.1) (pb_eJ q.1 q.2.1) [] h with
                  | none => none
                  | some r => pb_ev n m (pc + x.2.1) L J (r.1.toList ++ q.2.2) r.2
/-! The small machine as a logic: 'from here it returns, and Q holds of what came'. -/
theorem pb_ev_mono : ∀ (n m pc : Nat) (L : pb_L) (J : pb_J) (st : List Value) (h : pb_H) (r : Option Value × pb_H), pb_ev n m pc L J st h = some r → pb_ev (n + 1) m pc L J st h = some r := by
  intro n
  induction n with
  | zero => intro m pc L J st h r hr; cases hr
  | succ n ih =>
    intro m pc L J st h r hr
    rw [pb_ev] at hr ⊢
    cases hx : pb_look m pc with
    | none => rw [hx] at hr; cases hr
    | some x =>
      rw [hx] at hr
      dsimp only at hr ⊢
      cases hA : pb_A x st with
      | some st' => rw [hA] at hr; exact ih _ _ _ _ _ _ _ hr
      | none =>
        rw [hA] at hr
        dsimp only at hr ⊢
        cases hB : pb_B x L J st with
        | some q => rw [hB] at hr; exact ih _ _ _ _ _ _ _ hr
        | none =>
          rw [hB] at hr
          dsimp only at hr ⊢
          cases hC : pb_C x pc st with
          | some q => rw [hC] at hr; exact ih _ _ _ _ _ _ _ hr
          | none =>
            rw [hC] at hr
            dsimp only at hr ⊢
            cases hD : pb_D x st h with
            | some q => rw [hD] at hr; exact ih _ _ _ _ _ _ _ hr
            | none =>
              rw [hD] at hr
              dsimp only at hr ⊢
              cases hR : pb_Rt (pb_rt m) x st with
              | some v => rw [hR] at hr; exact hr
              | none =>
                rw [hR] at hr
                dsimp only at hr ⊢
                cases hK : pb_K x st h with
                | none => rw [hK] at hr; cases hr
                | some q =>
                  rw [hK] at hr
                  dsimp only at hr ⊢
                  cases hE : pb_ev n q.1 0 (pb_eL q.1 q.2.1) (pb_eJ q.1 q.2.1) [] h with
                  | none => rw [hE] at hr; cases hr
                  | some r' =>
                    rw [hE] at hr
                    rw [ih _ _ _ _ _ _ _ hE]
                    exact ih _ _ _ _ _ _ _ hr
theorem pb_ev_le {n k m pc : Nat} {L : pb_L} {J : pb_J} {st : List Value} {h : pb_H} {r : Option Value × pb_H} (hk : n ≤ k) (hr : pb_ev n m pc L J st h = some r) : pb_ev k m pc L J st h = some r := by
  induction hk with
  | refl => exact hr
  | step _ ih => exact pb_ev_mono _ _ _ _ _ _ _ _ ih
def pb_R (m pc : Nat) (L : pb_L) (J : pb_J) (st : List Value) (h : pb_H) (Q : Option Value → pb_H → Prop) : Prop := ∃ (n : Nat) (r : Option Value × pb_H), pb_ev n m pc L J st h = some r ∧ Q r.1 r.2
/-- a call, from its beginning -/
def pb_call (m : Nat) (args : List Value) (h : pb_H) (Q : Option Value → pb_H → Prop) : Prop := pb_R m 0 (pb_eL m args) (pb_eJ m args) [] h Q
theorem pb_R_mono {m pc : Nat} {L : pb_L} {J : pb_J} {st : List Value} {h : pb_H} {Q Q' : Option Value → pb_H → Prop} (hR : pb_R m pc L J st h Q) (hQ : ∀ v t, Q v t → Q' v t) : pb_R m pc L J st h Q' := by
  obtain ⟨n, r, h1, h2⟩ := hR
  exact ⟨n, r, h1, hQ _ _ h2⟩
theorem pb_call_mono {m : Nat} {args : List Value} {h : pb_H} {Q Q' : Option Value → pb_H → Prop} (hR : pb_call m args h Q) (hQ : ∀ v t, Q v t → Q' v t) : pb_call m args h Q' := pb_R_mono hR hQ
/-- one step that is no call and no return -/
def pb_S (x : pb_X) (pc : Nat) (L : pb_L) (J : pb_J) (st : List Value) (h : pb_H) : Option (Nat × pb_L × pb_J × List Value × pb_H) := match pb_A x st with
  | some st' => some (pc + x.2.1, L, J, st', h)
  | none => match pb_B x L J st with
    | some q => some (pc + x.2.1, q.1, q.2.1, q.2.2, h)
    | none => match pb_C x pc st with
      | some q => some (q.1, L, J, q.2, h)
      | none => match pb_D x st h with
        | some q => some (pc + x.2.1, L, J, q.1, q.2)
        | none => none
theorem pb_ev_S {n m pc : Nat} {x : pb_X} {L : pb_L} {J : pb_J} {st : List Value} {h : pb_H} {q : Nat × pb_L × pb_J × List Value × pb_H} (hx : pb_look m pc = some x) (hS : pb_S x pc L J st h = some q) :
    pb_ev (n + 1) m pc L J st h = pb_ev n m q.1 q.2.1 q.2.2.1 q.2.2.2.1 q.2.2.2.2 := by
  rw [pb_ev, hx]
  dsimp only
  unfold pb_S at hS
  cases hA : pb_A x st with
  | some st' => rw [hA] at hS; cases hS; rfl
  | none =>
    rw [hA] at hS
    dsimp only at hS ⊢
    cases hB : pb_B x L J st with
    | some q' => rw [hB] at hS; cases hS; rfl
    | none =>
      rw [hB] at hS
      dsimp only at hS ⊢
      cases hC : pb_C x pc st with
      | some q' => rw [hC] at hS; cases hS; rfl
      | none =>
        rw [hC] at hS
        dsimp only at hS ⊢
        cases hD : pb_D x st h with
        | some q' => rw [hD] at hS; cases hS; rfl
        | none => rw [hD] at hS; cases hS
theorem pb_R_S {m pc : Nat} {x : pb_X} {L : pb_L} {J : pb_J} {st : List Value} {h : pb_H} {Q : Option Value → pb_H → Prop} {pc' : Nat} {L' : pb_L} {J' : pb_J} {st' : List Value} {h' : pb_H} (hx : pb_look m pc = some x) (hS : pb_S x pc L J st h = some (pc', L', J', st', h')) :
    pb_R m pc L J st h Q ↔ pb_R m pc' L' J' st' h' Q := by
  constructor
  · rintro ⟨n, r, h1, h2⟩
    cases n with
    | zero => cases h1
    | succ n => rw [pb_ev_S hx hS] at h1; exact ⟨n, r, h1, h2⟩
  · rintro ⟨n, r, h1, h2⟩
    exact ⟨n + 1, r, by rw [pb_ev_S hx hS]; exact h1, h2⟩
theorem pb_R_stuck {m pc : Nat} {x : pb_X} {L : pb_L} {J : pb_J} {st : List Value} {h : pb_H} {Q : Option Value → pb_H → Prop} (hx : pb_look m pc = some x) (hS : pb_S x pc L J st h = none) (hR : pb_Rt (pb_rt m) x st = none) (hK : pb_K x st h = none) : ¬ pb_R m pc L J st h Q := by
  rintro ⟨n, r, h1, h2⟩
  cases n with
  | zero => cases h1
  | succ n =>
    rw [pb_ev, hx] at h1
    dsimp only at h1
    unfold pb_S at hS
    cases hA : pb_A x st with
    | some st' => rw [hA] at hS; cases hS
    | none =>
      rw [hA] at hS h1
      dsimp only at hS h1
      cases hB : pb_B x L J st with
      | some q' => rw [hB] at hS; cases hS
      | none =>
        rw [hB] at hS h1
        dsimp only at hS h1
        cases hC : pb_C x pc st with
        | some q' => rw [hC] at hS; cases hS
        | none =>
          rw [hC] at hS h1
          dsimp only at hS h1
          cases hD : pb_D x st h with
          | some q' => rw [hD] at hS; cases hS
          | none =>
            rw [hD, hR, hK] at h1
            cases h1
theorem pb_R_Rt {m pc : Nat} {x : pb_X} {L : pb_L} {J : pb_J} {st : List Value} {h : pb_H} {Q : Option Value → pb_H → Prop} {v : Option Value} (hx : pb_look m pc = some x) (hS : pb_S x pc L J st h = none) (hR : pb_Rt (pb_rt m) x st = some v) :
    pb_R m pc L J st h Q ↔ Q v h := by
  have key : ∀ n, pb_ev (n + 1) m pc L J st h = some (v, h) := by
    intro n
    rw [pb_ev, hx]
    dsimp only
    unfold pb_S at hS
    cases hA : pb_A x st with
    | some st' => rw [hA] at hS; cases hS
    | none =>
      rw [hA] at hS
      dsimp only at hS ⊢
      cases hB : pb_B x L J st with
      | some q' => rw [hB] at hS; cases hS
      | none =>
        rw [hB] at hS
        dsimp only at hS ⊢
        cases hC : pb_C x pc st with
        | some q' => rw [hC] at hS; cases hS
        | none =>
          rw [hC] at hS
          dsimp only at hS ⊢
          cases hD : pb_D x st h with
          | some q' => rw [hD] at hS; cases hS
          | none => rw [hR]
  constructor
  · rintro ⟨n, r, h1, h2⟩
    cases n with
    | zero => cases h1
    | succ n => rw [key] at h1; cases h1; exact h2
  · intro hq
    exact ⟨1, (v, h), key 0, hq⟩
theorem pb_R_K {m pc : Nat} {x : pb_X} {L : pb_L} {J : pb_J} {st : List Value} {h : pb_H} {Q : Option Value → pb_H → Prop} {c : Nat} {as rest : List Value} (hx : pb_look m pc = some x) (hS : pb_S x pc L J st h = none) (hR : pb_Rt (pb_rt m) x st = none) (hK : pb_K x st h = some (c, as, rest)) :
    pb_R m pc L J st h Q ↔ pb_call c as h (fun v t => pb_R m (pc + x.2.1) L J (v.toList ++ rest) t Q) := by
  have key : ∀ n, pb_ev (n + 1) m pc L J st h = match pb_ev n c 0 (pb_eL c as) (pb_eJ c as) [] h with
      | none => none
      | some r => pb_ev n m (pc + x.2.1) L J (r.1.toList ++ rest) r.2 := by
    intro n
    rw [pb_ev, hx]
    dsimp only
    unfold pb_S at hS
    cases hA : pb_A x st with
    | some st' => rw [hA] at hS; cases hS
    | none =>
      rw [hA] at hS
      dsimp only at hS ⊢
      cases hB : pb_B x L J st with
      | some q' => rw [hB] at hS; cases hS
      | none =>
        rw [hB] at hS
        dsimp only at hS ⊢
        cases hC : pb_C x pc st with
        | some q' => rw [hC] at hS; cases hS
        | none =>
          rw [hC] at hS
          dsimp only at hS ⊢
          cases hD : pb_D x st h with
          | some q' => rw [hD] at hS; cases hS
          | none => rw [hR, hK]
  constructor
  · rintro ⟨n, r, h1, h2⟩
    cases n with
    | zero => cases h1
    | succ n =>
      rw [key] at h1
      cases hE : pb_ev n c 0 (pb_eL c as) (pb_eJ c as) [] h with
      | none => rw [hE] at h1; cases h1
      | some r' => rw [hE] at h1; exact ⟨n, r', hE, n, r, h1, h2⟩
  · rintro ⟨n, r', h1, n2, r, h2, h3⟩
    refine ⟨max n n2 + 1, r, ?_, h3⟩
    rw [key, pb_ev_le (Nat.le_max_left n n2) h1]
    exact pb_ev_le (Nat.le_max_right n n2) h2
/-- what is read may be wanting: then it does not go on -/
def pb_o {α : Type} (o : Option α) (f : α → Prop) : Prop := match o with
  | some v => f v
  | none => False
theorem pb_o_some {α : Type} (v : α) (f : α → Prop) : pb_o (some v) f = f v := rfl
theorem pb_o_none {α : Type} (f : α → Prop) : pb_o none f = False := rfl
