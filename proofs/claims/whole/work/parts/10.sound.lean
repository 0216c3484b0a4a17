/-! The small machine's runs are the large one's. -/
theorem pb_D_mono {x : pb_X} {st st' : List Value} {h h' : pb_H} (hD : pb_D x st h = some (st', h')) : h.1 ≤ h'.1 ∧ pb_sl h ≤ pb_sl h' := by
  have kset : ∀ (a : Nat) (cN : pb_E), pb_sz cN = pb_sz (h.2 a) → h.1 ≤ (pb_set h a cN).1 ∧ pb_sl h ≤ pb_sl (pb_set h a cN) := fun a cN e => ⟨Nat.le_refl _, by rw [pb_sl_set e]; exact Nat.le_refl _⟩
  have knew : ∀ cN : pb_E, h.1 ≤ (pb_new h cN).1 ∧ pb_sl h ≤ pb_sl (pb_new h cN) := fun cN => ⟨Nat.le_succ _, by rw [pb_sl_new]; omega⟩
  have krefl : h.1 ≤ h.1 ∧ pb_sl h ≤ pb_sl h := ⟨Nat.le_refl _, Nat.le_refl _⟩
  unfold pb_D at hD
  split at hD
  · split at hD
    · obtain ⟨v, hv, he⟩ := Option.map_eq_some_iff.mp hD; cases he; exact krefl
    · cases hD
  · split at hD
    · obtain ⟨v, hv, he⟩ := Option.map_eq_some_iff.mp hD; cases he
      obtain ⟨fs, hc, rfl, -⟩ := pb_pf_inv hv
      exact kset _ _ (by rw [hc]; simp [pb_sz])
    · cases hD
  · split at hD
    · obtain ⟨v, hv, he⟩ := Option.map_eq_some_iff.mp hD; cases he; exact krefl
    · cases hD
  · split at hD
    · obtain ⟨v, hv, he⟩ := Option.map_eq_some_iff.mp hD; cases he; exact krefl
    · cases hD
  · split at hD
    · obtain ⟨v, hv, he⟩ := Option.map_eq_some_iff.mp hD; cases he; exact krefl
    · cases hD
  · split at hD
    · obtain ⟨v, hv, he⟩ := Option.map_eq_some_iff.mp hD; cases he
      obtain ⟨n, f, hc, -, rfl⟩ := pb_si_inv hv
      exact kset _ _ (by rw [hc]; rfl)
    · cases hD
  · split at hD
    · obtain ⟨v, hv, he⟩ := Option.map_eq_some_iff.mp hD; cases he
      obtain ⟨n, f, hc, -, rfl⟩ := pb_sb_inv hv
      exact kset _ _ (by rw [hc]; rfl)
    · cases hD
  · split at hD
    · obtain ⟨v, hv, he⟩ := Option.map_eq_some_iff.mp hD; cases he
      obtain ⟨n, f, hc, -, rfl⟩ := pb_sa_inv hv
      exact kset _ _ (by rw [hc]; rfl)
    · split at hD
      · obtain ⟨v, hv, he⟩ := Option.map_eq_some_iff.mp hD; cases he
        obtain ⟨n, f, hc, -, rfl⟩ := pb_sa_inv hv
        exact kset _ _ (by rw [hc]; rfl)
      · cases hD
    · cases hD
  · split at hD
    · obtain ⟨v, hv, he⟩ := Option.map_eq_some_iff.mp hD; cases he; exact krefl
    · cases hD
  · split at hD
    · split at hD
      · cases hD; exact knew _
      · cases hD
    · cases hD
  · split at hD
    · split at hD
      · cases hD; exact knew _
      · cases hD
    · cases hD
  · cases hD; exact knew _
  · split at hD
    · split at hD
      · cases hD; exact krefl
      · cases hD
    · cases hD
  · split at hD
    · split at hD
      · split at hD
        · obtain ⟨v, hv, he⟩ := Option.map_eq_some_iff.mp hD; cases he
          obtain ⟨kd, n0, n1, f, g0, hc0, hc1, -, -, -, -, -, -, -, rfl⟩ := pb_cp_inv hv
          exact kset _ _ (by rw [hc1]; rfl)
        · cases hD
      · cases hD
    · split at hD
      · split at hD
        · split at hD
          · cases hD; exact krefl
          · cases hD
        · cases hD
      · split at hD
        · split at hD
          · split at hD
            · cases hD; exact krefl
            · cases hD
          · cases hD
        · split at hD
          · split at hD
            · split at hD
              · cases hD; exact krefl
              · cases hD
            · cases hD
          · cases hD
  · cases hD
theorem pb_ev_grows : ∀ (n m pc : Nat) (L : pb_L) (J : pb_J) (st : List Value) (h : pb_H) (r : Option Value × pb_H), pb_ev n m pc L J st h = some r → h.1 ≤ r.2.1 ∧ pb_sl h ≤ pb_sl r.2 := by
  intro n
  induction n with
  | zero => intro m pc L J st h r hr; cases hr
  | succ n ih =>
    intro m pc L J st h r hr
    rw [pb_ev] at hr
    cases hx : pb_look m pc with
    | none => rw [hx] at hr; cases hr
    | some x =>
      rw [hx] at hr
      dsimp only at hr
      cases hA : pb_A x st with
      | some st' => rw [hA] at hr; exact ih _ _ _ _ _ _ _ hr
      | none =>
        rw [hA] at hr
        dsimp only at hr
        cases hB : pb_B x L J st with
        | some q => rw [hB] at hr; exact ih _ _ _ _ _ _ _ hr
        | none =>
          rw [hB] at hr
          dsimp only at hr
          cases hC : pb_C x pc st with
          | some q => rw [hC] at hr; exact ih _ _ _ _ _ _ _ hr
          | none =>
            rw [hC] at hr
            dsimp only at hr
            cases hD : pb_D x st h with
            | some q =>
              rw [hD] at hr
              have h1 := pb_D_mono (st' := q.1) (h' := q.2) hD
              have h2 := ih _ _ _ _ _ _ _ hr
              exact ⟨Nat.le_trans h1.1 h2.1, Nat.le_trans h1.2 h2.2⟩
            | none =>
              rw [hD] at hr
              dsimp only at hr
              cases hR : pb_Rt (pb_rt m) x st with
              | some v => rw [hR] at hr; cases hr; exact ⟨Nat.le_refl _, Nat.le_refl _⟩
              | none =>
                rw [hR] at hr
                dsimp only at hr
                cases hK : pb_K x st h with
                | none => rw [hK] at hr; cases hr
                | some q =>
                  rw [hK] at hr
                  dsimp only at hr
                  cases hE : pb_ev n q.1 0 (pb_eL q.1 q.2.1) (pb_eJ q.1 q.2.1) [] h with
                  | none => rw [hE] at hr; cases hr
                  | some r' =>
                    rw [hE] at hr
                    have h1 := ih _ _ _ _ _ _ _ hE
                    have h2 := ih _ _ _ _ _ _ _ hr
                    exact ⟨Nat.le_trans h1.1 h2.1, Nat.le_trans h1.2 h2.2⟩
def pb_rm (c mc ms : Nat) : Room := { frames := (pb_nd c).1, cells := mc, slots := ms, locals := (pb_nd c).2 }
def pb_ws (c : Nat) : List Cond := Cond.code (pb_y c) (pb_c c) (pb_ml c) (pb_rt c) :: pb_W
def pb_Pc (D : va_G) (dA : Nat → ClassId) (scr : Cell) (Ls : Nat) (xs : Nat → Int32) (base b : Nat) (as : List Value) (h : pb_H) : Array Value → State → Prop := fun v U => v = (as.map (pb_tv base b)).toArray ∧ pb_rep D dA base b Ls xs scr h U.heap ∧ pb_KK D dA scr Ls xs U
def pb_Qc (D : va_G) (dA : Nat → ClassId) (scr : Cell) (Ls : Nat) (xs : Nat → Int32) (base b : Nat) (r : Option Value × pb_H) : Array Value → State → Outcome → State → Prop := fun _ _ o t => o = .returned (r.1.map (pb_tv base b)) ∧ pb_rep D dA base b Ls xs scr r.2 t.heap
def pb_Sound (l : Launch) (D : va_G) (dA : Nat → ClassId) (scr : Cell) (Ls : Nat) (xs : Nat → Int32) (base b : Nat) (c : Nat) : Prop := ∀ (as : List Value) (h : pb_H) (n : Nat) (r : Option Value × pb_H), pb_ev n c 0 (pb_eL c as) (pb_eJ c as) [] h = some r → (pb_el as).length ≤ pb_ml c → as.all pb_okv = true → b < base →
  Met l (pb_y c) (pb_ws c) (pb_rm c (r.2.1 - h.1) (pb_sl r.2 - pb_sl h)) (pb_Pc D dA scr Ls xs base b as h) (pb_Qc D dA scr Ls xs base b r) (r.2.1 - h.1) (pb_sl r.2 - pb_sl h) (fun q => base ≤ q)
