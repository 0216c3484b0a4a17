/-! Line.look -/
theorem lgc : ∀ n : Nat, n < 18 → (0 ≤ lg_cmp (lJ ((n : Int) - 1)) 0 ↔ 1 ≤ n) ∧ (lg_cmp (lJ ((n : Int) - 1)) 0 ≤ 0 ↔ n ≤ 1) := by decide
theorem lgc_ge {z : Int} (h1 : -1 ≤ z) (h2 : z ≤ 16) : 0 ≤ lg_cmp (lJ z) 0 ↔ 0 ≤ z := by
  have := (lgc (z + 1).toNat (by omega)).1
  rw [show (((z + 1).toNat : Nat) : Int) - 1 = z by omega] at this
  rw [this]; omega
theorem lgc_le {z : Int} (h1 : -1 ≤ z) (h2 : z ≤ 16) : lg_cmp (lJ z) 0 ≤ 0 ↔ z ≤ 0 := by
  have := (lgc (z + 1).toNat (by omega)).2
  rw [show (((z + 1).toNat : Nat) : Int) - 1 = z by omega] at this
  rw [this]; omega
theorem i32_ext {x y : Int32} (h : ∀ v, 1 ≤ v → bt x v = bt y v) : x = y := by
  apply Int32.toBitVec_inj.mp
  apply BitVec.eq_of_getLsbD_eq
  intro i hi
  exact h (i + 1) (by omega)
theorem bt_zero (v : Nat) : bt 0 v = false := by unfold bt; simp
theorem bt_andn {x y : Int32} {v : Nat} (h : 1 ≤ v) : bt (x &&& (y ^^^ -1)) v = (bt x v && !bt y v) := by
  rw [bt_and2]
  by_cases c : v ≤ 32
  · rw [bt_not c h]
  · rw [bt_big (x := x) (by omega)]; simp
theorem sub_bits {x y : Int32} : x &&& (y ^^^ -1) = 0 ↔ ∀ v, 1 ≤ v → bt x v = true → bt y v = true := by
  constructor
  · intro h v hv hx
    have := bt_andn (x := x) (y := y) hv
    rw [h, bt_zero, hx] at this
    simpa using this.symm
  · intro h
    apply i32_ext
    intro v hv
    rw [bt_andn hv, bt_zero]
    have := h v hv
    cases hx : bt x v
    · rfl
    · rw [this hx]; rfl
theorem zero_bits {x : Int32} : x = 0 ↔ ∀ v, 1 ≤ v → bt x v = false := by
  constructor
  · intro h v _; rw [h]; exact bt_zero v
  · intro h; exact i32_ext (fun v hv => by rw [h v hv, bt_zero])
/-- an ASSIGNMENT as two rows of bits -/
def AB (V : Nat) (A : AS) (t fl : Int32) : Prop := ∀ v, 1 ≤ v → v ≤ V → (bt t v = true ↔ A v = some true) ∧ (bt fl v = true ↔ A v = some false)
/-- what look answers -/
def LK (V : Nat) (x : LN) (A : AS) (z : Int32) : Prop := (ln_br V x A ∧ z = -1) ∨ (¬ ln_br V x A ∧ ∀ v, 1 ≤ v → (bt z v = true ↔ v ≤ V ∧ ln_fc V x A v))
theorem LK_br {V : Nat} {x : LN} {A : AS} {z : Int32} (hV : V ≤ 16) (h : LK V x A z) : z = -1 ↔ ln_br V x A := by
  rcases h with ⟨h1, h2⟩ | ⟨h1, h2⟩
  · exact ⟨fun _ => h1, fun _ => h2⟩
  · refine ⟨fun e => ?_, fun e => absurd e h1⟩
    have := (h2 17 (by omega)).mp (by rw [e]; decide)
    omega
section LOOK
variable {V : Nat} {x : LN} {A : AS} {t fl p n : Int32}
theorem lk_fallen (hA : AB V A t fl) (hp : ∀ v, 1 ≤ v → (bt p v = true ↔ v ≤ V ∧ 0 < x.2 v)) (hn : ∀ v, 1 ≤ v → (bt n v = true ↔ v ≤ V ∧ x.2 v < 0)) : ∀ v, 1 ≤ v → (bt (p &&& fl ||| n &&& t) v = true ↔ v ≤ V ∧ lwr (x.2 v) (A v)) := by
  intro v hv
  rw [bt_or2, bt_and2, bt_and2]
  have h1 := hp v hv
  have h2 := hn v hv
  unfold lwr
  by_cases c : v ≤ V
  · obtain ⟨a1, a2⟩ := hA v hv c
    rw [← a1, ← a2]
    simp only [c, true_and] at h1 h2
    rw [← h1, ← h2]
    cases bt p v <;> cases bt n v <;> cases bt fl v <;> cases bt t v <;> simp [c]
  · have e1 : bt p v = false := by
      cases h : bt p v
      · rfl
      · exact absurd (h1.mp h).1 c
    have e2 : bt n v = false := by
      cases h : bt n v
      · rfl
      · exact absurd (h2.mp h).1 c
    rw [e1, e2]
    simp [c]
theorem lk_open (hA : AB V A t fl) (hp : ∀ v, 1 ≤ v → (bt p v = true ↔ v ≤ V ∧ 0 < x.2 v)) (hn : ∀ v, 1 ≤ v → (bt n v = true ↔ v ≤ V ∧ x.2 v < 0)) : ∀ v, 1 ≤ v → (bt ((p ||| n) &&& ((t ||| fl) ^^^ -1)) v = true ↔ v ≤ V ∧ x.2 v ≠ 0 ∧ A v = none) := by
  intro v hv
  rw [bt_andn hv, bt_or2, bt_or2]
  have h1 := hp v hv
  have h2 := hn v hv
  by_cases c : v ≤ V
  · obtain ⟨a1, a2⟩ := hA v hv c
    simp only [c, true_and] at h1 h2 ⊢
    have e3 : A v = none ↔ ¬ bt t v = true ∧ ¬ bt fl v = true := by
      rw [a1, a2]
      cases h : A v with
      | none => simp
      | some b => cases b <;> simp
    rw [e3]
    have e4 : x.2 v ≠ 0 ↔ bt p v = true ∨ bt n v = true := by rw [h1, h2]; omega
    rw [e4]
    cases bt p v <;> cases bt n v <;> cases bt fl v <;> cases bt t v <;> simp
  · have e1 : bt p v = false := by
      cases h : bt p v
      · rfl
      · exact absurd (h1.mp h).1 c
    have e2 : bt n v = false := by
      cases h : bt n v
      · rfl
      · exact absurd (h2.mp h).1 c
    rw [e1, e2]
    simp [c]
theorem nf_if {fa : Int32} (hf : ∀ v, 1 ≤ v → (bt fa v = true ↔ v ≤ V ∧ lwr (x.2 v) (A v))) : sm (ln_nf x A) V = sm (fun v => if bt fa v = true then 0 else (x.2 v).natAbs) V := by
  apply sm_congr
  intro v h1 h2
  unfold ln_nf
  have := hf v h1
  simp only [h2, true_and] at this
  by_cases c : lwr (x.2 v) (A v)
  · rw [if_pos c, if_pos (this.mpr c)]
  · rw [if_neg c, if_neg (fun e => c (this.mp e))]
/-- the calm LINE -/
theorem calm_ok {fa op cf co : Int32} (hf : ∀ v, 1 ≤ v → (bt fa v = true ↔ v ≤ V ∧ lwr (x.2 v) (A v))) (ho : ∀ v, 1 ≤ v → (bt op v = true ↔ v ≤ V ∧ x.2 v ≠ 0 ∧ A v = none)) (hc : CM V x 1 cf co) (h1 : fa &&& (cf ^^^ -1) = 0) (h2 : op &&& ((cf ||| co) ^^^ -1) = 0) : LK V x A 0 := by
  rw [sub_bits] at h1 h2
  rcases hc with e | ⟨_, c1, c2⟩
  · exact absurd e (by decide)
  have hle : sm (fun v => if bt cf v = true then 0 else (x.2 v).natAbs) V ≤ sm (ln_nf x A) V := by
    rw [nf_if hf]
    apply sm_le
    intro v v1 v2
    by_cases c : bt fa v = true
    · simp [c, h1 v v1 c]
    · simp only [c, if_false]
      split
      · exact Nat.zero_le _
      · exact Nat.le_refl _
  refine Or.inr ⟨fun e => ?_, fun v hv => ?_⟩
  · unfold ln_br at e; omega
  · rw [bt_zero]
    constructor
    · intro e; cases e
    · rintro ⟨v2, f1, f2, f3⟩
      exfalso
      have hop := (ho v hv).mpr ⟨v2, f2, f1⟩
      have hcc := h2 v hv hop
      rw [bt_or2] at hcc
      by_cases c : bt co v = true
      · have := c2 v hv v2 c
        omega
      · have c' : bt cf v = true := by
          cases e : bt cf v
          · rw [e] at hcc; simp at hcc; exact absurd hcc c
          · rfl
        have : sm (fun v => if bt cf v = true then 0 else (x.2 v).natAbs) V + (x.2 v).natAbs ≤ sm (ln_nf x A) V := by
          rw [nf_if hf]
          refine sm_one (u := v) hv v2 (fun u u1 u2 => ?_) ?_
          · by_cases c : bt fa u = true
            · simp [c, h1 u u1 c]
            · simp only [c, if_false]
              split
              · exact Nat.zero_le _
              · exact Nat.le_refl _
          · have hnf : ¬ bt fa v = true := by
              rw [hf v hv]
              rintro ⟨_, q⟩
              unfold lwr at q
              rw [f1] at q
              simp at q
            rw [if_pos c', if_neg hnf]
            omega
        omega
end LOOK
/-- the rest by findRest -/
theorem rest_val {V wi : Nat} {f q : Nat → Int32} {p n b fa : Int32} {x : LN} {A : AS} (hx : LF V f p n wi x) (hf : ∀ v, 1 ≤ v → (bt fa v = true ↔ v ≤ V ∧ lwr (x.2 v) (A v))) (hb : b = (p ||| n) &&& (fa ^^^ -1)) : (wv (rst f b V q wi).1 0 wi : Int) + (rst f b V q wi).2 * (4294967296 ^ wi : Nat) = (sm (ln_nf x A) V : Nat) - (x.1 : Nat) := by
  have h0 := rst_val f b V q wi
  obtain ⟨w8, e0, e1, hp, hn, hz0⟩ := hx
  have k0 : wv f 0 wi = x.1 := by
    rw [← e0]
    have := hz0 0 (by omega)
    rw [Nat.zero_mul] at this
    exact (hz_val w8 this).symm
  have k1 : sm (fun n => if bt b n = true then wv f (n * 8) wi else 0) V = sm (ln_nf x A) V := by
    rw [nf_if hf]
    apply sm_congr
    intro v v1 v2
    rw [hb, bt_andn v1, bt_or2]
    have a1 := hp v v1
    have a2 := hn v v1
    have a3 : wv f (v * 8) wi = (x.2 v).natAbs := by rw [← e1 v v1 v2]; exact (hz_val w8 (hz0 v v2)).symm
    rw [a3]
    simp only [v2, true_and] at a1 a2
    cases hfa : bt fa v
    · cases hpv : bt p v
      · cases hnv : bt n v
        · rw [hpv] at a1
          rw [hnv] at a2
          have b1 : ¬ 0 < x.2 v := fun q => by simpa using a1.mpr q
          have b2 : ¬ x.2 v < 0 := fun q => by simpa using a2.mpr q
          have : x.2 v = 0 := by omega
          simp [this]
        · simp
      · simp
    · simp
  rw [k0, k1] at h0
  exact h0
theorem top_cases {q T P S D : Int} (h : q + T * P = S - D) (h0 : 0 ≤ q) (h1 : q < P) : (T < 0 ↔ S < D) ∧ (0 < T → D + P ≤ S) ∧ (T = 0 → q = S - D) := by
  have hP : 0 < P := by omega
  refine ⟨⟨fun e => ?_, fun e => ?_⟩, fun e => ?_, fun e => ?_⟩
  · have : T * P ≤ -1 * P := Int.mul_le_mul_of_nonneg_right (by omega) (by omega)
    omega
  · rcases Int.lt_or_le T 0 with c | c
    · exact c
    · have : 0 ≤ T * P := Int.mul_nonneg c (by omega)
      omega
  · have : 1 * P ≤ T * P := Int.mul_le_mul_of_nonneg_right (by omega) (by omega)
    omega
  · rw [e] at h; omega
theorem L71_74 {h : pb_H} {Q : Option Value → pb_H → Prop} {V a r wi : Nat} {p n so ca cf co t fl : Int32} (ha : h.2 a = cl (nI V) (a + 1) p n (nI wi) so ca cf co) (hc : ¬ (¬ ca = 0 ∧ (p &&& fl ||| n &&& t) &&& (cf ^^^ -1) = 0 ∧ (p ||| n) &&& ((t ||| fl) ^^^ -1) &&& ((cf ||| co) ^^^ -1) = 0)) :
    pb_call 71 [.ref a, .int t, .int fl, .ref r] h Q ↔ pb_R 71 74 [some (.ref a), some (.int t), some (.int fl), some (.ref r), some (.int (p ||| n)), some (.int (p &&& fl ||| n &&& t)), some (.int ((p ||| n) &&& ((t ||| fl) ^^^ -1))), none, none, none] [none, none, none, none, none, none, none, none, none, none] [] h Q := by
  rw [pb_c71]
  by_cases c0 : ca = 0
  · simp only [pb_e71, ha, pb_g4, pb_o_some, true_and, c0, if_true]
  · by_cases c1 : (p &&& fl ||| n &&& t) &&& (cf ^^^ -1) = 0
    · have c2 : ¬ (p ||| n) &&& ((t ||| fl) ^^^ -1) &&& ((cf ||| co) ^^^ -1) = 0 := fun e => hc ⟨c0, c1, e⟩
      simp only [pb_e71, ha, pb_g4, pb_o_some, true_and, c0, if_false, c1, not_true_eq_false, c2, not_false_eq_true, if_true]
    · simp only [pb_e71, ha, pb_g4, pb_o_some, true_and, c0, if_false, c1, not_false_eq_true, if_true]
/-- Line.look -/
theorem L71 {h : pb_H} {Q : Option Value → pb_H → Prop} {V a r nr : Nat} {so t fl : Int32} {x : LN} {A : AS} {q : Nat → Int32} (hV : V ≤ 16) (hL : LA h V a so x) (hA : AB V A t fl) (hr : h.2 r = ci nr q) (hnr : 8 ≤ nr) (hnr2 : nr < 2 ^ 31) (hra : r ≠ a + 1) (hQ : ∀ h' z q', fr (fun b => b = a ∨ b = r) h h' → LA h' V a so x → h'.2 r = ci nr q' → LK V x A z → Q (some (.int z)) h') : pb_call 71 [.ref a, .int t, .int fl, .ref r] h Q := by
  obtain ⟨f, p, n, wi, ca, cf, co, e1, e2, hx, hcm⟩ := hL
  have hra' : r ≠ a := fun e => by rw [e, e1] at hr; cases hr
  have hf := lk_fallen (x := x) hA hx.2.2.2.1 hx.2.2.2.2.1
  have ho := lk_open (x := x) hA hx.2.2.2.1 hx.2.2.2.2.1
  by_cases hc : ¬ ca = 0 ∧ (p &&& fl ||| n &&& t) &&& (cf ^^^ -1) = 0 ∧ (p ||| n) &&& ((t ||| fl) ^^^ -1) &&& ((cf ||| co) ^^^ -1) = 0
  · obtain ⟨c0, c1, c2⟩ := hc
    have ca1 : ca = 1 := by
      rcases hcm with e | e
      · exact absurd e c0
      · exact e.1
    rw [pb_c71]
    simp only [pb_e71, e1, pb_g4, pb_o_some, true_and, c0, if_false, c1, not_true_eq_false, c2]
    refine hQ h 0 q (fr_refl _ _) ⟨f, p, n, wi, ca, cf, co, e1, e2, hx, hcm⟩ hr ?_
    rw [ca1] at hcm
    exact calm_ok hf ho hcm c1 c2
  · rw [L71_74 e1 hc]
    generalize hfa : p &&& fl ||| n &&& t = fa at hf
    generalize hop : (p ||| n) &&& ((t ||| fl) ^^^ -1) = op at ho
    have w8 := hx.1
    have hm69 := fun Q : Option Value → pb_H → Prop => m69 (h := h) (Q := Q) (b := (p ||| n) &&& (fa ^^^ -1)) hV (Nat.le_refl _) (by omega) hra w8 hnr hnr2 e1 e2 hr
    have hrv := rest_val (q := q) (b := (p ||| n) &&& (fa ^^^ -1)) hx hf rfl
    obtain ⟨b1, b2⟩ := rst_b f ((p ||| n) &&& (fa ^^^ -1)) hV q wi
    generalize hrs : rst f ((p ||| n) &&& (fa ^^^ -1)) V q wi = R at hm69 hrv b1 b2
    obtain ⟨q', T⟩ := R
    simp only at hm69 hrv b1 b2
    have hlt := wv_lt q' 0 wi
    obtain ⟨t1, t2, t3⟩ := top_cases hrv (by omega) (by omega)
    have g1 := lgc_ge b1 b2
    have g2 := lgc_le b1 b2
    have ea : ∀ c, (pb_set h r c).2 a = cl (nI V) (a + 1) p n (nI wi) so ca cf co := fun c => by rw [pb_set_get, if_neg (Ne.symm hra'), e1]
    have ew : ∀ c, (pb_set h r c).2 (a + 1) = ci ((V + 1) * 8) f := fun c => by rw [pb_set_get, if_neg (Ne.symm hra), e2]
    have er : ∀ c, (pb_set h r c).2 r = c := fun c => by rw [pb_set_get, if_pos rfl]
    have F1 : fr (fun b => b = a ∨ b = r) h (pb_set h r (ci nr q')) := fr_set (Or.inr rfl) (by rw [hr]; rfl)
    by_cases tn : T < 0
    · have k1 : ¬ 0 ≤ T := by omega
      simp only [pb_e71, e1, pb_g4, pb_o_some, true_and, hm69, Option.toList_some, List.singleton_append, true_and, g1, k1, if_false]
      exact hQ _ (-1) q' F1 ⟨f, p, n, wi, ca, cf, co, ea _, ew _, hx, hcm⟩ (er _) (Or.inl ⟨by have := t1.mp tn; unfold ln_br; omega, rfl⟩)
    · have k1 : 0 ≤ T := by omega
      have hnb : ¬ ln_br V x A := fun e => tn (t1.mpr (by unfold ln_br at e; omega))
      have hge : x.1 ≤ sm (ln_nf x A) V := by unfold ln_br at hnb; omega
      have hcalm : (∀ v, 1 ≤ v → ¬ (v ≤ V ∧ ln_fc V x A v)) → Q (some (.int 0)) (pb_set (pb_set h r (ci nr q')) a (cl (nI V) (a + 1) p n (nI wi) so 1 fa op)) := by
        intro hno
        refine hQ _ 0 q' (fr_trans F1 (fr_set (Or.inl rfl) (by rw [ea]; rfl))) ⟨f, p, n, wi, 1, fa, op, by rw [pb_set_get, if_pos rfl], by rw [pb_set_get, if_neg (by omega), ew], hx, Or.inr ⟨rfl, ?_, ?_⟩⟩ (by rw [pb_set_get, if_neg hra', er]) (Or.inr ⟨hnb, fun v hv => ?_⟩)
        · rw [← nf_if hf]; exact hge
        · intro v v1 v2 hv
          rw [← nf_if hf]
          obtain ⟨_, o1, o2⟩ := (ho v v1).mp hv
          rcases Nat.lt_or_ge (sm (ln_nf x A) V) (x.1 + (x.2 v).natAbs) with c | c
          · exact absurd ⟨v2, o2, o1, c⟩ (hno v v1)
          · exact c
        · rw [bt_zero]
          exact ⟨fun e => (by cases e), fun e => absurd e (hno v hv)⟩
      by_cases tp : 0 < T
      · have k2 : ¬ T ≤ 0 := by omega
        have hno : ∀ v, 1 ≤ v → ¬ (v ≤ V ∧ ln_fc V x A v) := by
          rintro v v1 ⟨v2, _, _, h3⟩
          have h4 := t2 tp
          have h5 := hz_lt w8 (hx.2.2.2.2.2 v v2)
          rw [hx.2.2.1 v v1 v2] at h5
          omega
        simp only [pb_e71, e1, pb_g4, pb_o_some, true_and, hm69, Option.toList_some, List.singleton_append, true_and, g1, k1, if_true, g2, k2, if_false, not_true_eq_false, ea, pb_set_get, eq_self, pb_set_same]
        exact hcalm hno
      · have k2 : T ≤ 0 := by omega
        have hq := t3 (by omega)
        have hm70 := fun Q : Option Value → pb_H → Prop => m70 (h := pb_set h r (ci nr q')) (Q := Q) (b := op) hV (Nat.le_refl _) (by omega) w8 hnr hnr2 (ea _) (ew _) (er _)
        have hab := abv_bt f q' op wi V (by omega)
        have hfc : ∀ v, 1 ≤ v → (bt (abv f q' op wi V) v = true ↔ v ≤ V ∧ ln_fc V x A v) := by
          intro v v1
          rw [hab v v1, ho v v1]
          constructor
          · rintro ⟨v2, ⟨_, o1, o2⟩, c⟩
            refine ⟨v2, o2, o1, ?_⟩
            rw [wcp_eq] at c
            have a3 : wv f (v * 8) wi = (x.2 v).natAbs := by rw [← hx.2.2.1 v v1 v2]; exact (hz_val w8 (hx.2.2.2.2.2 v v2)).symm
            rw [a3] at c
            split at c
            · exact absurd c (by decide)
            · split at c
              · exact absurd c (by decide)
              · omega
          · rintro ⟨v2, o2, o1, c⟩
            refine ⟨v2, ⟨v2, o1, o2⟩, ?_⟩
            have a3 : wv f (v * 8) wi = (x.2 v).natAbs := by rw [← hx.2.2.1 v v1 v2]; exact (hz_val w8 (hx.2.2.2.2.2 v v2)).symm
            rw [wcp_eq, a3, if_neg (by omega), if_neg (by omega)]
        by_cases a0 : abv f q' op wi V = 0
        · simp only [pb_e71, e1, pb_g4, pb_o_some, true_and, hm69, Option.toList_some, List.singleton_append, true_and, g1, k1, if_true, g2, k2, ea, hm70, a0, not_true_eq_false, if_false, pb_set_get, eq_self, pb_set_same]
          refine hcalm (fun v v1 e => ?_)
          have := (hfc v v1).mpr e
          rw [a0, bt_zero] at this
          cases this
        · simp only [pb_e71, e1, pb_g4, pb_o_some, true_and, hm69, Option.toList_some, List.singleton_append, true_and, g1, k1, if_true, g2, k2, ea, hm70, a0, not_false_eq_true]
          exact hQ _ _ q' F1 ⟨f, p, n, wi, ca, cf, co, ea _, ew _, hx, hcm⟩ (er _) (Or.inr ⟨hnb, hfc⟩)
theorem AB_0 (V : Nat) : AB V (fun _ => none) 0 0 := fun v _ _ => by simp [bt_zero]
/-- Line.isFalse -/
theorem L85 {h : pb_H} {Q : Option Value → pb_H → Prop} {V a r nr : Nat} {so : Int32} {x : LN} {q : Nat → Int32} (hV : V ≤ 16) (hL : LA h V a so x) (hr : h.2 r = ci nr q) (hnr : 8 ≤ nr) (hnr2 : nr < 2 ^ 31) (hra : r ≠ a + 1) (hQ : ∀ h' q', fr (fun b => b = a ∨ b = r) h h' → LA h' V a so x → h'.2 r = ci nr q' → (ln_br V x (fun _ => none) → Q (some (.int 1)) h') ∧ (¬ ln_br V x (fun _ => none) → Q (some (.int 0)) h')) : pb_call 85 [.ref a, .ref r] h Q := by
  have hl := hL
  obtain ⟨f, p, n, wi, ca, cf, co, e1, _⟩ := hL
  rw [pb_c85]
  simp only [pb_e85, e1, pb_g4, true_and]
  refine L71 hV hl (AB_0 V) hr hnr hnr2 hra ?_
  intro h' z q' F L R hk
  have hb := LK_br hV hk
  by_cases c : ln_br V x (fun _ => none)
  · have hz := hb.mpr c
    simp only [Option.toList_some, List.singleton_append, pb_e85, hz, not_true_eq_false, if_false, nb1, true_and]
    exact (hQ h' q' F L R).1 c
  · have hz : ¬ z = -1 := fun e => c (hb.mp e)
    simp only [Option.toList_some, List.singleton_append, pb_e85, hz, not_false_eq_true, if_true, nb0, true_and]
    exact (hQ h' q' F L R).2 c
