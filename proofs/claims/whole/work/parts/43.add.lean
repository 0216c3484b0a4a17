/-! Line: cancel, add. -/
def hl (h : pb_H) (a N : Nat) (V : Int32) (f : Nat → Int32) (p n wi so ca cf co : Int32) : pb_H := pb_set (pb_set h (a + 1) (ci N f)) a (cl V (a + 1) p n wi so ca cf co)
section HL
variable {h : pb_H} {a N : Nat} {V : Int32} {f f' : Nat → Int32} {p n wi so ca cf co p' n' wi' so' ca' cf' co' : Int32}
theorem hl_a : (hl h a N V f p n wi so ca cf co).2 a = cl V (a + 1) p n wi so ca cf co := by unfold hl; rw [pb_set_get, if_pos rfl]
theorem hl_w : (hl h a N V f p n wi so ca cf co).2 (a + 1) = ci N f := by unfold hl; rw [pb_set_get, if_neg (by omega), pb_set_get, if_pos rfl]
theorem hl_o {b : Nat} (h1 : b ≠ a) (h2 : b ≠ a + 1) : (hl h a N V f p n wi so ca cf co).2 b = h.2 b := by unfold hl; rw [pb_set_get, if_neg h1, pb_set_get, if_neg h2]
theorem hl_sw : pb_set (hl h a N V f p n wi so ca cf co) (a + 1) (ci N f') = hl h a N V f' p n wi so ca cf co := by unfold hl; rw [pb_set3 _ (by omega)]
theorem hl_sa : pb_set (hl h a N V f p n wi so ca cf co) a (cl V (a + 1) p' n' wi' so' ca' cf' co') = hl h a N V f p' n' wi' so' ca' cf' co' := by unfold hl; rw [pb_set_same]
theorem hl_id (e1 : h.2 a = cl V (a + 1) p n wi so ca cf co) (e2 : h.2 (a + 1) = ci N f) : hl h a N V f p n wi so ca cf co = h := by unfold hl; rw [pb_set_id h e2, pb_set_id h e1]
end HL
theorem hl_fr {h : pb_H} {a N V : Nat} {f g : Nat → Int32} {p n wi so ca cf co p0 n0 wi0 so0 ca0 cf0 co0 V0 : Int32} {w : Nat} (e1 : h.2 a = cl V0 w p0 n0 wi0 so0 ca0 cf0 co0) (e2 : h.2 (a + 1) = ci N g) : fr (lc a) h (hl h a N (nI V) f p n wi so ca cf co) := fr_trans (fr_set (Or.inr rfl) (by rw [e2]; rfl)) (fr_set (Or.inl rfl) (by rw [pb_set_get, if_neg (by omega), e1]; rfl))
theorem i32_m1 : ¬ (0 : Int32) ≤ -1 := by decide
/-- the words of one number that loses another -/
theorem wn_8 (f : Nat → Int32) (i : Nat) (h : wv f i 8 ≠ 0) : wv (wn f i 8).1 i 8 = 4294967296 ^ 8 - wv f i 8 := by
  have h1 := wn_sum f i 8
  have h2 := wn_carry f i 8
  have h3 := wv_lt (wn f i 8).1 i 8
  rcases Nat.lt_or_ge (wn f i 8).2 1 with h0 | h0
  · have : (wn f i 8).2 = 0 := by omega
    rw [this] at h1
    omega
  · have : (wn f i 8).2 = 1 := by omega
    rw [this] at h1
    omega
theorem tod_lt {f g : Nat → Int32} {at_ W o : Nat} (hW : W ≤ 8) (hf : hz f 0 W) : wv (tod f g at_ W o).1 0 8 < 4294967296 ^ W := by
  unfold tod
  split
  · show wv (wss (wsb f g 0 at_ W).1 0 0 (7 + 1)) 0 (7 + 1) < _
    rw [wss_val, wu_zero]
    exact Nat.pow_pos (by omega)
  · exact hz_lt hW (fun k h1 h2 => by rw [wsb_out f g 0 at_ W (0 + k) (by omega)]; exact hf k h1 h2)
/-- Line.cancel -/
theorem L63 {h : pb_H} {Q : Option Value → pb_H → Prop} {V a b v bd o : Nat} {f g : Nat → Int32} {p n wi so ca cf co p2 n2 wi2 so2 ca2 cf2 co2 V2 : Int32} (hV : V ≤ 16) (hab : b ≠ a) (hb : h.2 b = cl V2 (b + 1) p2 n2 wi2 so2 ca2 cf2 co2) (hb1 : h.2 (b + 1) = ci ((V + 1) * 8) g) (ha : h.2 a = cl (nI V) (a + 1) p n wi so ca cf co) (ha1 : h.2 (a + 1) = ci ((V + 1) * 8) f) (h1 : 1 ≤ v) (h2 : v ≤ V) (hbd : bd ≤ 8) (ho : o ≤ 1) (z0 : hz f 0 bd) (z1 : hz f (v * 8) bd) (z2 : hz g (v * 8) bd)
    (hQ : ∀ f' p' n' o', o' ≤ o → wv f' 0 8 < 4294967296 ^ bd → (∀ k, 8 ≤ k → (k < v * 8 ∨ v * 8 + 8 ≤ k) → f' k = f k) → wv f' 0 8 + o' * 4294967296 ^ bd = wv f 0 8 + o * 4294967296 ^ bd - min (wv f (v * 8) 8) (wv g (v * 8) 8) → wv f' (v * 8) 8 = (wv f (v * 8) 8 - wv g (v * 8) 8) + (wv g (v * 8) 8 - wv f (v * 8) 8) → (∀ u, 1 ≤ u → u ≠ v → bt p' u = bt p u ∧ bt n' u = bt n u) → (bt p' v = if wv g (v * 8) 8 < wv f (v * 8) 8 then bt p v else if wv f (v * 8) 8 = wv g (v * 8) 8 then false else decide (0 < sgn p2 n2 v)) → (bt n' v = if wv g (v * 8) 8 < wv f (v * 8) 8 then bt n v else if wv f (v * 8) 8 = wv g (v * 8) 8 then false else decide (sgn p2 n2 v < 0)) → Q (some (.int (nI o'))) (hl h a ((V + 1) * 8) (nI V) f' p' n' wi so ca cf co)) :
    pb_call 63 [.ref a, .ref b, .int (nI v), .int (nI o), .int (nI bd)] h Q := by
  have hba1 : b ≠ a + 1 := fun e => by rw [← e, hb] at ha1; cases ha1
  have hb1a : b + 1 ≠ a := fun e => by rw [e, ha] at hb1; cases hb1
  have hb11 : b + 1 ≠ a + 1 := by omega
  have e8 : nI v * 8 = nI (v * 8) := pk_mul v 8
  have hm61 := fun Q : Option Value → pb_H → Prop => m61 (h := h) (Q := Q) (W := bd) (i := v * 8) (j := v * 8) ha1 hb1 (by omega) (by omega) (by omega) (by omega)
  have hcp := wcp_8 hbd z1 z2
  have rB : ∀ f' p' n', (hl h a ((V + 1) * 8) (nI V) f' p' n' wi so ca cf co).2 b = cl V2 (b + 1) p2 n2 wi2 so2 ca2 cf2 co2 := fun f' p' n' => (hl_o hab hba1).trans hb
  have rB1 : ∀ f' p' n', (hl h a ((V + 1) * 8) (nI V) f' p' n' wi so ca cf co).2 (b + 1) = ci ((V + 1) * 8) g := fun f' p' n' => (hl_o hb1a hb11).trans hb1
  have hid : hl h a ((V + 1) * 8) (nI V) f p n wi so ca cf co = h := hl_id ha ha1
  have hm54 : ∀ f' p' n' sg (Q : Option Value → pb_H → Prop), pb_call 54 [.ref a, .int (nI v), .int sg] (hl h a ((V + 1) * 8) (nI V) f' p' n' wi so ca cf co) Q ↔ Q none (hl h a ((V + 1) * 8) (nI V) f' (ssp p' v sg) (ssn n' v sg) wi so ca cf co) := fun f' p' n' sg Q => by rw [m54 hl_a, hl_sa]
  rw [pb_c63]
  simp only [pb_e63, ha, hb, pb_g4, pb_o_some, e8, hm61, Option.toList_some, List.singleton_append]
  by_cases c : wv f (v * 8) 8 < wv g (v * 8) 8
  · have ec : wcp f g (v * 8) (v * 8) bd = -1 := by rw [hcp, if_pos c]
    have hm53 : ∀ Q : Option Value → pb_H → Prop, pb_call 53 [.ref a, .ref (a + 1), .int (nI (v * 8)), .int (nI o), .int (nI bd)] h Q ↔ Q (some (.int (nI (tod f f (v * 8) bd o).2))) (hl h a ((V + 1) * 8) (nI V) (tod f f (v * 8) bd o).1 p n wi so ca cf co) := fun Q => by rw [m53 ha ha1 ha1 (fun _ => by omega) hbd (by omega) (by omega) ho (by omega) (by omega), ← hl_sw (f := f), hid]
    have hm51 : ∀ (z : Nat → Int32) (Q : Option Value → pb_H → Prop), pb_call 51 [.ref (a + 1), .int (nI (v * 8)), .ref (b + 1), .int (nI (v * 8)), .int 8] (hl h a ((V + 1) * 8) (nI V) z p n wi so ca cf co) Q ↔ Q (some (.int (nI (wsb z g (v * 8) (v * 8) 8).2))) (hl h a ((V + 1) * 8) (nI V) (wsb z g (v * 8) (v * 8) 8).1 p n wi so ca cf co) := fun z Q => by
      have := m51 (h := hl h a ((V + 1) * 8) (nI V) z p n wi so ca cf co) (Q := Q) (a := a + 1) (b := b + 1) (i := v * 8) (j := v * 8) (W := 8) hl_w (rB1 _ _ _) (fun e => absurd e hb11) (by omega) (by omega) (by omega) (by omega)
      rw [hl_sw] at this
      exact this
    have hm62 : ∀ (z : Nat → Int32) (Q : Option Value → pb_H → Prop), pb_call 62 [.ref (a + 1), .int (nI (v * 8))] (hl h a ((V + 1) * 8) (nI V) z p n wi so ca cf co) Q ↔ Q none (hl h a ((V + 1) * 8) (nI V) (wn z (v * 8) 8).1 p n wi so ca cf co) := fun z Q => by rw [m62 hl_w (by omega) (by omega), hl_sw]
    have hm60 : ∀ (z : Nat → Int32) (Q : Option Value → pb_H → Prop), pb_call 60 [.ref b, .int (nI v)] (hl h a ((V + 1) * 8) (nI V) z p n wi so ca cf co) Q ↔ Q (some (.int (sgn p2 n2 v))) (hl h a ((V + 1) * 8) (nI V) z p n wi so ca cf co) := fun z Q => m60 (rB _ _ _) h1 (by omega)
    have hne : ¬ (-1 : Int32) = 0 := by decide
    have hlt : (-1 : Int32) < 0 := by decide
    simp only [ec, hlt, if_true, hm53, pb_e63, pb_o_some, Option.toList_some, Option.toList_none, List.nil_append, List.singleton_append, hl_a, rB, pb_g4, hm51, hm62, hm60, hm54, hne, if_false, not_false_eq_true]
    have ts := tod_sp (f := f) (g := f) (at_ := v * 8) (W := bd) (o := o) hbd z0 z1
    have tout : ∀ k, 8 ≤ k → (tod f f (v * 8) bd o).1 k = f k := fun k hk => tod_out hbd hk
    have t1 : wv (tod f f (v * 8) bd o).1 (v * 8) 8 = wv f (v * 8) 8 := wv_congr (fun i _ => tout _ (by omega))
    have s1 := wsb_sum (tod f f (v * 8) bd o).1 g (v * 8) (v * 8) 8
    have s2 := wsb_b (tod f f (v * 8) bd o).1 g (v * 8) (v * 8) 8
    have s3 := wv_lt (wsb (tod f f (v * 8) bd o).1 g (v * 8) (v * 8) 8).1 (v * 8) 8
    rw [t1] at s1
    have s4 : (wsb (tod f f (v * 8) bd o).1 g (v * 8) (v * 8) 8).2 = 1 := by
      rcases Nat.lt_or_ge (wsb (tod f f (v * 8) bd o).1 g (v * 8) (v * 8) 8).2 1 with h0 | h0
      · have : (wsb (tod f f (v * 8) bd o).1 g (v * 8) (v * 8) 8).2 = 0 := by omega
        rw [this] at s1
        omega
      · omega
    rw [s4] at s1
    have g8 := wv_lt g (v * 8) 8
    have n1 := wn_8 (wsb (tod f f (v * 8) bd o).1 g (v * 8) (v * 8) 8).1 (v * 8) (by omega)
    have fin := hQ (wn (wsb (tod f f (v * 8) bd o).1 g (v * 8) (v * 8) 8).1 (v * 8) 8).1 (ssp p v (sgn p2 n2 v)) (ssn n v (sgn p2 n2 v)) (tod f f (v * 8) bd o).2 tod_le (by rw [show wv (wn (wsb (tod f f (v * 8) bd o).1 g (v * 8) (v * 8) 8).1 (v * 8) 8).1 0 8 = wv (tod f f (v * 8) bd o).1 0 8 from wv_congr (fun i hi => by rw [wn_out _ _ _ _ (by omega), wsb_out _ _ _ _ _ _ (by omega)])]; exact tod_lt hbd z0) (fun k hk hk2 => by rw [wn_out _ _ _ _ hk2, wsb_out _ _ _ _ _ _ hk2, tout k hk]) ?_ (by rw [n1]; omega) (fun u hu huv => by rw [bt_ssp h1 (by omega) hu, bt_ssn h1 (by omega) hu, if_neg huv, if_neg huv]; exact ⟨rfl, rfl⟩) ?_ ?_
    · simpa using fin
    · rw [show wv (wn (wsb (tod f f (v * 8) bd o).1 g (v * 8) (v * 8) 8).1 (v * 8) 8).1 0 8 = wv (tod f f (v * 8) bd o).1 0 8 from wv_congr (fun i hi => by rw [wn_out _ _ _ _ (by omega), wsb_out _ _ _ _ _ _ (by omega)])]
      rw [ts, Nat.min_eq_left (by omega)]
    · rw [bt_ssp h1 (by omega) h1, if_pos rfl, if_neg (by omega), if_neg (by omega)]
    · rw [bt_ssn h1 (by omega) h1, if_pos rfl, if_neg (by omega), if_neg (by omega)]
  · have hm53 : ∀ Q : Option Value → pb_H → Prop, pb_call 53 [.ref a, .ref (b + 1), .int (nI (v * 8)), .int (nI o), .int (nI bd)] h Q ↔ Q (some (.int (nI (tod f g (v * 8) bd o).2))) (hl h a ((V + 1) * 8) (nI V) (tod f g (v * 8) bd o).1 p n wi so ca cf co) := fun Q => by rw [m53 ha ha1 hb1 (fun _ => by omega) hbd (by omega) (by omega) ho (by omega) (by omega), ← hl_sw (f := f), hid]
    have hm51 : ∀ (z : Nat → Int32) (Q : Option Value → pb_H → Prop), pb_call 51 [.ref (a + 1), .int (nI (v * 8)), .ref (b + 1), .int (nI (v * 8)), .int (nI bd)] (hl h a ((V + 1) * 8) (nI V) z p n wi so ca cf co) Q ↔ Q (some (.int (nI (wsb z g (v * 8) (v * 8) bd).2))) (hl h a ((V + 1) * 8) (nI V) (wsb z g (v * 8) (v * 8) bd).1 p n wi so ca cf co) := fun z Q => by
      have := m51 (h := hl h a ((V + 1) * 8) (nI V) z p n wi so ca cf co) (Q := Q) (a := a + 1) (b := b + 1) (i := v * 8) (j := v * 8) (W := bd) hl_w (rB1 _ _ _) (fun e => absurd e hb11) (by omega) (by omega) (by omega) (by omega)
      rw [hl_sw] at this
      exact this
    have ts := tod_sp (f := f) (g := g) (at_ := v * 8) (W := bd) (o := o) hbd z0 z2
    have tout : ∀ k, 8 ≤ k → (tod f g (v * 8) bd o).1 k = f k := fun k hk => tod_out hbd hk
    have t1 : wv (tod f g (v * 8) bd o).1 (v * 8) 8 = wv f (v * 8) 8 := wv_congr (fun i _ => tout _ (by omega))
    have zt : hz (tod f g (v * 8) bd o).1 (v * 8) bd := fun j j1 j2 => by rw [tout _ (by omega)]; exact z1 j j1 j2
    have s1 := wsb_8 hbd zt z2
    have s2 := wsb_b (tod f g (v * 8) bd o).1 g (v * 8) (v * 8) bd
    have s3 : wv (wsb (tod f g (v * 8) bd o).1 g (v * 8) (v * 8) bd).1 (v * 8) 8 < 4294967296 ^ bd := hz_lt hbd (fun j j1 j2 => by rw [wsb_out _ _ _ _ _ _ (by omega)]; exact zt j j1 j2)
    rw [t1] at s1
    have s4 : (wsb (tod f g (v * 8) bd o).1 g (v * 8) (v * 8) bd).2 = 0 := by
      rcases Nat.lt_or_ge (wsb (tod f g (v * 8) bd o).1 g (v * 8) (v * 8) bd).2 1 with h0 | h0
      · omega
      · have : (wsb (tod f g (v * 8) bd o).1 g (v * 8) (v * 8) bd).2 = 1 := by omega
        rw [this] at s1
        omega
    rw [s4] at s1
    have hdeg : wv (wsb (tod f g (v * 8) bd o).1 g (v * 8) (v * 8) bd).1 0 8 = wv (tod f g (v * 8) bd o).1 0 8 := wv_congr (fun i hi => wsb_out _ _ _ _ _ _ (by omega))
    by_cases ce : wv f (v * 8) 8 = wv g (v * 8) 8
    · have ec : wcp f g (v * 8) (v * 8) bd = 0 := by rw [hcp, if_neg c, if_pos ce]
      have hlt : ¬ (0 : Int32) < 0 := by decide
      simp only [ec, hlt, if_false, hm53, pb_e63, pb_o_some, Option.toList_some, Option.toList_none, List.nil_append, List.singleton_append, hl_a, rB, pb_g4, hm51, hm54, not_true_eq_false]
      have fin := hQ (wsb (tod f g (v * 8) bd o).1 g (v * 8) (v * 8) bd).1 (ssp p v 0) (ssn n v 0) (tod f g (v * 8) bd o).2 tod_le (by rw [hdeg]; exact tod_lt hbd z0) (fun k hk hk2 => by rw [wsb_out _ _ _ _ _ _ (by omega), tout k hk]) (by rw [hdeg, ts, Nat.min_eq_right (by omega)]) (by omega) (fun u hu huv => by rw [bt_ssp h1 (by omega) hu, bt_ssn h1 (by omega) hu, if_neg huv, if_neg huv]; exact ⟨rfl, rfl⟩) (by rw [bt_ssp h1 (by omega) h1, if_pos rfl, if_neg (by omega), if_pos ce]; decide) (by rw [bt_ssn h1 (by omega) h1, if_pos rfl, if_neg (by omega), if_pos ce]; decide)
      simpa using fin
    · have ec : wcp f g (v * 8) (v * 8) bd = 1 := by rw [hcp, if_neg c, if_neg ce]
      have hlt : ¬ (1 : Int32) < 0 := by decide
      have hne : ¬ (1 : Int32) = 0 := by decide
      simp only [ec, hlt, if_false, hm53, pb_e63, pb_o_some, Option.toList_some, Option.toList_none, List.nil_append, List.singleton_append, hl_a, rB, pb_g4, hm51, hne, not_false_eq_true, if_true]
      have fin := hQ (wsb (tod f g (v * 8) bd o).1 g (v * 8) (v * 8) bd).1 p n (tod f g (v * 8) bd o).2 tod_le (by rw [hdeg]; exact tod_lt hbd z0) (fun k hk hk2 => by rw [wsb_out _ _ _ _ _ _ (by omega), tout k hk]) (by rw [hdeg, ts, Nat.min_eq_right (by omega)]) (by omega) (fun u hu huv => ⟨rfl, rfl⟩) (by rw [if_pos (by omega)]) (by rw [if_pos (by omega)])
      simpa using fin
