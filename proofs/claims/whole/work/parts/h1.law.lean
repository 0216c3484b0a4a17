/-! The law: its calls, its loop -/
section LAW
variable {L : Nat} {xs : Nat → Int32} {h : pb_H} {Q : Option Value → pb_H → Prop} {i : Nat}
abbrev lwL (i : Nat) : pb_L := [some (.ref 0), some (.ref 1), some (.ref 65), some (.int (nI i))]
theorem lw_ai {k : Nat} {x : Int32} (hx : x = nI k) (hi : i + k < L) (hL : L ≤ 3073) : pb_ai (.inl (3, L, .inl xs)) (nI i + x) = some (xs (i + k)) := by
  rw [hx, nI_add]
  exact pb_ai_eq (Or.inr rfl) hi (by omega)
set_option maxRecDepth 100000 in
theorem lw_T0 (hL : L ≤ 3073) (hi : i + 6 ≤ L) (J : JJ L xs h) (hQ : ∀ h', JJ L xs h' → pb_R 225 28 (lwL (i + 6)) [] [] h' Q) : pb_R 225 116 (lwL i) [] [] h Q := by
  have g1 := lw_ai (xs := xs) (i := i) (k := 1) (x := 1) rfl (by omega) hL
  have g2 := lw_ai (xs := xs) (i := i) (k := 2) (x := 2) rfl (by omega) hL
  have g3 := lw_ai (xs := xs) (i := i) (k := 3) (x := 3) rfl (by omega) hL
  have g4 := lw_ai (xs := xs) (i := i) (k := 4) (x := 4) rfl (by omega) hL
  have g5 := lw_ai (xs := xs) (i := i) (k := 5) (x := 5) rfl (by omega) hL
  have e6 : nI i + 6 = nI (i + 6) := nI_add i 6
  suffices key : pb_call 124 [.ref 1, .int (xs (i + 1)), .int (xs (i + 2)), .int (xs (i + 3)), .int (xs (i + 4)), .int (xs (i + 5))] h (fun v t => pb_R 225 145 (lwL i) [] (v.toList ++ []) t Q) by
    simp only [pb_e225, J.1, g1, g2, g3, g4, g5, pb_o_some, JJ_is J, true_and] at key ⊢
    exact key
  refine O0 J _ ?_
  intro a t t0 t65 ht
  suffices key : pb_call 141 [.ref 65, .int (xs (i + 1)), .int (xs (i + 2)), .int (xs (i + 3)), .int (xs (i + 4)), .int (xs (i + 5))] t (fun v t' => pb_R 225 174 (lwL i) [] (v.toList ++ [.int a]) t' Q) by
    simp only [Option.toList_some, List.singleton_append, pb_e225, t0, g1, g2, g3, g4, g5, pb_o_some, t65, true_and] at key ⊢
    exact key
  refine ht _ ?_
  intro h' J'
  have key := hQ h' J'
  simp only [Option.toList_some, List.singleton_append, pb_e225, if_true, e6] at key ⊢
  exact key
set_option maxRecDepth 100000 in
theorem lw_T1 (hL : L ≤ 3073) (hi : i + 6 ≤ L) (J : JJ L xs h) (hQ : ∀ h', JJ L xs h' → pb_R 225 28 (lwL (i + 6)) [] [] h' Q) : pb_R 225 179 (lwL i) [] [] h Q := by
  have g1 := lw_ai (xs := xs) (i := i) (k := 1) (x := 1) rfl (by omega) hL
  have e6 : nI i + 6 = nI (i + 6) := nI_add i 6
  suffices key : pb_call 125 [.ref 1, .int (xs (i + 1))] h (fun v t => pb_R 225 188 (lwL i) [] (v.toList ++ []) t Q) by
    simp only [pb_e225, J.1, g1, pb_o_some, JJ_is J, true_and] at key ⊢
    exact key
  refine O1 J _ ?_
  intro a t t0 t65 ht
  suffices key : pb_call 142 [.ref 65, .int (xs (i + 1))] t (fun v t' => pb_R 225 197 (lwL i) [] (v.toList ++ [.int a]) t' Q) by
    simp only [Option.toList_some, List.singleton_append, pb_e225, t0, g1, pb_o_some, t65, true_and] at key ⊢
    exact key
  refine ht _ ?_
  intro h' J'
  have key := hQ h' J'
  simp only [Option.toList_some, List.singleton_append, pb_e225, if_true, e6] at key ⊢
  exact key
set_option maxRecDepth 100000 in
theorem lw_T2 (hL : L ≤ 3073) (hi : i + 6 ≤ L) (J : JJ L xs h) (hQ : ∀ h', JJ L xs h' → pb_R 225 28 (lwL (i + 6)) [] [] h' Q) : pb_R 225 202 (lwL i) [] [] h Q := by
  have e6 : nI i + 6 = nI (i + 6) := nI_add i 6
  suffices key : pb_call 126 [.ref 1] h (fun v t => pb_R 225 206 (lwL i) [] (v.toList ++ []) t Q) by
    simp only [pb_e225, J.1, pb_o_some, JJ_is J, true_and] at key ⊢
    exact key
  refine O2 J _ ?_
  intro a t t0 t65 ht
  suffices key : pb_call 192 [.ref 65] t (fun v t' => pb_R 225 210 (lwL i) [] (v.toList ++ [.int a]) t' Q) by
    simp only [Option.toList_some, List.singleton_append, pb_e225, t0, pb_o_some, t65, true_and] at key ⊢
    exact key
  refine ht _ ?_
  intro h' J'
  have key := hQ h' J'
  simp only [Option.toList_some, List.singleton_append, pb_e225, if_true, e6] at key ⊢
  exact key
set_option maxRecDepth 100000 in
theorem lw_T3 (hL : L ≤ 3073) (hi : i + 6 ≤ L) (J : JJ L xs h) (hQ : ∀ h', JJ L xs h' → pb_R 225 28 (lwL (i + 6)) [] [] h' Q) : pb_R 225 215 (lwL i) [] [] h Q := by
  have e6 : nI i + 6 = nI (i + 6) := nI_add i 6
  suffices key : pb_call 127 [.ref 1] h (fun v t => pb_R 225 219 (lwL i) [] (v.toList ++ []) t Q) by
    simp only [pb_e225, J.1, pb_o_some, JJ_is J, true_and] at key ⊢
    exact key
  refine O3 J _ ?_
  intro a t t0 t65 ht
  suffices key : pb_call 201 [.ref 65] t (fun v t' => pb_R 225 223 (lwL i) [] (v.toList ++ [.int a]) t' Q) by
    simp only [Option.toList_some, List.singleton_append, pb_e225, t0, pb_o_some, t65, true_and] at key ⊢
    exact key
  refine ht _ ?_
  intro h' J'
  have key := hQ h' J'
  simp only [Option.toList_some, List.singleton_append, pb_e225, if_true, e6] at key ⊢
  exact key
set_option maxRecDepth 100000 in
theorem lw_T4 (hL : L ≤ 3073) (hi : i + 6 ≤ L) (J : JJ L xs h) (hQ : ∀ h', JJ L xs h' → pb_R 225 28 (lwL (i + 6)) [] [] h' Q) : pb_R 225 228 (lwL i) [] [] h Q := by
  have g1 := lw_ai (xs := xs) (i := i) (k := 1) (x := 1) rfl (by omega) hL
  have e6 : nI i + 6 = nI (i + 6) := nI_add i 6
  suffices key : pb_call 128 [.ref 1, .int (xs (i + 1))] h (fun v t => pb_R 225 237 (lwL i) [] (v.toList ++ []) t Q) by
    simp only [pb_e225, J.1, g1, pb_o_some, JJ_is J, true_and] at key ⊢
    exact key
  refine O4 J _ ?_
  intro a t t0 t65 ht
  suffices key : pb_call 202 [.ref 65, .int (xs (i + 1))] t (fun v t' => pb_R 225 246 (lwL i) [] (v.toList ++ [.int a]) t' Q) by
    simp only [Option.toList_some, List.singleton_append, pb_e225, t0, g1, pb_o_some, t65, true_and] at key ⊢
    exact key
  refine ht _ ?_
  intro h' J'
  have key := hQ h' J'
  simp only [Option.toList_some, List.singleton_append, pb_e225, if_true, e6] at key ⊢
  exact key
set_option maxRecDepth 100000 in
theorem lw_T5 (hL : L ≤ 3073) (hi : i + 6 ≤ L) (J : JJ L xs h) (hQ : ∀ h', JJ L xs h' → pb_R 225 28 (lwL (i + 6)) [] [] h' Q) : pb_R 225 251 (lwL i) [] [] h Q := by
  have g1 := lw_ai (xs := xs) (i := i) (k := 1) (x := 1) rfl (by omega) hL
  have g2 := lw_ai (xs := xs) (i := i) (k := 2) (x := 2) rfl (by omega) hL
  have e6 : nI i + 6 = nI (i + 6) := nI_add i 6
  suffices key : pb_call 129 [.ref 1, .int (xs (i + 1)), .int (xs (i + 2))] h (fun v t => pb_R 225 265 (lwL i) [] (v.toList ++ []) t Q) by
    simp only [pb_e225, J.1, g1, g2, pb_o_some, JJ_is J, true_and] at key ⊢
    exact key
  refine O5 J _ ?_
  intro a t t0 t65 ht
  suffices key : pb_call 204 [.ref 65, .int (xs (i + 1)), .int (xs (i + 2))] t (fun v t' => pb_R 225 279 (lwL i) [] (v.toList ++ [.int a]) t' Q) by
    simp only [Option.toList_some, List.singleton_append, pb_e225, t0, g1, g2, pb_o_some, t65, true_and] at key ⊢
    exact key
  refine ht _ ?_
  intro h' J'
  have key := hQ h' J'
  simp only [Option.toList_some, List.singleton_append, pb_e225, if_true, e6] at key ⊢
  exact key
set_option maxRecDepth 100000 in
theorem lw_T6 (hL : L ≤ 3073) (hi : i + 6 ≤ L) (J : JJ L xs h) (hQ : ∀ h', JJ L xs h' → pb_R 225 28 (lwL (i + 6)) [] [] h' Q) : pb_R 225 284 (lwL i) [] [] h Q := by
  have g1 := lw_ai (xs := xs) (i := i) (k := 1) (x := 1) rfl (by omega) hL
  have g2 := lw_ai (xs := xs) (i := i) (k := 2) (x := 2) rfl (by omega) hL
  have g3 := lw_ai (xs := xs) (i := i) (k := 3) (x := 3) rfl (by omega) hL
  have e6 : nI i + 6 = nI (i + 6) := nI_add i 6
  suffices key : pb_call 130 [.ref 1, .int (xs (i + 1)), .int (xs (i + 2)), .int (xs (i + 3))] h (fun v t => pb_R 225 303 (lwL i) [] (v.toList ++ []) t Q) by
    simp only [pb_e225, J.1, g1, g2, g3, pb_o_some, JJ_is J, true_and] at key ⊢
    exact key
  refine O6 J _ ?_
  intro a t t0 t65 ht
  suffices key : pb_call 205 [.ref 65, .int (xs (i + 1)), .int (xs (i + 2)), .int (xs (i + 3))] t (fun v t' => pb_R 225 322 (lwL i) [] (v.toList ++ [.int a]) t' Q) by
    simp only [Option.toList_some, List.singleton_append, pb_e225, t0, g1, g2, g3, pb_o_some, t65, true_and] at key ⊢
    exact key
  refine ht _ ?_
  intro h' J'
  have key := hQ h' J'
  simp only [Option.toList_some, List.singleton_append, pb_e225, if_true, e6] at key ⊢
  exact key
set_option maxRecDepth 100000 in
theorem lw_T7 (hL : L ≤ 3073) (hi : i + 6 ≤ L) (J : JJ L xs h) (hQ : ∀ h', JJ L xs h' → pb_R 225 28 (lwL (i + 6)) [] [] h' Q) : pb_R 225 327 (lwL i) [] [] h Q := by
  have g1 := lw_ai (xs := xs) (i := i) (k := 1) (x := 1) rfl (by omega) hL
  have g2 := lw_ai (xs := xs) (i := i) (k := 2) (x := 2) rfl (by omega) hL
  have e6 : nI i + 6 = nI (i + 6) := nI_add i 6
  suffices key : pb_call 131 [.ref 1, .int (xs (i + 1)), .int (xs (i + 2))] h (fun v t => pb_R 225 341 (lwL i) [] (v.toList ++ []) t Q) by
    simp only [pb_e225, J.1, g1, g2, pb_o_some, JJ_is J, true_and] at key ⊢
    exact key
  refine O7 J _ ?_
  intro a t t0 t65 ht
  suffices key : pb_call 206 [.ref 65, .int (xs (i + 1)), .int (xs (i + 2))] t (fun v t' => pb_R 225 355 (lwL i) [] (v.toList ++ [.int a]) t' Q) by
    simp only [Option.toList_some, List.singleton_append, pb_e225, t0, g1, g2, pb_o_some, t65, true_and] at key ⊢
    exact key
  refine ht _ ?_
  intro h' J'
  have key := hQ h' J'
  simp only [Option.toList_some, List.singleton_append, pb_e225, if_true, e6] at key ⊢
  exact key
set_option maxRecDepth 100000 in
theorem lw_T8 (hL : L ≤ 3073) (hi : i + 6 ≤ L) (J : JJ L xs h) (hQ : ∀ h', JJ L xs h' → pb_R 225 28 (lwL (i + 6)) [] [] h' Q) : pb_R 225 360 (lwL i) [] [] h Q := by
  have g1 := lw_ai (xs := xs) (i := i) (k := 1) (x := 1) rfl (by omega) hL
  have e6 : nI i + 6 = nI (i + 6) := nI_add i 6
  suffices key : pb_call 132 [.ref 1, .int (xs (i + 1))] h (fun v t => pb_R 225 369 (lwL i) [] (v.toList ++ []) t Q) by
    simp only [pb_e225, J.1, g1, pb_o_some, JJ_is J, true_and] at key ⊢
    exact key
  refine O8 J _ ?_
  intro a t t0 t65 ht
  suffices key : pb_call 207 [.ref 65, .int (xs (i + 1))] t (fun v t' => pb_R 225 378 (lwL i) [] (v.toList ++ [.int a]) t' Q) by
    simp only [Option.toList_some, List.singleton_append, pb_e225, t0, g1, pb_o_some, t65, true_and] at key ⊢
    exact key
  refine ht _ ?_
  intro h' J'
  have key := hQ h' J'
  simp only [Option.toList_some, List.singleton_append, pb_e225, if_true, e6] at key ⊢
  exact key
set_option maxRecDepth 100000 in
theorem lw_T9 (hL : L ≤ 3073) (hi : i + 6 ≤ L) (J : JJ L xs h) (hQ : ∀ h', JJ L xs h' → pb_R 225 28 (lwL (i + 6)) [] [] h' Q) : pb_R 225 383 (lwL i) [] [] h Q := by
  have e6 : nI i + 6 = nI (i + 6) := nI_add i 6
  suffices key : pb_call 133 [.ref 1] h (fun v t => pb_R 225 387 (lwL i) [] (v.toList ++ []) t Q) by
    simp only [pb_e225, J.1, pb_o_some, JJ_is J, true_and] at key ⊢
    exact key
  refine O9 J _ ?_
  intro a t t0 t65 ht
  suffices key : pb_call 208 [.ref 65] t (fun v t' => pb_R 225 391 (lwL i) [] (v.toList ++ [.int a]) t' Q) by
    simp only [Option.toList_some, List.singleton_append, pb_e225, t0, pb_o_some, t65, true_and] at key ⊢
    exact key
  refine ht _ ?_
  intro h' J'
  have key := hQ h' J'
  simp only [Option.toList_some, List.singleton_append, pb_e225, if_true, e6] at key ⊢
  exact key
set_option maxRecDepth 100000 in
theorem lw_T10 (hL : L ≤ 3073) (hi : i + 6 ≤ L) (J : JJ L xs h) (hQ : ∀ h', JJ L xs h' → pb_R 225 28 (lwL (i + 6)) [] [] h' Q) : pb_R 225 396 (lwL i) [] [] h Q := by
  have g1 := lw_ai (xs := xs) (i := i) (k := 1) (x := 1) rfl (by omega) hL
  have e6 : nI i + 6 = nI (i + 6) := nI_add i 6
  suffices key : pb_call 134 [.ref 1, .int (xs (i + 1))] h (fun v t => pb_R 225 405 (lwL i) [] (v.toList ++ []) t Q) by
    simp only [pb_e225, J.1, g1, pb_o_some, JJ_is J, true_and] at key ⊢
    exact key
  refine O10 J _ ?_
  intro a t t0 t65 ht
  suffices key : pb_call 219 [.ref 65, .int (xs (i + 1))] t (fun v t' => pb_R 225 414 (lwL i) [] (v.toList ++ [.int a]) t' Q) by
    simp only [Option.toList_some, List.singleton_append, pb_e225, t0, g1, pb_o_some, t65, true_and] at key ⊢
    exact key
  refine ht _ ?_
  intro h' J'
  have key := hQ h' J'
  simp only [Option.toList_some, List.singleton_append, pb_e225, if_true, e6] at key ⊢
  exact key
set_option maxRecDepth 100000 in
theorem lw_T11 (hL : L ≤ 3073) (hi : i + 6 ≤ L) (J : JJ L xs h) (hQ : ∀ h', JJ L xs h' → pb_R 225 28 (lwL (i + 6)) [] [] h' Q) : pb_R 225 419 (lwL i) [] [] h Q := by
  have g1 := lw_ai (xs := xs) (i := i) (k := 1) (x := 1) rfl (by omega) hL
  have e6 : nI i + 6 = nI (i + 6) := nI_add i 6
  suffices key : pb_call 135 [.ref 1, .int (xs (i + 1))] h (fun v t => pb_R 225 428 (lwL i) [] (v.toList ++ []) t Q) by
    simp only [pb_e225, J.1, g1, pb_o_some, JJ_is J, true_and] at key ⊢
    exact key
  refine O11 J _ ?_
  intro a t t0 t65 ht
  suffices key : pb_call 220 [.ref 65, .int (xs (i + 1))] t (fun v t' => pb_R 225 437 (lwL i) [] (v.toList ++ [.int a]) t' Q) by
    simp only [Option.toList_some, List.singleton_append, pb_e225, t0, g1, pb_o_some, t65, true_and] at key ⊢
    exact key
  refine ht _ ?_
  intro h' J'
  have key := hQ h' J'
  simp only [Option.toList_some, List.singleton_append, pb_e225, if_true, e6] at key ⊢
  exact key
set_option maxRecDepth 100000 in
theorem lw_T12 (hL : L ≤ 3073) (hi : i + 6 ≤ L) (J : JJ L xs h) (hQ : ∀ h', JJ L xs h' → pb_R 225 28 (lwL (i + 6)) [] [] h' Q) : pb_R 225 442 (lwL i) [] [] h Q := by
  have g1 := lw_ai (xs := xs) (i := i) (k := 1) (x := 1) rfl (by omega) hL
  have g2 := lw_ai (xs := xs) (i := i) (k := 2) (x := 2) rfl (by omega) hL
  have e6 : nI i + 6 = nI (i + 6) := nI_add i 6
  suffices key : pb_call 136 [.ref 1, .int (xs (i + 1)), .int (xs (i + 2))] h (fun v t => pb_R 225 456 (lwL i) [] (v.toList ++ []) t Q) by
    simp only [pb_e225, J.1, g1, g2, pb_o_some, JJ_is J, true_and] at key ⊢
    exact key
  refine O12 J _ ?_
  intro a t t0 t65 ht
  suffices key : pb_call 221 [.ref 65, .int (xs (i + 1)), .int (xs (i + 2))] t (fun v t' => pb_R 225 470 (lwL i) [] (v.toList ++ [.int a]) t' Q) by
    simp only [Option.toList_some, List.singleton_append, pb_e225, t0, g1, g2, pb_o_some, t65, true_and] at key ⊢
    exact key
  refine ht _ ?_
  intro h' J'
  have key := hQ h' J'
  simp only [Option.toList_some, List.singleton_append, pb_e225, if_true, e6] at key ⊢
  exact key
set_option maxRecDepth 100000 in
theorem lw_T13 (hL : L ≤ 3073) (hi : i + 6 ≤ L) (J : JJ L xs h) (hQ : ∀ h', JJ L xs h' → pb_R 225 28 (lwL (i + 6)) [] [] h' Q) : pb_R 225 475 (lwL i) [] [] h Q := by
  have g1 := lw_ai (xs := xs) (i := i) (k := 1) (x := 1) rfl (by omega) hL
  have e6 : nI i + 6 = nI (i + 6) := nI_add i 6
  suffices key : pb_call 137 [.ref 1, .int (xs (i + 1))] h (fun v t => pb_R 225 484 (lwL i) [] (v.toList ++ []) t Q) by
    simp only [pb_e225, J.1, g1, pb_o_some, JJ_is J, true_and] at key ⊢
    exact key
  refine O13 J _ ?_
  intro a t t0 t65 ht
  suffices key : pb_call 222 [.ref 65, .int (xs (i + 1))] t (fun v t' => pb_R 225 493 (lwL i) [] (v.toList ++ [.int a]) t' Q) by
    simp only [Option.toList_some, List.singleton_append, pb_e225, t0, g1, pb_o_some, t65, true_and] at key ⊢
    exact key
  refine ht _ ?_
  intro h' J'
  have key := hQ h' J'
  simp only [Option.toList_some, List.singleton_append, pb_e225, if_true, e6] at key ⊢
  exact key
set_option maxRecDepth 100000 in
theorem lw_T14 (hL : L ≤ 3073) (hi : i + 6 ≤ L) (J : JJ L xs h) (hQ : ∀ h', JJ L xs h' → pb_R 225 28 (lwL (i + 6)) [] [] h' Q) : pb_R 225 498 (lwL i) [] [] h Q := by
  have g1 := lw_ai (xs := xs) (i := i) (k := 1) (x := 1) rfl (by omega) hL
  have e6 : nI i + 6 = nI (i + 6) := nI_add i 6
  suffices key : pb_call 138 [.ref 1, .int (xs (i + 1))] h (fun v t => pb_R 225 507 (lwL i) [] (v.toList ++ []) t Q) by
    simp only [pb_e225, J.1, g1, pb_o_some, JJ_is J, true_and] at key ⊢
    exact key
  refine O14 J _ ?_
  intro a t t0 t65 ht
  suffices key : pb_call 223 [.ref 65, .int (xs (i + 1))] t (fun v t' => pb_R 225 516 (lwL i) [] (v.toList ++ [.int a]) t' Q) by
    simp only [Option.toList_some, List.singleton_append, pb_e225, t0, g1, pb_o_some, t65, true_and] at key ⊢
    exact key
  refine ht _ ?_
  intro h' J'
  have key := hQ h' J'
  simp only [Option.toList_some, List.singleton_append, pb_e225, if_true, e6] at key ⊢
  exact key
theorem lw_cmp (hL : L ≤ 3073) (hi : i ≤ 4000) : nI L - 6 < nI i ↔ ¬ i + 6 ≤ L := by
  by_cases c : 6 ≤ L
  · have e : nI L - 6 = nI (L - 6) := nI_sub' c
    rw [e]
    constructor
    · intro w q
      exact absurd w (nI_nlt (by omega) (by omega))
    · intro w
      exact nI_lt (by omega) (by omega)
  · have neg : nI L - 6 < 0 := by
      have : L = 0 ∨ L = 1 ∨ L = 2 ∨ L = 3 ∨ L = 4 ∨ L = 5 := by omega
      rcases this with rfl | rfl | rfl | rfl | rfl | rfl <;> decide
    have hp : 0 ≤ nI i := nI_pos' (by omega)
    exact ⟨fun _ => by omega, fun _ => Int32.lt_of_lt_of_le neg hp⟩
set_option maxRecDepth 100000 in
theorem lw_loop (hL : L ≤ 3073) (hQ : ∀ h, JJ L xs h → Q (some (.int 1)) h) : ∀ r i h, L < i + r → i ≤ 4000 → JJ L xs h → pb_R 225 28 (lwL i) [] [] h Q := by
  intro r
  have al : pb_al2 (.inl (3, L, .inl xs)) = some L := rfl
  have eL : Int32.ofNat L = nI L := rfl
  have fin : ∀ i h, ¬ i + 6 ≤ L → i ≤ 4000 → JJ L xs h → pb_R 225 28 (lwL i) [] [] h Q := by
    intro i h hi h4 J
    have c1 : nI L - 6 < nI i := (lw_cmp hL h4).mpr hi
    have key := hQ h J
    rw [pb_q225_28]
    simp only [pb_e225, J.1, al, pb_o_some, eL, c1, if_true, nb1, true_and]
    exact key
  induction r with
  | zero =>
    intro i h hi h4 J
    exact fin i h (by omega) h4 J
  | succ r ih =>
    intro i h hi h4 J
    by_cases cl : i + 6 ≤ L
    · have c1 : ¬ nI L - 6 < nI i := fun w => (lw_cmp hL h4).mp w cl
      have g0 : pb_ai (.inl (3, L, .inl xs)) (nI i) = some (xs i) := pb_ai_eq (Or.inr rfl) (by omega) (by omega)
      have e6 : nI i + 6 = nI (i + 6) := nI_add i 6
      have nx : ∀ h', JJ L xs h' → pb_R 225 28 (lwL (i + 6)) [] [] h' Q := fun h' J' => ih (i + 6) h' (by omega) (by omega) J'
      rw [pb_q225_28]
      suffices key : pb_R 225 43 (lwL i) [] [.int (xs i &&& 15)] h Q by
        simp only [pb_e225, J.1, al, pb_o_some, eL, c1, if_false, g0] at key ⊢
        exact key
      rw [pb_q225_43]
      generalize xs i &&& 15 = x
      refine if h0 : x = 0 then (by rw [if_pos h0]; exact lw_T0 hL cl J nx) else ?_
      rw [if_neg h0]
      refine if h1 : x = 1 then (by rw [if_pos h1]; exact lw_T1 hL cl J nx) else ?_
      rw [if_neg h1]
      refine if h2 : x = 2 then (by rw [if_pos h2]; exact lw_T2 hL cl J nx) else ?_
      rw [if_neg h2]
      refine if h3 : x = 3 then (by rw [if_pos h3]; exact lw_T3 hL cl J nx) else ?_
      rw [if_neg h3]
      refine if h4 : x = 4 then (by rw [if_pos h4]; exact lw_T4 hL cl J nx) else ?_
      rw [if_neg h4]
      refine if h5 : x = 5 then (by rw [if_pos h5]; exact lw_T5 hL cl J nx) else ?_
      rw [if_neg h5]
      refine if h6 : x = 6 then (by rw [if_pos h6]; exact lw_T6 hL cl J nx) else ?_
      rw [if_neg h6]
      refine if h7 : x = 7 then (by rw [if_pos h7]; exact lw_T7 hL cl J nx) else ?_
      rw [if_neg h7]
      refine if h8 : x = 8 then (by rw [if_pos h8]; exact lw_T8 hL cl J nx) else ?_
      rw [if_neg h8]
      refine if h9 : x = 9 then (by rw [if_pos h9]; exact lw_T9 hL cl J nx) else ?_
      rw [if_neg h9]
      refine if h10 : x = 10 then (by rw [if_pos h10]; exact lw_T10 hL cl J nx) else ?_
      rw [if_neg h10]
      refine if h11 : x = 11 then (by rw [if_pos h11]; exact lw_T11 hL cl J nx) else ?_
      rw [if_neg h11]
      refine if h12 : x = 12 then (by rw [if_pos h12]; exact lw_T12 hL cl J nx) else ?_
      rw [if_neg h12]
      refine if h13 : x = 13 then (by rw [if_pos h13]; exact lw_T13 hL cl J nx) else ?_
      rw [if_neg h13]
      refine if h14 : x = 14 then (by rw [if_pos h14]; exact lw_T14 hL cl J nx) else ?_
      rw [if_neg h14]
      have key := nx h J
      simp only [pb_e225, e6] at key ⊢
      exact key
    · exact fin i h cl h4 J
end LAW
