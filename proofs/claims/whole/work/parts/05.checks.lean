/-! What the tables must say of each entry, as a test that the kernel runs. -/
def pb_W : List Cond := lw_tbl.filter goodWord
def pb_chk (c : Nat) : List Cond := ([k2_sels lw_privs, tables_1_1, tables_1_2, tables_1_3, tables_1_4, tables_1_5, tables_1_6, tables_1_7] : List (List Cond)).getD c []
theorem pb_chk_in : ∀ (c : Nat) (w : Cond), w ∈ pb_chk c → w ∈ lw_tbl
  | 0, _, h => List.mem_append_left _ h
  | 1, _, h => List.mem_append_right _ (List.mem_append_left _ h)
  | 2, _, h => List.mem_append_right _ (List.mem_append_right _ (List.mem_append_left _ h))
  | 3, _, h => List.mem_append_right _ (List.mem_append_right _ (List.mem_append_right _ (List.mem_append_left _ h)))
  | 4, _, h => List.mem_append_right _ (List.mem_append_right _ (List.mem_append_right _ (List.mem_append_right _ (List.mem_append_left _ h))))
  | 5, _, h => List.mem_append_right _ (List.mem_append_right _ (List.mem_append_right _ (List.mem_append_right _ (List.mem_append_right _ (List.mem_append_left _ h)))))
  | 6, _, h => List.mem_append_right _ (List.mem_append_right _ (List.mem_append_right _ (List.mem_append_right _ (List.mem_append_right _ (List.mem_append_right _ (List.mem_append_left _ h))))))
  | 7, _, h => List.mem_append_right _ (List.mem_append_right _ (List.mem_append_right _ (List.mem_append_right _ (List.mem_append_right _ (List.mem_append_right _ (List.mem_append_right _ h))))))
  | _ + 8, _, h => absurd h List.not_mem_nil
def pb_hin (hs : List (Nat × Nat)) (k : Nat) (w : Cond) : Bool := match hs[k]? with
  | some q => decide ((pb_chk q.1)[q.2]? = some w) && goodWord w
  | none => false
theorem pb_hin_of {hs : List (Nat × Nat)} {k : Nat} {w : Cond} (h : pb_hin hs k w = true) : w ∈ pb_W := by
  unfold pb_hin at h
  split at h
  · rename_i q hq
    rw [Bool.and_eq_true, decide_eq_true_eq] at h
    exact List.mem_filter.mpr ⟨pb_chk_in _ _ (List.mem_of_getElem? h.1), h.2⟩
  · cases h
def pb_NW : List Cond := [.methodLinkNest "PlaneBench" 25 ⟨"PlaneBench$TextReader", "<init>", "()V"⟩ "PlaneBench", .methodLinkNest "PlaneBench$Checker" 19 ⟨"PlaneBench$Divider", "<init>", "()V"⟩ "PlaneBench", .methodLinkNest "PlaneBench$Search" 22 ⟨"PlaneBench$Divider", "<init>", "()V"⟩ "PlaneBench", .arrayOver (.object "PlaneBench$Line")]
def pb_len : Instr → Nat
  | .iload _ | .aload _ | .lload _ | .istore _ | .astore _ | .lstore _ | .bipush _ | .ldc _ | .newarray _ => 2
  | .sipush _ | .ldc_w _ | .ldc2_w _ | .iinc _ _ | .goto _ | .if_icmp _ _ | .ifCond _ _ | .ifnull _ | .ifnonnull _ | .getfield _ | .putfield _ | .new _ | .anewarray _ | .invokevirtual _ | .invokestatic _ | .invokespecial _ | .checkcast _ => 3
  | .tableswitch _ _ _ _ | .lookupswitch _ _ => 0
  | _ => 1
def pb_cl3 (ci : Nat) : vw_C := pb_cls.getD ci (RX10, TX10, 0)
def pb_fok (y : MethodName) (i ci k : Nat) (hs : List (Nat × Nat)) : Bool := decide (ci < 13) && decide (k < (pb_cl3 ci).2.2) && decide (((pb_cl3 ci).2.1 k).1 = (pb_cl3 ci).1) && pb_hin hs 0 (.fieldLink y.cls i (pb_cl3 ci).1 ((pb_cl3 ci).2.1 k).2.1 ((pb_cl3 ci).2.1 k).2.2.1)
def pb_pok (y : MethodName) (ci k : Nat) : Bool := !((pb_cl3 ci).2.1 k).2.2.2 || (decide (y.name = "<init>") && decide ((pb_cl3 ci).1 = y.cls))
def pb_sok (nd : Nat × Nat) (m c : Nat) : Bool := decide (c < m) && decide ((pb_nd c).1 + 1 ≤ nd.1) && decide (8 + (pb_ml c + 11) + (pb_nd c).2 ≤ nd.2)
def pb_hok (nd : Nat × Nat) (o : MethodName) (i : Nat) (y : MethodName) (hs : List (Nat × Nat)) : Bool := decide (1 ≤ nd.1) && decide (21 ≤ nd.2) && pb_hin hs 0 (.methodLink o.cls i y) && pb_hin hs 1 (.static y) && pb_hin hs 2 (.initialized "java/lang/Math")
def pb_okb (y : MethodName) (c : ByteArray) (nd : Nat × Nat) (m : Nat) (q : Nat × pb_X) (hs : List (Nat × Nat)) : Bool := decide (decode c q.1 = .ok (q.2.1, q.2.2.1)) && (decide (pb_len q.2.1 = 0) || decide (q.2.2.1 = pb_len q.2.1)) && (match q.2.1 with
  | .getfield i => pb_fok y i q.2.2.2.1 q.2.2.2.2.1 hs
  | .putfield i => pb_fok y i q.2.2.2.1 q.2.2.2.2.1 hs && pb_pok y q.2.2.2.1 q.2.2.2.2.1
  | .new i => decide (q.2.2.2.1 < 13) && pb_hin hs 0 (.classLink y.cls i (pb_cl3 q.2.2.2.1).1) && pb_hin hs 1 (.instantiable (pb_cl3 q.2.2.2.1).1 (pb_cl3 q.2.2.2.1).2.2) && pb_hin hs 2 (.initialized (pb_cl3 q.2.2.2.1).1)
  | .anewarray i => pb_hin hs 0 (.classLink y.cls i RX4)
  | .newarray t => pb_hin hs 0 (.arrayClass (newarray.typeOf t))
  | .ldc i => pb_hin hs 0 (.constant y.cls i (Int32.ofInt q.2.2.2.2.2))
  | .ldc_w i => pb_hin hs 0 (.constant y.cls i (Int32.ofInt q.2.2.2.2.2))
  | .ldc2_w i => pb_hin hs 0 (.constantLong y.cls i (Int64.ofInt q.2.2.2.2.2))
  | .invokestatic i => if q.2.2.2.1 = 1001 then decide (1 ≤ nd.1) && decide (26 ≤ nd.2) && pb_hin hs 0 (.methodLink y.cls i arraycopyName) && pb_hin hs 1 (.native arraycopyName) && pb_hin hs 2 (.static arraycopyName) && pb_hin hs 3 (.initialized "java/lang/System")
    else if q.2.2.2.1 = 1003 then pb_hok nd y i Lib.Math.min.name hs && pb_hin hs 3 (.code Lib.Math.min.name Lib.Math.min.code 2 (some .int))
    else if q.2.2.2.1 = 1004 then pb_hok nd y i Lib.Math.max.name hs && pb_hin hs 3 (.code Lib.Math.max.name Lib.Math.max.code 2 (some .int))
    else if q.2.2.2.1 = 1005 then pb_hok nd y i Lib.Math.abs.name hs && pb_hin hs 3 (.code Lib.Math.abs.name Lib.Math.abs.code 1 (some .int))
    else pb_sok nd m q.2.2.2.1 && decide (pb_kd q.2.2.2.1 = 0) && decide (q.2.2.2.2.1 = pb_na q.2.2.2.1) && pb_hin hs 0 (.methodLink y.cls i (pb_y q.2.2.2.1))
  | .invokespecial i => if q.2.2.2.1 = 1000 then decide (1 ≤ nd.1) && decide (12 ≤ nd.2) && pb_hin hs 0 (.methodLink y.cls i objectInit) && pb_hin hs 1 (.instanceMethod objectInit) && pb_hin hs 2 (.code objectInit ⟨#[0xb1]⟩ 1 none)
    else pb_sok nd m q.2.2.2.1 && decide (pb_kd q.2.2.2.1 = 2) && decide (q.2.2.2.2.1 = pb_na q.2.2.2.1 + 1) && (pb_hin hs 0 (.methodLink y.cls i (pb_y q.2.2.2.1)) || decide (.methodLinkNest y.cls i (pb_y q.2.2.2.1) "PlaneBench" ∈ pb_NW))
  | .invokevirtual i => decide (q.2.2.2.1 = 1002) || (pb_sok nd m q.2.2.2.1 && decide (pb_kd q.2.2.2.1 = 1) && decide (q.2.2.2.2.1 = pb_na q.2.2.2.1 + 1) && pb_hin hs 0 (.methodLink y.cls i (pb_y q.2.2.2.1)))
  | _ => true)
def pb_okL (y : MethodName) (c : ByteArray) (nd : Nat × Nat) (m : Nat) : List (Nat × pb_X) → List (List (Nat × Nat)) → Bool
  | [], [] => true
  | e :: es, g :: gs => pb_okb y c nd m e g && pb_okL y c nd m es gs
  | _, _ => false
theorem pb_okL_of {y : MethodName} {c : ByteArray} {nd : Nat × Nat} {m : Nat} : ∀ (es : List (Nat × pb_X)) (gs : List (List (Nat × Nat))), pb_okL y c nd m es gs = true → ∀ q ∈ es, ∃ g, pb_okb y c nd m q g = true
  | [], _, _, q, h => absurd h List.not_mem_nil
  | e :: es, [], h, _, _ => by cases h
  | e :: es, g :: gs, h, q, hq => by
    unfold pb_okL at h
    rw [Bool.and_eq_true] at h
    rcases List.mem_cons.mp hq with rfl | hq
    · exact ⟨g, h.1⟩
    · exact pb_okL_of es gs h.2 q hq
/-- of a method that is called -/
def pb_mok (y : MethodName) (b : ByteArray) (ml na : Nat) (rt : Option FieldType) (kd : Nat) (ci : Nat) (hs : List (Nat × Nat)) : Bool := decide (y.cls ≠ "java/lang/invoke/MethodHandle") && decide (y.cls ≠ "java/lang/invoke/VarHandle") && plainName y.cls && decide ((parseMethodDescriptor y.desc).map (fun d => d.parameters.length) = some na) && pb_hin hs 0 (.initialized y.cls) && pb_hin hs 1 (.code y b ml rt)
  && (match kd with
    | 0 => pb_hin hs 2 (.static y)
    | 1 => pb_hin hs 2 (.instanceMethod y) && pb_hin hs 3 (.selects y.cls y y) && decide (ci < 13) && decide ((pb_cl3 ci).1 = y.cls)
    | _ => pb_hin hs 2 (.instanceMethod y) && decide (y.name = "<init>") && decide (rt = none))
def pb_uok (C : String) (T : u_T) : Nat → List (Nat × Nat) → Bool
  | _, [] => true
  | k, q :: hs => pb_hin [q] 0 (u_lay C T k) && pb_uok C T (k + 1) hs
theorem pb_k0 : pb_okL yX0_init cX0_init (1, 12) 0 pb_t0 [[], [(1, 147), (1, 24), (1, 25)], [], [], [(1, 166)], [(1, 149)], [], [], [(1, 148)], []] = true := by decide +kernel
theorem pb_k1 : pb_okL yJ7_copyOf_9075b cJ7_copyOf_9075b (1, 26) 1 pb_t1 [[], [], [], [], [], [], [], [], [], [(1, 166)], [], [], [], [], [], [], [], [], [(2, 199), (1, 27), (1, 2), (1, 28)], [(2, 200), (2, 202), (2, 201), (1, 15)], [], []] = true := by decide +kernel
theorem pb_k2 : pb_okL yX0_add cX0_add (2, 48) 2 pb_t2 [[], [(1, 151)], [], [(1, 148)], [], [], [], [(1, 155)], [], [], [(1, 151)], [], [(1, 149)], [], [], [], [], [(1, 149)], [], [(1, 148)], [], [(1, 149)], [], [], [], [(2, 188), (1, 27), (1, 2), (1, 28)], [(2, 189)], [(1, 149)], [], [(1, 149)], [], [(1, 151)], [], [], [], [], [], [(1, 151)], [], [], [(1, 151)], []] = true := by decide +kernel
theorem pb_k3 : pb_okL yX0_addWord cX0_addWord (3, 69) 3 pb_t3 [[], [], [], [], [], [], [], [], [(2, 184)], [], [], []] = true := by decide +kernel
theorem pb_k4 : pb_okL yX10_width cX10_width (0, 0) 4 pb_t4 [[], [], [], [], [], [], [], [], [], [], [], [], [], [], [], []] = true := by decide +kernel
theorem pb_k5 : pb_okL yX10_tenth cX10_tenth (0, 0) 5 pb_t5 [[], [], [], [], [], [], [], [], [], [], [], [], [], [], [], [(3, 55)], [], [], [], [], [], [], [(3, 56)], [], [], [], [], [(3, 56)], [], [], [], [], [], [], []] = true := by decide +kernel
theorem pb_k6 : pb_okL yX0_reverseFrom cX0_reverseFrom (0, 0) 6 pb_t6 [[], [], [], [(1, 151)], [], [], [], [], [], [], [], [(1, 149)], [], [], [], [], [(1, 149)], [], [], [(1, 149)], [], [], [], [], [(1, 149)], [], [], [], [], [], [], []] = true := by decide +kernel
theorem pb_k7 : pb_okL yX0_addNumber cX0_addNumber (3, 69) 7 pb_t7 [[], [(1, 151)], [], [], [], [], [(4, 198)], [(4, 199), (1, 30), (1, 2), (1, 31)], [], [], [], [], [], [], [], [], [], [], [], [], [(4, 200)], [], [(2, 184)], [], [], [(4, 198)], [], [], [], [], [], [(4, 141)], []] = true := by decide +kernel
theorem pb_k8 : pb_okL yX0_addSmall cX0_addSmall (3, 69) 8 pb_t8 [[], [(1, 151)], [], [], [], [], [], [], [], [], [], [(2, 184)], [], [], [], [], [], [], [], [], [(4, 141)], []] = true := by decide +kernel
theorem pb_k9 : pb_okL yX0_addBlankAnd cX0_addBlankAnd (3, 69) 9 pb_t9 [[], [], [(2, 184)], [], [], [(2, 184)], []] = true := by decide +kernel
theorem pb_k10 : pb_okL yX0_keep cX0_keep (0, 0) 10 pb_t10 [[], [], [(1, 151)], [], [], [(1, 155)], []] = true := by decide +kernel
theorem pb_k11 : pb_okL yX0_byteAt cX0_byteAt (0, 0) 11 pb_t11 [[], [], [], [], [(1, 151)], [], [], [], [], [(1, 149)], [], [], [], [], []] = true := by decide +kernel
theorem pb_k12 : pb_okL yX3_init cX3_init (1, 12) 12 pb_t12 [[], [(1, 204), (1, 24), (1, 25)], [], [], [(1, 69)], [(1, 205)], [], [], [(1, 69)], [(1, 206)], [], [], [(1, 69)], [(1, 207)], []] = true := by decide +kernel
theorem pb_k13 : pb_okL yX4_init cX4_init (1, 12) 13 pb_t13 [[], [(1, 225), (1, 24), (1, 25)], [], [], [(1, 226)], [], [], [], [], [], [], [(1, 69)], [(1, 227)], []] = true := by decide +kernel
theorem pb_k14 : pb_okL yX1_init cX1_init (2, 33) 14 pb_t14 [[], [(1, 197), (1, 24), (1, 25)], [], [], [(1, 198)], [(2, 24)], [], [(1, 199), (1, 200), (1, 9)], [], [], [(2, 26)], [], [], [(1, 69)], [(2, 27)], [], [], [(1, 69)], [(2, 28)], [], [], [(2, 21)], [], [], [(2, 22)], [], [], [(2, 23)], [], [(1, 198), (1, 221), (1, 10)], [], [], [(1, 41)], [(1, 222)], [(2, 25)], [], [], [], [], [(2, 24)], [], [], [], [(2, 24)], [], [(1, 198), (1, 221), (1, 10)], [], [], [(1, 41)], [(1, 222)], [], [], [], []] = true := by decide +kernel
theorem pb_k15 : pb_okL yX8_byteAt cX8_byteAt (0, 0) 15 pb_t15 [[], [(1, 76)], [], [], [], [], [], [(1, 80)], [], [], [], [], [(1, 76)], [], [], [], [], []] = true := by decide +kernel
theorem pb_k16 : pb_okL yX8_isBlank cX8_isBlank (0, 0) 16 pb_t16 [[], [], [], [], [], [], [], [], [], [], [], [], []] = true := by decide +kernel
theorem pb_k17 : pb_okL yX8_isPrinted cX8_isPrinted (0, 0) 17 pb_t17 [[], [], [], [], [], [], [], [], [], []] = true := by decide +kernel
theorem pb_k18 : pb_okL yX8_afterBlanks cX8_afterBlanks (1, 21) 18 pb_t18 [[], [], [], [], [], [], [(1, 80)], [], [], [], [(2, 228)], [], [], [], [], [], [], [], [], [(2, 232)], [], [], [], [], [(2, 235)], [], [], [], [], [], [], [], [], [], [], [], [(1, 80)], []] = true := by decide +kernel
theorem pb_k19 : pb_okL yX8_isDigit cX8_isDigit (0, 0) 19 pb_t19 [[], [], [], [], [], [], [], [], [], []] = true := by decide +kernel
theorem pb_k20 : pb_okL yX8_takeDigits cX8_takeDigits (1, 21) 20 pb_t20 [[], [(1, 87)], [], [(1, 80)], [], [], [], [(1, 87)], [(2, 228)], [(2, 238)], [], [], [], [(1, 87)], [], [], [(1, 87)], [], [], [], [(1, 87)], [], [(1, 85)], [], [], [], [], [], [], [(1, 84)], []] = true := by decide +kernel
theorem pb_k21 : pb_okL yX8_takeLiteral cX8_takeLiteral (1, 21) 21 pb_t21 [[], [], [(2, 228)], [], [], [], [], [], [(2, 228)], [], [], [(2, 238)], [], [], [], [(1, 84)], [], [], [], [(1, 84)], [], [], [(1, 93)], [], [], [], [], [(1, 88)], [], [], [], [], [(1, 87)], [], [(2, 238)], [], [], [], [(1, 88)], [], [], [], [], [], [], [(1, 88)], [], [], [], [], [(1, 87)], []] = true := by decide +kernel
theorem pb_k22 : pb_okL yX8_isSignOrWord cX8_isSignOrWord (0, 0) 22 pb_t22 [[], [], [], [], [], []] = true := by decide +kernel
theorem pb_k23_0 : pb_okL yX8_next cX8_next (2, 45) 23 pb_t23_0 [[], [], [], [(1, 87)], [(2, 224)], [(1, 85)], [], [], [(1, 85)], [(2, 228)], [], [], [], [(1, 85)], [], [], [(1, 87)], [], [], [], [], [], [(1, 84)], [], [], [(1, 85)], [(1, 87)], [], [], [(2, 238)], [], [], [(3, 1)], [], [], [], [], [], [], [(1, 85)]] = true := by decide +kernel
theorem pb_k23_1 : pb_okL yX8_next cX8_next (2, 45) 23 pb_t23_1 [[], [], [], [(3, 5)], [], [], [], [], [], [], [(1, 87)], [(2, 228)], [], [], [], [], [(1, 85)], [], [], [], [(3, 5)], [], [], [], [], [], [], [], [], [], [], [(1, 87)], [(2, 228)], [], [], [], [], [], [(1, 84)], []] = true := by decide +kernel
theorem pb_k23_2 : pb_okL yX8_next cX8_next (2, 45) 23 pb_t23_2 [[], [(1, 87)], [], [], [(1, 87)], [], [], [], [(3, 9)], [], [], [], [], [(1, 84)], []] = true := by decide +kernel
theorem pb_k24 : pb_okL yJ7_fill_53178 cJ7_fill_53178 (0, 0) 24 pb_t24 [[], [], [], [], [], [], [], [], [], [], [], [], [], [], []] = true := by decide +kernel
theorem pb_k25 : pb_okL yX10_appendDigit cX10_appendDigit (0, 0) 25 pb_t25 [[], [], [], [], [], [], [], [], [], [], [], [], [], [(3, 55)], [], [(3, 56)], [], [], [], [], [], [], [], [], [], [], [], [], [], [], []] = true := by decide +kernel
theorem pb_k26 : pb_okL yX8_readNumber cX8_readNumber (1, 24) 26 pb_t26 [[], [], [(3, 51)], [], [(1, 85)], [], [], [], [(1, 87)], [], [], [], [], [(2, 228)], [], [], [(3, 52)], [], [], []] = true := by decide +kernel
theorem pb_k27 : pb_okL yX8_refuse cX8_refuse (0, 0) 27 pb_t27 [[], [], [(1, 94)], [], [], [(1, 96)], [], []] = true := by decide +kernel
theorem pb_k28 : pb_okL yX1_uppermost cX1_uppermost (0, 0) 28 pb_t28 [[], [(2, 29)], [], [], [], [(2, 29)], [], [(2, 24)], [], [], [], [], [], [(2, 24)], [], [(2, 29)], [], [], [], []] = true := by decide +kernel
theorem pb_k29 : pb_okL yX8_refuseHere cX8_refuseHere (1, 22) 29 pb_t29 [[], [], [], [(1, 85)], [(3, 43)], []] = true := by decide +kernel
theorem pb_k30 : pb_okL yJ6_numberOfLeadingZeros_0f7a4 cJ6_numberOfLeadingZeros_0f7a4 (0, 0) 30 pb_t30 [[], [], [], [], [], [], [], [], [], [], [], [(3, 180)], [], [], [], [], [], [], [], [], [], [], [], [], [], [], [], [], [], [], [], [], [], [], [], [], [], [], [], [], [], [], [], [], [], [], [], []] = true := by decide +kernel
theorem pb_k31 : pb_okL yX3_take cX3_take (1, 22) 31 pb_t31 [[], [], [], [(3, 176)], [(1, 208)], [], [], [(1, 208)], [], [], [], [], [], [(1, 208)], [], [], [], [(3, 177)], [(1, 209)], [], [], [], [], [], [], [], [], [], [], [], [], [(3, 181)], [], [], [(1, 209)], [], [], [], [], [(1, 205)], [], [], [], [], [], [], [], [], [], [], []] = true := by decide +kernel
theorem pb_k32 : pb_okL yX4_has cX4_has (0, 0) 32 pb_t32 [[], [(1, 230)], [], [(1, 233)], [], [], [], [], [], [], [], [], [], [], [], []] = true := by decide +kernel
theorem pb_k33_0 : pb_okL yX3_guess cX3_guess (0, 0) 33 pb_t33_0 [[], [(1, 205)], [], [(1, 208)], [], [], [], [], [(3, 181)], [], [], [], [], [], [], [], [], [], [(1, 208)], [], [], [], [(1, 205)], [], [(1, 208)], [], [], [], [], [(3, 181)], [], [], [], [], [], [(1, 208)], [], [], [], [(1, 206)]] = true := by decide +kernel
theorem pb_k33_1 : pb_okL yX3_guess cX3_guess (0, 0) 33 pb_t33_1 [[], [], [(1, 208)], [], [], [], [], [], [(3, 181)], [], [], [], [], [], [(1, 206)], [], [], [(1, 208)], [], [], [], [(3, 181)], [], [], [], [], [(1, 206)], [], [], [(1, 208)], [], [], [], [], [], [(3, 181)], [], [], [], []] = true := by decide +kernel
theorem pb_k33_2 : pb_okL yX3_guess cX3_guess (0, 0) 33 pb_t33_2 [[], [], [], [], [], [], [], [], [], [], [], [], [], [], [], [], [], [], [], [], [], [], [], [], [], [], [], [], [], [], [], [(3, 181)], [], [], [], [(3, 181)], [], [], [], []] = true := by decide +kernel
theorem pb_k33_3 : pb_okL yX3_guess cX3_guess (0, 0) 33 pb_t33_3 [[], [(3, 199)], [], [], [], [], [], [], [(3, 199)], [], [], [], [], [], [], [], [], [], [], [], [], [], [], [], []] = true := by decide +kernel
theorem pb_k34_0 : pb_okL yX3_takeOff cX3_takeOff (0, 0) 34 pb_t34_0 [[], [], [], [], [], [], [], [], [(1, 208)], [], [], [], [], [(1, 208)], [], [], [], [(1, 205)], [], [], [], [(3, 181)], [], [], [], [], [], [], [], [], [(1, 206)], [], [], [], [], [], [(3, 181)], [], [], [(3, 181)]] = true := by decide +kernel
theorem pb_k34_1 : pb_okL yX3_takeOff cX3_takeOff (0, 0) 34 pb_t34_1 [[], [], [], [], [], [(1, 206)], [], [], [], [], [], [], [], [], [], [], [], [], [], [], [], [], [], [], [], [], [], [], [], [], [], [], [], [], [], [(1, 208)], [], [], [], [(1, 206)]] = true := by decide +kernel
theorem pb_k34_2 : pb_okL yX3_takeOff cX3_takeOff (0, 0) 34 pb_t34_2 [[], [], [], [], [], [(3, 181)], [], [], [], [(1, 208)], [], [], [(1, 205)], [], [], [], [(3, 181)], [], [], [], [], [], [], [], [(1, 206)], [], [], [], [], [], [], [], [], [], [], [], [], [], [], []] = true := by decide +kernel
theorem pb_k34_3 : pb_okL yX3_takeOff cX3_takeOff (0, 0) 34 pb_t34_3 [[], []] = true := by decide +kernel
theorem pb_k35 : pb_okL yX3_somethingLeft cX3_somethingLeft (0, 0) 35 pb_t35 [[], [], [], [], [], [], [], [], [], [(1, 206)], [], [], [], [], [], [], [], [], [], [], [], []] = true := by decide +kernel
theorem pb_k36_0 : pb_okL yX3_split cX3_split (1, 34) 36 pb_t36_0 [[], [(1, 207)], [], [(3, 194)], [], [], [], [], [], [], [], [], [], [], [], [], [], [], [(3, 181)], [], [], [(1, 209)], [], [], [], [], [(1, 206)], [], [], [], [], [], [], [], [], [], [], [], [(1, 206)], []] = true := by decide +kernel
theorem pb_k36_1 : pb_okL yX3_split cX3_split (1, 34) 36 pb_t36_1 [[], [], [], [], [(1, 208)], [], [], [], [], [], [(3, 176)], [], [(1, 208)], [], [], [], [], [], [(1, 207)], [], [], [], [], [], [(3, 195)], [(3, 200)], [], [], [], [], [(3, 204)], []] = true := by decide +kernel
theorem pb_k37 : pb_okL yX3_putRoundedUp cX3_putRoundedUp (0, 0) 37 pb_t37 [[], [], [], [], [], [], [], [], [], [], [], [], [], [(1, 207)], [], [], [], [(3, 181)], [], [], [], [], [], [], [], [], [], [], [], [], [], [], [], [], []] = true := by decide +kernel
theorem pb_k38 : pb_okL yX4_topIsEmpty cX4_topIsEmpty (0, 0) 38 pb_t38 [[], [(1, 236)], [], [], [], [], [], [(1, 227)], [], [], [], [(1, 227)], [], [], [], [], [], [], [], [], []] = true := by decide +kernel
theorem pb_k39 : pb_okL yX4_settle cX4_settle (1, 21) 39 pb_t39 [[], [], [(1, 239)], [], [], [(1, 236)], [], [(1, 236)], [], [], [(3, 109)], [], [], [], [(1, 236)], [], [], [(1, 236)], [], []] = true := by decide +kernel
theorem pb_k40 : pb_okL yX4_divide cX4_divide (2, 59) 40 pb_t40 [[], [], [], [], [(1, 226)], [], [], [], [], [], [(3, 186)], [], [], [], [(1, 227)], [], [], [], [(3, 190)], [], [], [], [(1, 227)], [], [], [], [], [(3, 208)], [], [], [], [], [(1, 236)], [(3, 105)], []] = true := by decide +kernel
theorem pb_k41_0 : pb_okL yX10_multiply cX10_multiply (1, 23) 41 pb_t41_0 [[], [], [(3, 219)], [], [], [], [], [], [], [], [], [], [], [], [(3, 55)], [], [], [], [], [], [], [], [], [], [], [], [], [], [], [], [(3, 55)], [], [], [], [], [], [], [], [], [(3, 55)]] = true := by decide +kernel
theorem pb_k41_1 : pb_okL yX10_multiply cX10_multiply (1, 23) 41 pb_t41_1 [[], [], [], [], [], [], [], [], [], [], [], [], [], [], [], [], [], [], [], [], [], [], [], [], [], [], []] = true := by decide +kernel
theorem pb_k42 : pb_okL yX10_copy cX10_copy (1, 26) 42 pb_t42 [[], [], [], [], [], [(3, 223), (2, 202), (2, 201), (1, 15)], []] = true := by decide +kernel
theorem pb_k43 : pb_okL yX4_multiply cX4_multiply (2, 54) 43 pb_t43 [[], [], [(3, 101)], [], [], [], [], [], [], [], [(1, 226)], [], [], [], [], [], [(3, 186)], [], [], [(1, 227)], [], [], [], [], [(1, 236)], [], [], [], [(3, 216)], [], [], [], [], [(3, 101)], [], [], [], [], [], [], [(1, 227)], [], [], [], [], [], [(3, 220)], [], [], [], [], [(3, 105)], [], []] = true := by decide +kernel
theorem pb_k44 : pb_okL yX1_scaleUppermost cX1_scaleUppermost (3, 82) 44 pb_t44 [[], [(2, 27)], [], [(3, 165)], [], [], [(2, 21)], [], [], [(3, 166)], [], [], [(3, 167)], [], [], [], [], [(2, 21)], [], [(3, 171)], [], [], [(2, 21)], [(1, 81)], [], [], [], [(2, 26)], [], [(2, 27)], [(3, 172)], [], [], [(2, 26)], [(3, 182)], [], [], [], [(2, 27)], [], [(2, 28)], [(3, 212)], [], [], [(2, 21)], [], [(3, 171)], [], [], [(2, 21)], [(3, 155)], [], []] = true := by decide +kernel
theorem pb_k45 : pb_okL yX10_small cX10_small (1, 22) 45 pb_t45 [[], [], [(3, 227)], [], [], [], [], [], [], [], [], [], [], [], []] = true := by decide +kernel
theorem pb_k46 : pb_okL yX7_line cX7_line (0, 0) 46 pb_t46 [[], [], [], [], [], [(1, 47)], [], [], [], [(1, 55)], [], [], [], [], [], [(1, 55)], [], [], [], [], []] = true := by decide +kernel
theorem pb_k47 : pb_okL yX1_raise cX1_raise (0, 0) 47 pb_t47 [[], [(2, 29)], [], [(2, 24)], [], [], [], [], [], [], [(2, 29)], [], [], [(2, 29)], [], [(2, 24)], [], [(2, 29)], [], [], [], []] = true := by decide +kernel
theorem pb_k48 : pb_okL yX4_copyFrom cX4_copyFrom (1, 26) 48 pb_t48 [[], [(1, 227)], [], [], [(1, 227)], [], [], [(1, 227)], [], [], [(1, 227)], [], [(3, 93), (1, 27), (1, 2), (1, 28)], [(3, 94), (2, 202), (2, 201), (1, 15)], [], [], [(1, 230)], [(1, 230)], [], [], [(1, 233)], [(1, 233)], [], [], [(1, 236)], [(1, 236)], [], [], [(1, 239)], []] = true := by decide +kernel
theorem pb_k49 : pb_okL yX1_takeNumber cX1_takeNumber (4, 104) 49 pb_t49 [[], [(2, 21)], [(1, 86)], [], [], [(2, 21)], [], [(2, 27)], [(3, 160)], [], [(2, 21)], [(3, 155)], [], [(2, 21)], [(1, 81)], [], [], [], [(2, 21)], [(1, 81)], [], [], [], [], [(3, 161)], [], [], [(2, 23)], [], [(2, 27)], [(3, 224)], [(3, 228)], [], [], [], [], [(2, 21)], [], [], [(3, 166)], [], [], [(3, 232)], [], [], [], [], [(2, 21)], [], [], [(3, 166)], [], [], [], [(3, 236)], [], []] = true := by decide +kernel
theorem pb_k50 : pb_okL yX8_knowsVariable cX8_knowsVariable (0, 0) 50 pb_t50 [[], [(1, 88)], [], [], [], [(1, 88)], [], [], [], [], [], []] = true := by decide +kernel
theorem pb_k51 : pb_okL yX10_subtract cX10_subtract (0, 0) 51 pb_t51 [[], [], [], [], [], [], [], [], [], [], [], [], [], [], [(3, 55)], [], [], [], [], [], [], [], [(3, 55)], [], [], [], [], [], [], [], [], [], [], [], [], [], [], [], [], [], [], [], [], [], [], [], [], []] = true := by decide +kernel
theorem pb_k52 : pb_okL yX10_setSmall cX10_setSmall (0, 0) 52 pb_t52 [[], [], [], [], [], [], [], [], [], [], [], [], [], [], [], [], [], []] = true := by decide +kernel
theorem pb_k53 : pb_okL yX4_takeOffDegree cX4_takeOffDegree (1, 27) 53 pb_t53 [[], [], [(1, 227)], [], [], [], [], [(4, 17)], [], [], [], [], [], [(1, 227)], [], [], [(3, 104)], [], [], [], []] = true := by decide +kernel
theorem pb_k54 : pb_okL yX4_setSign cX4_setSign (0, 0) 54 pb_t54 [[], [], [], [], [], [], [], [], [], [], [(1, 230)], [], [], [], [], [(1, 230)], [], [], [], [], [(1, 230)], [], [], [], [], [(1, 233)], [], [], [], [], [(1, 233)], [], [], [], [], [(1, 233)], []] = true := by decide +kernel
theorem pb_k55 : pb_okL yX4_without cX4_without (2, 52) 55 pb_t55 [[], [], [(3, 186)], [], [], [], [(1, 227)], [], [], [], [], [], [(1, 236)], [(4, 13)], [], [], [(1, 227)], [], [], [], [], [(3, 104)], [], [], [], [(3, 97)], [], [], [(1, 236)], [(3, 105)], []] = true := by decide +kernel
theorem pb_k56 : pb_okL yX1_weakenUppermost cX1_weakenUppermost (3, 73) 56 pb_t56 [[], [(3, 167)], [], [], [], [], [(2, 21)], [], [(3, 171)], [], [], [], [(4, 9)], [], [(2, 21)], [(3, 155)], [], []] = true := by decide +kernel
theorem pb_k57 : pb_okL yX4_setLiteral cX4_setLiteral (2, 42) 57 pb_t57 [[], [(1, 227)], [], [(4, 22)], [], [], [(1, 230)], [], [], [(1, 233)], [], [(1, 227)], [], [], [], [], [], [], [], [], [(3, 97)], [], [], [(3, 105)], []] = true := by decide +kernel
theorem pb_k58 : pb_okL yX1_takeLiteral cX1_takeLiteral (4, 95) 58 pb_t58 [[], [(2, 21)], [(1, 86)], [], [], [(2, 21)], [(1, 90)], [], [], [(2, 21)], [(1, 92)], [], [], [(2, 21)], [], [(2, 23)], [(1, 41)], [(4, 4)], [], [], [(2, 21)], [], [(3, 171)], [], [], [(2, 21)], [(3, 155)], [], [(2, 21)], [(1, 81)], [], [], [], [], [(4, 5)], [], [], [(3, 232)], [], [], [], [], [(2, 21)], [], [], [(3, 166)], [], [], [], [], [(4, 18)], [], []] = true := by decide +kernel
theorem pb_k59 : pb_okL yX10_add cX10_add (0, 0) 59 pb_t59 [[], [], [], [], [], [], [], [], [], [], [], [], [], [], [(3, 55)], [], [], [], [], [], [], [], [(3, 55)], [], [], [], [], [], [], [], [], [], [], [], [], [], [], [], [], [], [], [], []] = true := by decide +kernel
theorem pb_k60 : pb_okL yX4_signOf cX4_signOf (0, 0) 60 pb_t60 [[], [], [], [], [], [], [], [(1, 230)], [], [], [], [], [], [], [(1, 233)], [], [], [], [], [], [], []] = true := by decide +kernel
theorem pb_k61 : pb_okL yX10_compare cX10_compare (0, 0) 61 pb_t61 [[], [], [], [], [], [], [], [], [], [], [], [], [], [], [], [], [], [], [], [], [], [], [], [(3, 55)], [], [], [], [], [], [], [], [(3, 55)], [], [], [], [], [], [], [], [], [], [], []] = true := by decide +kernel
theorem pb_k62 : pb_okL yX10_negate cX10_negate (0, 0) 62 pb_t62 [[], [], [], [], [], [], [], [], [], [], [], [], [], [], [], [], [(3, 55)], [], [], [], [], [], [], [], [], [], [], [], [], [], [], [], [], []] = true := by decide +kernel
theorem pb_k63_0 : pb_okL yX4_cancel cX4_cancel (2, 52) 63 pb_t63_0 [[], [], [], [], [], [(1, 227)], [], [], [(1, 227)], [], [], [(3, 131)], [], [], [], [], [], [(1, 227)], [], [], [], [(4, 13)], [], [], [(1, 227)], [], [], [(1, 227)], [], [], [(4, 17)], [], [], [], [], [(1, 227)], [], [], [], [(4, 13)]] = true := by decide +kernel
theorem pb_k63_1 : pb_okL yX4_cancel cX4_cancel (2, 52) 63 pb_t63_1 [[], [], [(1, 227)], [], [], [(1, 227)], [], [], [(4, 17)], [], [], [(1, 227)], [], [(3, 95)], [], [], [], [], [(4, 32)], [(3, 97)], [], [], [], [], [], [(3, 97)], [], []] = true := by decide +kernel
theorem pb_k64_0 : pb_okL yX4_add cX4_add (3, 79) 64 pb_t64_0 [[], [], [(1, 236)], [], [(1, 236)], [(4, 31), (1, 30), (1, 2), (1, 31)], [], [], [(3, 93), (1, 27), (1, 2), (1, 28)], [], [], [(1, 227)], [], [], [(1, 227)], [], [], [(3, 96)], [], [], [], [], [], [], [], [(1, 226)], [], [], [], [(4, 32)], [], [], [], [], [], [], [], [], [], []] = true := by decide +kernel
theorem pb_k64_1 : pb_okL yX4_add cX4_add (3, 79) 64 pb_t64_1 [[(4, 32)], [], [], [], [], [], [], [], [], [(4, 36)], [], [], [], [(1, 227)], [], [], [(1, 227)], [], [], [(3, 96)], [], [], [], [], [], [], [], [], [], [], [(3, 97)], [], [], [], [], [(3, 105)], [], [], [], []] = true := by decide +kernel
theorem pb_k64_2 : pb_okL yX4_add cX4_add (3, 79) 64 pb_t64_2 [[], [], [], []] = true := by decide +kernel
theorem pb_k65 : pb_okL yX1_addUppermost cX1_addUppermost (4, 106) 65 pb_t65 [[], [(3, 167)], [], [], [], [], [(2, 29)], [], [], [], [(2, 21)], [], [(3, 171)], [], [], [], [(2, 29)], [], [], [(2, 29)], [], [(2, 24)], [], [(2, 29)], [], [], [], [], [(4, 27)], [], [], [(2, 21)], [], [(3, 171)], [], [], [(2, 21)], [(3, 155)], [], []] = true := by decide +kernel
theorem pb_k66 : pb_okL yX4_cut cX4_cut (2, 49) 66 pb_t66 [[], [(1, 227)], [], [(3, 101)], [], [], [], [], [], [], [], [], [], [(1, 226)], [], [], [], [], [], [], [], [(3, 186)], [], [], [(1, 227)], [], [], [(1, 227)], [], [], [(1, 236)], [(3, 131)], [], [], [], [(1, 227)], [], [], [(1, 227)], [], [(3, 220)], [], [], [], [], [], [(3, 97)], [], [], [], [], [(1, 236)], [(3, 105)], []] = true := by decide +kernel
theorem pb_k67 : pb_okL yX1_cutUppermost cX1_cutUppermost (3, 72) 67 pb_t67 [[], [(3, 167)], [], [], [], [], [(2, 21)], [], [(3, 171)], [], [], [(4, 44)], [], [(2, 21)], [(3, 155)], [], []] = true := by decide +kernel
theorem pb_k68 : pb_okL yX7_isFull cX7_isFull (0, 0) 68 pb_t68 [[], [(1, 47)], [], [], [], [], [], []] = true := by decide +kernel
theorem pb_k69_0 : pb_okL yX4_findRest cX4_findRest (0, 0) 69 pb_t69_0 [[], [], [], [], [], [], [(1, 236)], [], [], [], [(1, 227)], [], [], [], [(3, 126)], [], [], [], [], [], [], [], [(1, 226)], [], [], [], [], [], [], [], [], [], [], [], [(1, 227)], [], [], [], [], []] = true := by decide +kernel
theorem pb_k69_1 : pb_okL yX4_findRest cX4_findRest (0, 0) 69 pb_t69_1 [[], [], [(3, 126)], [], [], [], [], [], [], [], [], [], [], [], [], [], [], [], [], [], []] = true := by decide +kernel
theorem pb_k70 : pb_okL yX4_findAbove cX4_findAbove (1, 25) 70 pb_t70 [[], [], [], [], [], [], [(1, 226)], [], [], [], [], [], [], [], [], [], [], [], [], [(1, 227)], [], [], [], [], [], [], [(1, 236)], [(3, 131)], [], [], [], [], [], [], [], [], []] = true := by decide +kernel
theorem pb_k71_0 : pb_okL yX4_look cX4_look (2, 50) 71 pb_t71_0 [[], [(1, 230)], [], [(1, 233)], [], [], [], [(1, 230)], [], [], [], [(1, 233)], [], [], [], [], [], [], [], [], [], [], [], [], [], [(1, 239)], [], [], [], [(2, 0)], [], [], [], [], [], [], [(2, 0)], [], [(2, 1)], []] = true := by decide +kernel
theorem pb_k71_1 : pb_okL yX4_look cX4_look (2, 50) 71 pb_t71_1 [[], [], [], [], [], [], [], [], [], [], [], [], [], [(3, 122)], [], [], [], [], [], [], [], [], [], [], [], [], [], [], [], [], [(3, 127)], [], [], [], [], [], [(1, 239)], [], [], [(2, 0)]] = true := by decide +kernel
theorem pb_k71_2 : pb_okL yX4_look cX4_look (2, 50) 71 pb_t71_2 [[], [], [(2, 1)], [], []] = true := by decide +kernel
theorem pb_k72 : pb_okL yX7_add cX7_add (3, 79) 72 pb_t72 [[], [(4, 60)], [], [], [], [(1, 55)], [], [(1, 47)], [], [], [], [(1, 55)], [], [(1, 47)], [(1, 38), (1, 221), (1, 10)], [], [], [(1, 40)], [(4, 61)], [], [], [(1, 55)], [], [(1, 47)], [], [], [], [], [(4, 62)], [], [], [(1, 237)], [], [], [(1, 47)], [], [], [(1, 47)], [], [], [(1, 53)], [], [], [], [], [(1, 43)], [(3, 118)], [], [], [], [], [], [], [(1, 53)], []] = true := by decide +kernel
theorem pb_k73 : pb_okL yX1_addLine cX1_addLine (4, 102) 73 pb_t73 [[], [(2, 23)], [(4, 52)], [], [], [(2, 21)], [], [(3, 171)], [], [], [(2, 23)], [], [(2, 24)], [], [], [], [(4, 56)], [], []] = true := by decide +kernel
theorem pb_k74_0 : pb_okL yX1_takeItems cX1_takeItems (5, 127) 74 pb_t74_0 [[], [(2, 21)], [(3, 155)], [], [], [(2, 29)], [], [], [], [], [], [], [], [], [(2, 21)], [(1, 77)], [], [], [(2, 21)], [(1, 81)], [], [], [], [(2, 21)], [(1, 81)], [], [], [(3, 156)], [], [], [], [(4, 0)], [], [], [], [(4, 23)], [], [], [], [(4, 40)]] = true := by decide +kernel
theorem pb_k74_1 : pb_okL yX1_takeItems cX1_takeItems (5, 127) 74 pb_t74_1 [[], [], [], [(2, 21)], [], [(3, 171)], [], [], [], [], [], [], [(2, 29)], [], [], [], [(2, 21)], [], [(3, 171)], [], [], [], [], [], [(4, 48)], [], [], [], [], []] = true := by decide +kernel
theorem pb_k75 : pb_okL yX2_beginsTerm cX2_beginsTerm (0, 0) 75 pb_t75 [[], [(1, 123)], [(1, 83)], [], [], [], [(1, 123)], [(1, 83)], [], [], [], [(1, 123)], [(1, 83)], [], [], [], [(1, 123)], [(1, 83)], [], [], [], [], [], []] = true := by decide +kernel
theorem pb_k76 : pb_okL yX8_expect cX8_expect (2, 43) 76 pb_t76 [[], [(1, 84)], [], [], [], [], [(3, 39)], [], [], [], [], []] = true := by decide +kernel
theorem pb_k77 : pb_okL yX2_readFactor cX2_readFactor (3, 66) 77 pb_t77 [[], [(1, 123)], [(1, 83)], [], [], [], [(1, 128)], [], [], [(3, 31)], [], [], [], [(1, 123)], [(1, 83)], [], [], [], [], [], [], [], [], [], [(1, 123)], [(1, 83)], [], [], [], [(1, 123)], [(3, 34)], [], [(1, 123)], [], [(3, 35)], [], [], [], [], [(1, 123)], [], [(1, 128)], [(3, 47)], [], [], [], [(1, 128)], [], [(3, 57)], [], [(1, 123)], [(3, 34)], [], []] = true := by decide +kernel
theorem pb_k78_0 : pb_okL yX2_addLiteral cX2_addLiteral (3, 66) 78 pb_t78_0 [[], [(1, 123)], [], [(3, 35)], [], [], [], [], [(1, 123)], [], [(1, 124)], [(3, 64)], [], [], [(1, 123)], [], [(3, 68)], [], [], [(1, 123)], [(1, 89)], [], [], [], [], [(1, 123)], [(1, 91)], [], [], [(1, 125)], [], [], [(1, 128)], [], [], [(3, 69)], [], [], [], [(1, 125)]] = true := by decide +kernel
theorem pb_k78_1 : pb_okL yX2_addLiteral cX2_addLiteral (3, 66) 78 pb_t78_1 [[], [], [(1, 128)], [], [], [(3, 72)], [], [], [(1, 125)], [], [], [(1, 128)], [], [], [(3, 72)], [], [], [(1, 123)], [(3, 34)], [], []] = true := by decide +kernel
theorem pb_k79 : pb_okL yX2_isOtherRelation cX2_isOtherRelation (0, 0) 79 pb_t79 [[], [(1, 129)], [], [], [], [(1, 129)], [], [], [], [], [], []] = true := by decide +kernel
theorem pb_k80_0 : pb_okL yX2_read cX2_read (4, 87) 80 pb_t80_0 [[], [(1, 125)], [], [(3, 20)], [], [], [], [], [(1, 123)], [(1, 79)], [], [], [(3, 23)], [], [], [(3, 27)], [], [], [(3, 60)], [], [], [], [], [], [], [], [(1, 123)], [(1, 83)], [(1, 129)], [], [(1, 129)], [], [], [], [], [], [(3, 75)], [], [], [(1, 123)]] = true := by decide +kernel
theorem pb_k80_1 : pb_okL yX2_read cX2_read (4, 87) 80 pb_t80_1 [[], [(3, 68)], [], [], [(1, 123)], [(3, 34)], [], [(1, 123)], [(1, 83)], [], [], [], [(1, 123)], [], [(3, 68)], [], [], [(3, 27)], [], [], [], [], [(1, 125)], [], [], [(1, 128)], [], [], [(3, 69)], [], [], [(1, 123)], [], [(3, 35)], []] = true := by decide +kernel
theorem pb_k81_0 : pb_okL yX4_setSums cX4_setSums (2, 42) 81 pb_t81_0 [[], [], [], [(1, 227)], [], [], [(1, 227)], [], [], [], [(3, 93), (1, 27), (1, 2), (1, 28)], [(3, 94), (2, 202), (2, 201), (1, 15)], [], [], [(1, 230)], [], [], [(1, 233)], [], [], [], [], [(1, 226)], [], [], [], [], [(1, 227)], [], [], [], [(3, 95)], [], [], [], [], [], [], [(1, 226)], []] = true := by decide +kernel
theorem pb_k81_1 : pb_okL yX4_setSums cX4_setSums (2, 42) 81 pb_t81_1 [[], [], [], [], [], [(1, 227)], [], [], [], [], [], [], [], [], [(1, 227)], [], [(3, 95)], [], [(1, 227)], [], [], [(1, 227)], [], [], [(3, 96)], [], [], [], [], [(3, 97)], [], [], [(1, 227)], [], [(3, 101)], [], [], [], [], [(3, 97)]] = true := by decide +kernel
theorem pb_k81_2 : pb_okL yX4_setSums cX4_setSums (2, 42) 81 pb_t81_2 [[], [], [], [(1, 227)], [], [], [], [], [(1, 227)], [], [], [(3, 104)], [], [], [(3, 105)], []] = true := by decide +kernel
theorem pb_k82 : pb_okL yX4_setOpposite cX4_setOpposite (2, 52) 82 pb_t82 [[], [], [(4, 77)], [], [], [(1, 233)], [(1, 230)], [], [], [(1, 230)], [(1, 233)], [], [(1, 227)], [], [], [(3, 104)], [], [], [], [], [(1, 226)], [], [], [(1, 227)], [], [], [(1, 227)], [], [], [], [], [(3, 96)], [], [], [], [], [], [(1, 227)], [], [], [], [(4, 13)], [], [], [], [(3, 105)], []] = true := by decide +kernel
theorem pb_k83_0 : pb_okL yX1_follows cX1_follows (3, 79) 83 pb_t83_0 [[], [(2, 25)], [], [(4, 73)], [], [], [], [], [], [], [], [], [(2, 23)], [(1, 41)], [], [], [], [], [], [], [], [], [], [(2, 23)], [(1, 50)], [], [], [], [], [(2, 25)], [], [], [(2, 23)], [], [(3, 228)], [], [], [], [], []] = true := by decide +kernel
theorem pb_k83_1 : pb_okL yX1_follows cX1_follows (3, 79) 83 pb_t83_1 [[], [], [], [], [(2, 23)], [(1, 46)], [(4, 78)], [], [], [], [], [], [], [], [], [], [], [], [(1, 232)], [], [], [], [], [], [], [(1, 235)], [], [], [], [], [], [], [], [], [], [], [], [], [], []] = true := by decide +kernel
theorem pb_k83_2 : pb_okL yX1_follows cX1_follows (3, 79) 83 pb_t83_2 [[], []] = true := by decide +kernel
theorem pb_k84 : pb_okL yX1_takeForced cX1_takeForced (5, 123) 84 pb_t84 [[], [(2, 21)], [(3, 155)], [], [(2, 22)], [], [(4, 67)], [], [], [], [], [(2, 24)], [], [], [], [(2, 22)], [(1, 127)], [], [(4, 68)], [], [(2, 23)], [(4, 52)], [], [], [], [(2, 24)], [], [], [(4, 69)], [], [], [(2, 21)], [], [(3, 171)], [], [], [], [(4, 48)], []] = true := by decide +kernel
theorem pb_k85 : pb_okL yX4_isFalse cX4_isFalse (3, 79) 85 pb_t85 [[], [], [], [], [(4, 88)], [], [], [], [], [], []] = true := by decide +kernel
theorem pb_k86 : pb_okL yX1_takeClaim cX1_takeClaim (4, 100) 86 pb_t86 [[], [(2, 21)], [(3, 155)], [], [(2, 21)], [], [(4, 83)], [], [], [], [], [(2, 21)], [], [(2, 27)], [(3, 160)], [], [(2, 23)], [], [(2, 27)], [(3, 224)], [(3, 228)], [], [], [], [], [(2, 21)], [], [(3, 171)], [], [], [(2, 21)], [(3, 155)], [], [(2, 21)], [], [(4, 83)], [], [], [], [], [], [(2, 23)], [(1, 46)], [(4, 84)], [], [], [(2, 21)], [], [(3, 171)], [], [], [], [], []] = true := by decide +kernel
theorem pb_k87 : pb_okL yX1_takeSteps cX1_takeSteps (6, 149) 87 pb_t87 [[], [], [], [], [(2, 21)], [(1, 77)], [], [], [(2, 21)], [(1, 81)], [], [], [(2, 21)], [(1, 81)], [], [], [(3, 151)], [], [], [], [(4, 63)], [], [], [], [(4, 79)], [], [], [], [(2, 21)], [], [(3, 171)], [], [], [], [], [], [], [], [(2, 21)], [(3, 155)], [], [], []] = true := by decide +kernel
theorem pb_k88 : pb_okL yX2_init cX2_init (1, 12) 88 pb_t88 [[], [(1, 122), (1, 24), (1, 25)], [], [], [(1, 69)], [(1, 128)], [], [], [(1, 123)], [], [], [(1, 124)], [], [], [], [], [], [], [(1, 69)], [(1, 125)], []] = true := by decide +kernel
theorem pb_k89 : pb_okL yX5_init cX5_init (1, 12) 89 pb_t89 [[], [(1, 172), (1, 24), (1, 25)], [], [], [(1, 173)], [(1, 177)], [], [], [(1, 174)], [], [], [(1, 175)], [], [], [(1, 176)], []] = true := by decide +kernel
theorem pb_k90 : pb_okL yX5_makeLine cX5_makeLine (3, 66) 90 pb_t90 [[], [(1, 179)], [], [(1, 177)], [], [], [], [(1, 174)], [], [(3, 87)], [], [], [(1, 177)], [], [(1, 179)], [], [], [], [(1, 177)], [], [(1, 179)], [(1, 173), (1, 221), (1, 10)], [], [], [(1, 176)], [(3, 88)], [], [], [(1, 177)], [], [(1, 179)], [], [], [(1, 175)], [(1, 126)], [], [(3, 89)], [], [], [(1, 179)], [], [], [(1, 179)], [], []] = true := by decide +kernel
theorem pb_k91 : pb_okL yX5_makeLines cX5_makeLines (4, 87) 91 pb_t91 [[], [(1, 175)], [(1, 130)], [], [], [], [], [], [], [(3, 83)], [], [], [], [], [], [], [], [], [(3, 83)], [], [], [], [], []] = true := by decide +kernel
theorem pb_k92 : pb_okL yX5_read cX5_read (5, 109) 92 pb_t92 [[], [], [(1, 179)], [], [], [], [], [(1, 174)], [(1, 78)], [], [], [(1, 174)], [(1, 82)], [], [], [(1, 175)], [], [(3, 16)], [], [], [(3, 79)], [], [], [], [], [(1, 174)], [(3, 113)], [], [], [], []] = true := by decide +kernel
theorem pb_k93 : pb_okL yX9_init cX9_init (1, 12) 93 pb_t93 [[], [(2, 64), (1, 24), (1, 25)], [], [], [(2, 65)], [], [], [(1, 69)], [(2, 66)], [], [], [(1, 69)], [(2, 69)], [], [], [(1, 69)], [(2, 71)], []] = true := by decide +kernel
theorem pb_k94 : pb_okL yX6_init cX6_init (2, 33) 94 pb_t94 [[], [(2, 54), (1, 24), (1, 25)], [], [(2, 55), (1, 143), (1, 6)], [], [], [(2, 56)], [(2, 104)], [], [(2, 57), (1, 200), (1, 9)], [], [], [(2, 119)], [], [], [(1, 69)], [(2, 120)], [], [], [(1, 69)], [(2, 121)], [], [], [(1, 69)], [(2, 122)], [], [], [(2, 101)], [], [(2, 59), (2, 60), (1, 12)], [], [], [(1, 42)], [(2, 61)], [(2, 102)], [], [(2, 99), (1, 221), (1, 10)], [], [], [(1, 42)], [(2, 100)], [(2, 117)], [], [(2, 99), (1, 221), (1, 10)], [], [], [(1, 42)], [(2, 100)], [(2, 118)], []] = true := by decide +kernel
theorem pb_k95 : pb_okL yX9_clear cX9_clear (0, 0) 95 pb_t95 [[], [], [(2, 74)], [], [], [(2, 77)], [], [], [(2, 79)], [], [], [(2, 81)], []] = true := by decide +kernel
theorem pb_k96 : pb_okL yX6_forget cX6_forget (1, 21) 96 pb_t96 [[], [], [(2, 106)], [], [], [(2, 108)], [], [], [(2, 110)], [], [], [(2, 112)], [], [], [(2, 114)], [], [(2, 102)], [(3, 138)], [], [(2, 104)], [], [(3, 142)], []] = true := by decide +kernel
theorem pb_k97 : pb_okL yX6_start cX6_start (2, 41) 97 pb_t97 [[], [(4, 120)], [], [], [(2, 106)], []] = true := by decide +kernel
theorem pb_k98 : pb_okL yX9_sizeAt cX9_sizeAt (0, 0) 98 pb_t98 [[], [(2, 74)], [], [], [], [], [(2, 69)], [], [], [], [], [], [], [], [], [], []] = true := by decide +kernel
theorem pb_k99 : pb_okL yX9_bitOf cX9_bitOf (1, 21) 99 pb_t99 [[], [], [(4, 160), (4, 161), (1, 2), (4, 162)], [], [], [], []] = true := by decide +kernel
theorem pb_k100 : pb_okL yX9_trueBitsOf cX9_trueBitsOf (2, 41) 100 pb_t100 [[], [], [], [], [], [], [], [], [], [(2, 74)], [], [], [], [(2, 66)], [], [], [], [], [(2, 66)], [], [], [(4, 157)], [], [], [], [], [], [], [], []] = true := by decide +kernel
theorem pb_k101 : pb_okL yX9_falseBitsOf cX9_falseBitsOf (2, 41) 101 pb_t101 [[], [], [], [], [], [], [], [], [], [(2, 74)], [], [], [], [(2, 66)], [], [], [], [], [(2, 66)], [], [], [(4, 157)], [], [], [], [], [], [], [], []] = true := by decide +kernel
theorem pb_k102 : pb_okL yX6_readyLevel cX6_readyLevel (3, 79) 102 pb_t102 [[], [], [], [], [(2, 108)], [], [], [(2, 102)], [], [(4, 149)], [], [], [(2, 117)], [], [(2, 102)], [], [(4, 153)], [], [(2, 102)], [], [(4, 163)], [], [(2, 101)], [(1, 44)], [(4, 130)], [], [], [], [], [], [], []] = true := by decide +kernel
theorem pb_k103_0 : pb_okL yX6_weakenReason cX6_weakenReason (4, 92) 103 pb_t103_0 [[], [(2, 102)], [], [(4, 153)], [], [], [(2, 102)], [], [(4, 163)], [], [], [(2, 118)], [(1, 231)], [], [], [], [], [], [(2, 118)], [(1, 234)], [], [], [], [], [], [], [], [], [], [], [(2, 101)], [(1, 42)], [], [], [], [], [], [], [], []] = true := by decide +kernel
theorem pb_k103_1 : pb_okL yX6_weakenReason cX6_weakenReason (4, 92) 103 pb_t103_1 [[], [], [], [], [], [], [(2, 119)], [], [(2, 118)], [(1, 229)], [], [], [], [(4, 179)], [], [], [(2, 118)], [], [(4, 180)], [], [(2, 104)], [], [(4, 181)], [], [(2, 104)], [], [(4, 137)], [], [(2, 104)], [], [(4, 181)], [], [], []] = true := by decide +kernel
theorem pb_k104 : pb_okL yX6_isOne cX6_isOne (2, 42) 104 pb_t104 [[], [(4, 188)], [], [], [], [], [], []] = true := by decide +kernel
theorem pb_k105 : pb_okL yX6_writeNumberAnd cX6_writeNumberAnd (4, 93) 105 pb_t105 [[], [(2, 121)], [], [], [(2, 120)], [], [(4, 173)], [], [(2, 104)], [], [(4, 136)], [], [(2, 104)], [], [(2, 121)], [(4, 194)], [], [(2, 104)], [], [(4, 181)], []] = true := by decide +kernel
theorem pb_k106_0 : pb_okL yX6_takeReason cX6_takeReason (5, 118) 106 pb_t106_0 [[], [(2, 102)], [(2, 72)], [], [], [], [], [(2, 101)], [], [(4, 129)], [], [], [], [], [], [], [(2, 118)], [], [(4, 135)], [], [(2, 104)], [], [(4, 136)], [], [(2, 104)], [], [(4, 137)], [], [(2, 120)], [], [], [(1, 229)], [], [], [], [(4, 173)], [], [(2, 119)], [], [(2, 120)]] = true := by decide +kernel
theorem pb_k106_1 : pb_okL yX6_takeReason cX6_takeReason (5, 118) 106 pb_t106_1 [[(4, 174)], [], [], [], [(4, 175)], [], [(2, 120)], [(4, 185)], [], [], [(2, 118)], [], [(2, 119)], [(4, 189)], [], [], [(4, 190)], [], [(2, 118)], [(4, 203)], [], [(2, 104)], [], [(4, 181)], [], []] = true := by decide +kernel
theorem pb_k107 : pb_okL yX6_addReason cX6_addReason (5, 114) 107 pb_t107 [[], [(2, 120)], [], [], [(2, 117)], [(1, 229)], [], [], [], [(4, 173)], [], [(2, 120)], [(4, 185)], [], [], [(2, 118)], [], [(2, 120)], [], [(2, 122)], [(4, 208)], [], [], [], [], [], [(4, 190)], [], [(2, 117)], [], [(2, 118)], [(4, 209)], [], [], [], [], [(2, 117)], [(4, 203)], [], [(2, 104)], [], [(4, 181)], [], [(2, 104)], [], [(4, 181)], [], []] = true := by decide +kernel
theorem pb_k108_0 : pb_okL yX6_resolve cX6_resolve (6, 142) 108 pb_t108_0 [[], [], [(2, 104)], [(1, 154)], [(2, 116)], [], [(2, 117)], [], [(4, 135)], [], [(2, 104)], [], [(4, 136)], [], [(2, 104)], [], [(4, 136)], [], [(2, 104)], [], [(4, 137)], [], [(4, 145)], [], [], [], [], [], [], [], [(2, 102)], [(2, 75)], [], [], [], [], [], [], [], []] = true := by decide +kernel
theorem pb_k108_1 : pb_okL yX6_resolve cX6_resolve (6, 142) 108 pb_t108_1 [[(2, 102)], [(2, 67)], [], [], [(4, 167), (4, 161), (1, 2), (4, 162)], [], [], [(2, 117)], [], [(4, 168)], [], [(2, 102)], [(2, 67)], [], [], [], [], [], [], [], [], [(4, 169)], [], [], [], [(4, 204)], [], [], [], [], [(4, 145)], [], [], [], [], [], [], [], [], []] = true := by decide +kernel
theorem pb_k108_2 : pb_okL yX6_resolve cX6_resolve (6, 142) 108 pb_t108_2 [[], [], [(2, 108)], [], [], [], [], []] = true := by decide +kernel
theorem pb_k109 : pb_okL yX6_writeEnd cX6_writeEnd (4, 92) 109 pb_t109 [[], [(2, 104)], [], [(4, 181)], [], [(2, 104)], [], [(4, 136)], [], [(2, 108)], [], [], [(2, 104)], [], [(4, 136)], [], [(2, 104)], [], [(4, 136)], [], [(2, 104)], [], [(2, 101)], [(1, 48)], [], [], [(4, 137)], [], [(2, 104)], [], [(4, 181)], [], [(2, 104)], [], [(4, 136)], []] = true := by decide +kernel
theorem pb_k110 : pb_okL yX9_keepLevels cX9_keepLevels (3, 64) 110 pb_t110 [[], [], [(4, 223)], [], [], [], [], [(4, 224)], [(2, 77)], [], [], [], [(4, 225)], [(2, 79)], [], [], [(2, 74)], []] = true := by decide +kernel
theorem pb_k111 : pb_okL yX6_finish cX6_finish (5, 112) 111 pb_t111 [[], [(4, 214)], [], [], [], [(2, 101)], [(4, 218)], [], [], [(2, 104)], [(1, 156)], [], [], [(2, 104)], [], [(2, 116)], [(3, 142)], [], [], [(2, 106)], [], [], [(2, 108)], [], [], [], [(2, 106)], [], [], [], [(4, 145)], [(2, 108)], [], [(2, 102)], [], [(2, 108)], [(4, 219)], [], [(2, 101)], [], [(2, 117)], [], [(4, 226)], [], [], [(2, 112)], [], [], [(2, 112)], []] = true := by decide +kernel
theorem pb_k112 : pb_okL yJ6_numberOfTrailingZeros_0f7a4 cJ6_numberOfTrailingZeros_0f7a4 (0, 0) 112 pb_t112 [[], [], [], [], [], [], [], [], [], [], [], [], [], [], [], [], [], [(3, 180)], [], [], [], [], [], [], [], [], [], [], [], [], [], [], [], [], [], [], [], [], [], [], [], [], [], [], [], [], [], [], [], [], [], [], [], []] = true := by decide +kernel
theorem pb_k113 : pb_okL yX9_leastOf cX9_leastOf (1, 21) 113 pb_t113 [[], [(4, 230)], [], [], []] = true := by decide +kernel
theorem pb_k114 : pb_okL yX9_isComplete cX9_isComplete (0, 0) 114 pb_t114 [[], [(2, 74)], [], [(2, 65)], [], [], [], [], []] = true := by decide +kernel
theorem pb_k115_0 : pb_okL yX9_push cX9_push (2, 41) 115 pb_t115_0 [[], [(4, 237)], [], [], [], [(2, 66)], [], [(2, 74)], [], [], [], [(2, 69)], [], [(2, 74)], [], [], [], [(2, 71)], [], [(2, 74)], [], [], [], [], [(2, 74)], [], [], [(2, 74)], [], [(4, 157)], [], [], [], [], [], [(2, 77)], [], [], [(2, 77)], []] = true := by decide +kernel
theorem pb_k115_1 : pb_okL yX9_push cX9_push (2, 41) 115 pb_t115_1 [[], [(2, 81)], [], [], [(2, 81)], [], [], [], [(2, 79)], [], [], [(2, 79)], [], [], [(2, 81)], [], [], [], [], [(2, 81)], []] = true := by decide +kernel
theorem pb_k116 : pb_okL yX9_choice cX9_choice (2, 41) 116 pb_t116 [[], [(2, 77)], [], [(2, 79)], [], [], [], [(5, 6)], [], [], [(2, 81)], [], [], [], [], [], [], [], [], [], [], [], []] = true := by decide +kernel
theorem pb_k117_0 : pb_okL yX6_act cX6_act (7, 167) 117 pb_t117_0 [[], [], [(2, 114)], [], [], [(2, 114)], [], [], [], [], [(2, 101)], [(1, 48)], [], [], [(2, 101)], [], [(4, 129)], [], [], [], [], [], [], [], [(2, 102)], [(2, 78)], [], [(2, 102)], [(2, 80)], [], [(2, 101)], [(1, 44)], [(4, 130)], [], [], [], [], [], [], []] = true := by decide +kernel
theorem pb_k117_1 : pb_okL yX6_act cX6_act (7, 167) 117 pb_t117_1 [[(4, 131)], [], [], [], [(4, 210)], [], [], [], [], [(4, 227)], [], [], [(2, 102)], [], [], [], [(4, 168)], [], [], [(2, 108)], [], [(4, 233)], [], [], [], [], [(2, 102)], [(5, 1)], [], [], [], [(2, 106)], [], [], [], [(2, 108)], [], [], [(2, 108)], []] = true := by decide +kernel
theorem pb_k117_2 : pb_okL yX6_act cX6_act (7, 167) 117 pb_t117_2 [[], [(2, 110)], [], [], [(2, 110)], [], [(2, 102)], [], [(2, 102)], [(5, 2)], [], [(2, 108)], [], [(4, 233)], []] = true := by decide +kernel
theorem pb_k118 : pb_okL yX7_init cX7_init (1, 12) 118 pb_t118 [[], [(1, 37), (1, 24), (1, 25)], [], [], [(1, 69)], [(1, 43)], [], [], [(1, 38)], [(1, 55)], [], [], [(1, 40)], []] = true := by decide +kernel
theorem pb_k119_0 : pb_okL yX7_replaceBy cX7_replaceBy (3, 79) 119 pb_t119_0 [[], [], [(1, 47)], [], [], [(1, 51)], [], [], [(1, 53)], [], [], [], [], [], [], [], [], [], [], [], [(1, 55)], [], [], [], [], [], [], [], [], [], [], [], [], [(1, 55)], [], [], [], [], [(1, 55)], []] = true := by decide +kernel
theorem pb_k119_1 : pb_okL yX7_replaceBy cX7_replaceBy (3, 79) 119 pb_t119_1 [[], [], [], [], [(1, 237)], [], [], [(1, 47)], [], [], [(1, 47)], [], [], [(1, 51)], [], [], [(1, 51)], [], [], [(1, 53)], [], [], [], [], [(1, 43)], [(3, 118)], [], [], [], [], [], [], [(1, 53)], [], [], []] = true := by decide +kernel
theorem pb_k120 : pb_okL yX8_init cX8_init (1, 12) 120 pb_t120 [[], [(1, 75), (1, 24), (1, 25)], [], [], [(1, 96)], []] = true := by decide +kernel
theorem pb_k121 : pb_okL yX8_open cX8_open (3, 66) 121 pb_t121 [[], [], [(1, 150)], [(1, 76)], [], [], [(1, 153)], [], [(1, 150)], [], [(2, 219), (1, 27), (1, 2), (1, 28)], [(1, 80)], [], [], [(1, 87)], [], [], [(1, 94)], [], [], [(1, 96)], [], [(2, 220)], []] = true := by decide +kernel
theorem pb_k122 : pb_okL yX9_valueOf cX9_valueOf (0, 0) 122 pb_t122 [[], [], [], [], [], [], [], [(2, 77)], [], [], [], [], [], [], [(2, 79)], [], [], [], [], [], [], []] = true := by decide +kernel
theorem pb_k123_0 : pb_okL yX11_init cX11_init (3, 57) 123 pb_t123_0 [[], [(1, 23), (1, 24), (1, 25)], [], [], [], [(1, 26), (1, 27), (1, 2), (1, 28)], [(1, 29), (1, 30), (1, 2), (1, 31)], [], [(1, 32), (1, 33), (1, 3)], [], [], [(1, 34)], [], [(1, 70), (1, 71), (1, 4)], [], [], [], [(1, 117), (1, 118), (1, 5)], [], [], [], [(1, 119)], [], [], [], [(2, 154)], [], [(1, 142), (1, 143), (1, 6)], [], [], [(1, 144)], [(2, 155)], [], [], [(2, 156)], [], [], [(2, 157)], [], [(1, 167), (1, 168), (1, 7)]] = true := by decide +kernel
theorem pb_k123_1 : pb_okL yX11_init cX11_init (3, 57) 123 pb_t123_1 [[], [], [], [], [(1, 169)], [(2, 158)], [], [(1, 192), (1, 193), (1, 8)], [], [], [], [], [(1, 194)], [(2, 159)], [], [(2, 49), (2, 50), (1, 11)], [], [], [(2, 51)], [(2, 160)], []] = true := by decide +kernel
theorem pb_k124 : pb_okL yX11_feed cX11_feed (4, 91) 124 pb_t124 [[], [(2, 155)], [(1, 152)], [], [], [], [], [], [(2, 155)], [], [(2, 180)], [], [(2, 155)], [], [(2, 180)], [], [(2, 155)], [], [(2, 180)], [], [(2, 155)], [], [(2, 180)], [], [(2, 155)], [], [(2, 180)], [], [(2, 155)], [(1, 152)], []] = true := by decide +kernel
theorem pb_k125 : pb_okL yX11_back cX11_back (1, 21) 125 pb_t125 [[], [], [], [], [(2, 155)], [(1, 152)], [], [], [], [], [(2, 155)], [], [(2, 155)], [(1, 152)], [], [], [(2, 207)], [], [(2, 155)], [(1, 152)], []] = true := by decide +kernel
theorem pb_k126 : pb_okL yX11_load cX11_load (6, 130) 126 pb_t126 [[], [(2, 157)], [], [(2, 155)], [(2, 215)], [], [(2, 158)], [(3, 12)], [], [], [(2, 155)], [], [(2, 207)], [], [], [], [], [], [(2, 156)], [], [(2, 158)], [(1, 178)], [], [(2, 158)], [(1, 180)], [(3, 114)], [], [(2, 160)], [(3, 134)], [], [(2, 156)], [(1, 49)], []] = true := by decide +kernel
theorem pb_k127 : pb_okL yX11_check cX11_check (7, 171) 127 pb_t127 [[], [(2, 157)], [], [(2, 155)], [(2, 215)], [], [(2, 159)], [(3, 147)], [], [], [(2, 155)], [], [(2, 207)], [], []] = true := by decide +kernel
theorem pb_k128 : pb_okL yX11_fault cX11_fault (0, 0) 128 pb_t128 [[], [], [], [(2, 157)], [(1, 95)], [], [], [(2, 157)], [(1, 97)], [], [], []] = true := by decide +kernel
theorem pb_k129 : pb_okL yX11_literal cX11_literal (1, 22) 129 pb_t129 [[], [(2, 156)], [], [(4, 97)], [], [], [], [], [], [], [], [], [(2, 154)], [], [], [], [], [], [(4, 98)], []] = true := by decide +kernel
theorem pb_k130 : pb_okL yX11_piece cX11_piece (1, 21) 130 pb_t130 [[], [(2, 156)], [], [(4, 97)], [], [], [], [], [], [], [], [(2, 154)], [], [], [], [], [], [], [], [], [], [(1, 228)], [], [], [], [], [], [], []] = true := by decide +kernel
theorem pb_k131 : pb_okL yX11_holds cX11_holds (3, 79) 131 pb_t131 [[], [(2, 156)], [], [(4, 97)], [], [], [], [], [], [], [], [], [], [(2, 156)], [(1, 45)], [(4, 107)], [], [], [], [], [], []] = true := by decide +kernel
theorem pb_k132 : pb_okL yX11_origin cX11_origin (1, 21) 132 pb_t132 [[], [(2, 156)], [], [(4, 97)], [], [], [], [], [], [], [(1, 238)], []] = true := by decide +kernel
theorem pb_k133 : pb_okL yX11_begin cX11_begin (3, 61) 133 pb_t133 [[], [(2, 160)], [(4, 116)], [], []] = true := by decide +kernel
theorem pb_k134 : pb_okL yX11_run cX11_run (8, 191) 134 pb_t134 [[], [(2, 160)], [(2, 107)], [], [], [], [], [], [], [], [], [], [], [], [], [], [], [(2, 160)], [(2, 107)], [], [], [], [(2, 160)], [(4, 125)], [], [], [], []] = true := by decide +kernel
theorem pb_k135 : pb_okL yX11_value cX11_value (1, 22) 135 pb_t135 [[], [], [], [], [], [(2, 154)], [], [], [], [], [(2, 160)], [(2, 103)], [], [(5, 11)], []] = true := by decide +kernel
theorem pb_k136 : pb_okL yX11_trail cX11_trail (0, 0) 136 pb_t136 [[], [], [], [], [(2, 160)], [(2, 103)], [(2, 76)], [], [], [], [], [], [], [(2, 160)], [(2, 103)], [(2, 68)], [], [], [], [], [(2, 160)], [(2, 103)], [(2, 70)], [], [], [], [], [(2, 160)], [(2, 103)], [(2, 73)], [], [], [], [], []] = true := by decide +kernel
theorem pb_k137 : pb_okL yX11_proof cX11_proof (1, 21) 137 pb_t137 [[], [(2, 160)], [(2, 105)], [], [(5, 23)], []] = true := by decide +kernel
theorem pb_k138 : pb_okL yX11_count cX11_count (0, 0) 138 pb_t138 [[], [], [], [(2, 156)], [(1, 49)], [], [], [(2, 156)], [(1, 52)], [], [], [(2, 160)], [(2, 105)], [(1, 152)], [], [], [(2, 160)], [(2, 107)], [], [], [(2, 160)], [(2, 103)], [(2, 76)], [], [], [(2, 160)], [(2, 109)], [], [], [(2, 160)], [(2, 111)], [], [], [(2, 160)], [(2, 113)], [], [], [(2, 160)], [(2, 115)], [], [], [(2, 156)], [(1, 54)], [], [], [(2, 155)], [(1, 152)], [], [], []] = true := by decide +kernel
theorem pb_k139_0 : pb_okL yX12_init cX12_init (1, 12) 139 pb_t139_0 [[], [(5, 39), (1, 24), (1, 25)], [], [(5, 40)], [(1, 69)], [(5, 41)], [], [], [(1, 69)], [(5, 42)], [], [], [(1, 69)], [(5, 43)], [], [], [(1, 166)], [(5, 47)], [], [], [(5, 50)], [], [], [(1, 69)], [(5, 51)], [], [], [(1, 69)], [(5, 52)], [], [], [(1, 69)], [(5, 53)], [], [], [(1, 69)], [(5, 54)], [], [], [(1, 69)]] = true := by decide +kernel
theorem pb_k139_1 : pb_okL yX12_init cX12_init (1, 12) 139 pb_t139_1 [[(5, 62)], [], [], [(1, 69)], [(5, 69)], [], [], [(1, 69)], [(5, 70)], [], [], [(1, 69)], [(5, 71)], [], [], [(1, 69)], [(5, 72)], [], [], [(1, 69)], [(5, 73)], [], [], [(1, 166)], [(5, 74)], [], [], [(1, 69)], [(5, 77)], [], [], [(1, 69)], [(5, 78)], [], [], [], [], [], [], []] = true := by decide +kernel
theorem pb_k139_2 : pb_okL yX12_init cX12_init (1, 12) 139 pb_t139_2 [[], [], [], [], [], [(5, 44)], [], [], [], [], [], [], [(5, 69)], [], [], [], [], [], []] = true := by decide +kernel
theorem pb_k140 : pb_okL yX12_word cX12_word (0, 0) 140 pb_t140 [[], [], [], [], [], [(5, 47)], [], [(5, 48)], [], [], [], [], [], [], [], [], [], [(5, 48)], [], [], [(5, 48)], [], [], []] = true := by decide +kernel
theorem pb_k141 : pb_okL yX12_feed cX12_feed (1, 22) 141 pb_t141 [[], [(5, 48)], [], [], [], [], [], [], [], [], [(5, 160)], [], [], [(5, 160)], [], [], [(5, 160)], [], [], [(5, 160)], [], [], [(5, 160)], [], [(5, 48)], []] = true := by decide +kernel
theorem pb_k142 : pb_okL yX12_back cX12_back (0, 0) 142 pb_t142 [[], [], [], [], [(5, 48)], [], [], [], [], [], [(5, 48)], [], [], [(5, 48)], [], [(5, 48)], []] = true := by decide +kernel
theorem pb_k143 : pb_okL yX12_at cX12_at (0, 0) 143 pb_t143 [[], [], [], [], [], [], [], []] = true := by decide +kernel
theorem pb_k144 : pb_okL yX12_zero cX12_zero (0, 0) 144 pb_t144 [[], [], [], [], [], [], [(5, 41)], [], [], [], [], [], [], [], []] = true := by decide +kernel
theorem pb_k145 : pb_okL yX12_small cX12_small (1, 22) 145 pb_t145 [[], [], [(5, 206)], [], [(5, 41)], [], [], [], []] = true := by decide +kernel
theorem pb_k146 : pb_okL yX12_copy cX12_copy (0, 0) 146 pb_t146 [[], [], [], [], [], [], [(5, 41)], [], [], [], [], [(5, 41)], [], [], [], [], [], [], [], []] = true := by decide +kernel
theorem pb_k147 : pb_okL yX12_isZero cX12_isZero (0, 0) 147 pb_t147 [[], [], [], [], [], [], [(5, 41)], [], [], [], [], [], [], [], [], [], [], []] = true := by decide +kernel
theorem pb_k148 : pb_okL yX12_limbs cX12_limbs (0, 0) 148 pb_t148 [[], [], [], [], [], [(5, 41)], [], [], [], [], [], [], [], [], [], [], []] = true := by decide +kernel
theorem pb_k149 : pb_okL yX12_isOne cX12_isOne (1, 22) 149 pb_t149 [[], [(5, 41)], [], [], [], [], [], [], [(6, 79)], [], [], [], [], [], []] = true := by decide +kernel
theorem pb_k150 : pb_okL yX12_compare cX12_compare (0, 0) 150 pb_t150 [[], [], [], [], [], [(5, 41)], [], [], [], [], [], [(5, 41)], [], [], [], [], [], [], [(5, 41)], [], [], [], [], [], [(5, 41)], [], [], [], [], [], [], [], [], [], [], [], [], []] = true := by decide +kernel
theorem pb_k151 : pb_okL yX12_plus cX12_plus (0, 0) 151 pb_t151 [[], [], [], [], [], [], [], [], [(5, 41)], [], [], [], [], [], [(5, 41)], [], [], [], [], [], [], [], [], [], [(5, 41)], [], [], [], [], [(5, 230)], [], [], [], [], [], [], [], [], []] = true := by decide +kernel
theorem pb_k152 : pb_okL yX12_minus cX12_minus (0, 0) 152 pb_t152 [[], [], [], [], [], [], [], [], [(5, 41)], [], [], [], [], [], [(5, 41)], [], [], [], [], [], [], [], [], [], [(5, 41)], [], [], [], [], [(5, 230)], [], [], [], [], [], [], [], [], [], [], []] = true := by decide +kernel
theorem pb_k153 : pb_okL yX12_less cX12_less (1, 25) 153 pb_t153 [[], [], [], [(6, 23)], [], [], [], [(5, 206)], [], [], [], [], [(6, 27)], []] = true := by decide +kernel
theorem pb_k154 : pb_okL yX12_isGreat cX12_isGreat (1, 22) 154 pb_t154 [[], [], [(6, 79)], [], [], [], [], [], []] = true := by decide +kernel
theorem pb_k155_0 : pb_okL yX12_product cX12_product (1, 22) 155 pb_t155_0 [[], [], [], [], [], [], [(5, 51)], [], [], [], [], [], [], [], [(6, 79)], [], [], [], [(6, 79)], [], [], [], [], [], [], [], [], [], [], [], [], [], [], [(5, 41)], [], [], [], [], [], []] = true := by decide +kernel
theorem pb_k155_1 : pb_okL yX12_product cX12_product (1, 22) 155 pb_t155_1 [[(5, 41)], [], [], [], [], [], [], [], [(5, 51)], [], [], [], [], [], [], [], [], [], [], [(5, 51)], [], [], [], [], [(6, 92)], [], [], [], [], [], [], [], [], [], [], [(5, 51)], [], [], [], []] = true := by decide +kernel
theorem pb_k155_2 : pb_okL yX12_product cX12_product (1, 22) 155 pb_t155_2 [[], [], [], [], [], [], [], [], [], [], [(5, 51)], [], [], [], [], [], [], [], [], [], [], [], [], [], [(5, 41)], [], [], [], [], [(5, 51)], [], [], [], [], [], [], []] = true := by decide +kernel
theorem pb_k156 : pb_okL yX12_moveUp cX12_moveUp (0, 0) 156 pb_t156 [[], [], [], [], [], [], [], [], [], [], [], [], [], [], [], [], [], [], [(5, 230)], [], [], [], [], [], [], [], [], []] = true := by decide +kernel
theorem pb_k157_0 : pb_okL yX12_digit cX12_digit (0, 0) 157 pb_t157_0 [[], [(5, 53)], [], [], [], [], [], [(6, 83)], [], [], [(5, 53)], [], [], [], [], [], [], [], [], [], [], [], [(5, 54)], [], [], [], [], [], [], [], [], [], [(5, 54)], [], [], [], [], [], [], []] = true := by decide +kernel
theorem pb_k157_1 : pb_okL yX12_digit cX12_digit (0, 0) 157 pb_t157_1 [[], [(6, 83)], [], [], [], [(6, 83)], [], [], [], [], [(5, 54)], [], [], [], [], [], [], [], [(6, 83)], [], [], [(5, 53)], [], [], [], [], [], [], [], [], [], [], [], [], [], [], [], [], [(5, 54)], []] = true := by decide +kernel
theorem pb_k157_2 : pb_okL yX12_digit cX12_digit (0, 0) 157 pb_t157_2 [[], [], [], [], [], [], [], [], [], [], [], [], [], [], [], [], [], [], [(5, 54)], [], [], [], [], [], [], [], [], [], [], [], [], [(5, 53)], [], [], [], [], [], [], [(6, 92)], []] = true := by decide +kernel
theorem pb_k157_3 : pb_okL yX12_digit cX12_digit (0, 0) 157 pb_t157_3 [[], [], [], [], [], [(5, 53)], [], [], [], [], [(6, 92)], [], [], [], [], [], [], [], [], [], [], [], [], [], [], [(5, 53)], [], [], [], [], [], [], [], [], [], [], [], [(5, 53)], [], []] = true := by decide +kernel
theorem pb_k157_4 : pb_okL yX12_digit cX12_digit (0, 0) 157 pb_t157_4 [[], [], [(6, 92)], [], [], [], [], [], [], [], [], [], [], [], [], [], [], [], [], [], [], [], [(5, 53)], [], [], [], [], [], [(5, 54)], [], [], [], [], [], [], [], [(5, 53)], [], [], []] = true := by decide +kernel
theorem pb_k157_5 : pb_okL yX12_digit cX12_digit (0, 0) 157 pb_t157_5 [[], [(5, 230)], [], [], [], [], [], [], [], [], [], [(5, 53)], [], [], [], [], [(5, 53)], [], [], [], [], [], [], [(5, 230)], [], [], [], [], []] = true := by decide +kernel
theorem pb_k158_0 : pb_okL yX12_divide cX12_divide (1, 37) 158 pb_t158_0 [[], [], [(6, 79)], [], [], [], [(6, 79)], [], [], [], [], [], [], [], [(5, 52)], [], [], [], [], [(5, 53)], [], [], [], [], [], [(5, 41)], [], [], [], [], [], [], [], [], [(5, 54)], [], [], [], [], []] = true := by decide +kernel
theorem pb_k158_1 : pb_okL yX12_divide cX12_divide (1, 37) 158 pb_t158_1 [[(5, 41)], [], [], [], [], [], [], [], [], [], [], [(5, 53)], [], [], [], [], [], [], [], [], [], [], [], [], [], [], [], [(6, 83)], [], [], [(5, 53)], [], [], [], [], [], [], [(5, 52)], [], []] = true := by decide +kernel
theorem pb_k158_2 : pb_okL yX12_divide cX12_divide (1, 37) 158 pb_t158_2 [[], [(5, 54)], [], [], [], [], [], [], [], [], [(5, 54)], [], [], [], [], [], [], [], [], [], [], [], [], [], [], [], [(5, 55)], [], [], [], [], [(5, 54)], [], [], [], [], [], [], [(6, 84)], []] = true := by decide +kernel
theorem pb_k158_3 : pb_okL yX12_divide cX12_divide (1, 37) 158 pb_t158_3 [[], [], [], [], [(5, 53)], [], [], [], [], [(6, 85)], [], [(5, 54)], [], [], [(6, 85)], [], [], [], [], [], [], [], [(5, 52)], [], [], [], [], [(6, 88)], [], [], [], [], [], [], [], [], [], [], [], []] = true := by decide +kernel
theorem pb_k158_4 : pb_okL yX12_divide cX12_divide (1, 37) 158 pb_t158_4 [[], [(5, 53)], [], [], [], [], [], [], [], [], [], [], [], [(5, 55)], []] = true := by decide +kernel
theorem pb_k159 : pb_okL yX12_divideUp cX12_divideUp (2, 66) 159 pb_t159 [[], [], [], [(6, 75)], [], [], [], [], [], [], [(5, 41)], [], [], [], [], [(5, 52)], [], [], [], [], [], [], [(5, 55)], [], [], [], [], [], [], [], [], [], [], [], [], [], [(5, 41)], [], [], [], [], [], [], [], [], [(5, 41)], [], [], [], [], [(5, 230)], [], [], [], [], [], [], [], [], []] = true := by decide +kernel
theorem pb_k160 : pb_okL yX12_isMultiple cX12_isMultiple (2, 66) 160 pb_t160 [[], [], [], [(6, 23)], [], [], [], [(6, 63)], [], [], [], [], [(6, 75)], [], [(5, 55)], []] = true := by decide +kernel
theorem pb_k161 : pb_okL yX12_clear cX12_clear (1, 22) 161 pb_t161 [[], [], [], [], [], [], [(5, 42)], [], [], [], [], [], [], [], [], [], [], [(5, 203)], [(5, 206)], [], [], []] = true := by decide +kernel
theorem pb_k162 : pb_okL yX12_copyRow cX12_copyRow (1, 23) 162 pb_t162 [[], [], [], [], [], [], [(5, 42)], [], [], [], [], [], [], [(5, 42)], [], [], [], [], [], [], [], [], [], [], [(5, 203)], [], [], [(5, 203)], [(6, 19)], [], [], []] = true := by decide +kernel
theorem pb_k163 : pb_okL yX12_hasRoom cX12_hasRoom (2, 43) 163 pb_t163 [[], [], [], [], [(5, 44)], [], [], [], [], [(5, 203)], [(6, 125)], [], [], [], [], [], [], []] = true := by decide +kernel
theorem pb_k164 : pb_okL yX12_meet cX12_meet (2, 47) 164 pb_t164 [[], [], [(5, 203)], [], [], [], [], [(6, 23)], [], [], [], [], [], [], [(5, 203)], [], [(6, 31)], [], [], [], [(6, 27)], [], [], [], [], [(5, 203)], [], [(6, 31)], [], [], [(5, 203)], [], [], [], [], [(6, 19)], [], [], [], [(6, 27)], [], [], [], [(6, 19)], [], [(5, 42)], [], [], [], [], [], [], [], [], [], [], [], []] = true := by decide +kernel
theorem pb_k165_0 : pb_okL yX12_sum cX12_sum (3, 74) 165 pb_t165_0 [[], [], [], [(5, 203)], [], [], [(5, 203)], [(6, 3)], [], [], [], [], [(5, 44)], [], [], [(5, 42)], [], [], [], [], [], [], [], [], [(5, 42)], [], [], [], [], [], [], [], [], [], [(5, 203)], [], [], [], [(5, 203)], []] = true := by decide +kernel
theorem pb_k165_1 : pb_okL yX12_sum cX12_sum (3, 74) 165 pb_t165_1 [[], [], [], [], [], [(5, 42)], [], [], [], [], [], [], [], [], [], [], [(6, 19)], [], [], [], [], [], [], [], [], [], [(6, 3)], [], [], [], [], [], [], [], [], [(6, 117)], [], [], [], []] = true := by decide +kernel
theorem pb_k165_2 : pb_okL yX12_sum cX12_sum (3, 74) 165 pb_t165_2 [[(6, 121)], []] = true := by decide +kernel
theorem pb_k166 : pb_okL yX12_times cX12_times (2, 52) 166 pb_t166 [[], [], [], [], [], [], [(5, 44)], [], [], [], [], [], [], [(5, 203)], [], [(6, 97)], [], [], [], [], []] = true := by decide +kernel
theorem pb_k167 : pb_okL yX12_divided cX12_divided (3, 91) 167 pb_t167 [[], [], [], [], [(5, 44)], [], [], [], [], [(5, 203)], [], [(6, 71)], [], [], []] = true := by decide +kernel
theorem pb_k168 : pb_okL yX12_cut cX12_cut (1, 23) 168 pb_t168 [[], [], [(5, 203)], [], [], [], [], [], [(5, 44)], [], [], [], [(5, 203)], [], [], [], [], [(6, 23)], [], [], [], [], [(6, 19)], [], [], [(6, 63)], [], [], [(5, 42)], [], [], [], [], [], [], [], [], [], []] = true := by decide +kernel
theorem pb_k169 : pb_okL yX12_without cX12_without (2, 47) 169 pb_t169 [[], [(5, 42)], [], [], [], [], [], [], [], [], [], [], [(5, 203)], [], [], [(5, 203)], [(6, 31)], [], [], [], [(5, 203)], [(5, 206)], [], [(5, 42)], [], [], [], [], [], [], [], []] = true := by decide +kernel
theorem pb_k170 : pb_okL yX12_isFalse cX12_isFalse (1, 25) 170 pb_t170 [[], [], [(5, 203)], [], [], [], [(5, 206)], [], [], [], [], [(5, 44)], [], [], [], [], [], [(5, 203)], [(6, 3)], [], [], [], [], [], [], [(5, 203)], [(6, 23)], [], [], [], [], []] = true := by decide +kernel
theorem pb_k171 : pb_okL yX12_isWrong cX12_isWrong (0, 0) 171 pb_t171 [[], [], [], [], [], [], [], [], [], [], [], [], [], [], []] = true := by decide +kernel
theorem pb_k172_0 : pb_okL yX12_state cX12_state (1, 25) 172 pb_t172_0 [[], [], [(5, 203)], [], [], [], [(5, 206)], [], [], [], [], [(5, 44)], [], [], [(5, 42)], [], [], [], [], [], [], [], [], [(5, 42)], [], [], [], [], [], [], [], [], [], [(6, 149)], [], [], [], [], [], [(5, 203)]] = true := by decide +kernel
theorem pb_k172_1 : pb_okL yX12_state cX12_state (1, 25) 172 pb_t172_1 [[(6, 3)], [], [], [], [], [], [], [(5, 203)], [(6, 23)], [], [], [], [], [], [], [], [(5, 203)], [(6, 27)], [], [], [], [], [(5, 44)], [], [], [(5, 42)], [], [], [], [], [], [], [], [], [], [], [], [], [], []] = true := by decide +kernel
theorem pb_k172_2 : pb_okL yX12_state cX12_state (1, 25) 172 pb_t172_2 [[], [(5, 203)], [], [(6, 23)], [], [], [], [], [], [], []] = true := by decide +kernel
theorem pb_k173 : pb_okL yX12_seen cX12_seen (0, 0) 173 pb_t173 [[], [], [(5, 48)], [], [], [(5, 47)], [], [], [], [], []] = true := by decide +kernel
theorem pb_k174 : pb_okL yX12_isDigit cX12_isDigit (1, 21) 174 pb_t174 [[], [], [(5, 183)], [], [], [], [], [(5, 183)], [], [], [], [], [], []] = true := by decide +kernel
theorem pb_k175 : pb_okL yX12_isByte cX12_isByte (0, 0) 175 pb_t175 [[], [], [], [], [], [], [], [], [], [], [], [], [], [], [], []] = true := by decide +kernel
theorem pb_k176 : pb_okL yX12_literal cX12_literal (2, 42) 176 pb_t176 [[], [], [(5, 183)], [], [], [], [], [], [], [], [], [], [], [], [], [], [], [(5, 187)], [], [], [], [], [], [], [], [], [], [], [], [(5, 183)], [], [], [], [], [], [], [], [], [], [], [(5, 56)], [], [], [(5, 58)], []] = true := by decide +kernel
theorem pb_k177_0 : pb_okL yX12_next cX12_next (3, 65) 177 pb_t177_0 [[], [(5, 58)], [], [], [], [], [], [(5, 48)], [], [], [(5, 47)], [], [], [(5, 180)], [], [], [], [], [(5, 47)], [], [], [], [], [], [(5, 47)], [], [], [], [], [], [(5, 47)], [], [], [], [], [], [(5, 47)], [], [], []] = true := by decide +kernel
theorem pb_k177_1 : pb_okL yX12_next cX12_next (3, 65) 177 pb_t177_1 [[], [], [(5, 47)], [], [], [], [], [], [], [], [(5, 47)], [], [], [], [], [], [], [], [], [], [], [], [], [(5, 57)], [], [], [(5, 183)], [], [], [], [], [], [], [], [(5, 59)], [], [], [(5, 48)], [], []] = true := by decide +kernel
theorem pb_k177_2 : pb_okL yX12_next cX12_next (3, 65) 177 pb_t177_2 [[], [(5, 56)], [], [], [], [], [], [(5, 187)], [], [], [], [(5, 187)], [], [], [], [], [], [], [], [], [], [], [], [], [(5, 56)], [], [], [], [], [], [], [], [], [], [(5, 191)], [], [], [], [], []] = true := by decide +kernel
theorem pb_k177_3 : pb_okL yX12_next cX12_next (3, 65) 177 pb_t177_3 [[], [], [], [], [], [(5, 183)], [], [], [], [], [], [(5, 56)], [], [], [], [], [], [], [], [], [], [], [], [], [], [], [], [], [], [], [], [], [], [], [], [], [], [], [], []] = true := by decide +kernel
theorem pb_k177_4 : pb_okL yX12_next cX12_next (3, 65) 177 pb_t177_4 [[], [], [], [], [], [], [], [], [], [], [], [], [], [], [], [], [], [(5, 56)], [], [], [(5, 58)], []] = true := by decide +kernel
theorem pb_k178 : pb_okL yX12_isMark cX12_isMark (0, 0) 178 pb_t178 [[], [(5, 56)], [], [], [], [(5, 59)], [], [], [], [], [], []] = true := by decide +kernel
theorem pb_k179 : pb_okL yX12_variable cX12_variable (0, 0) 179 pb_t179 [[], [(5, 59)], [], [], [], [(5, 57)], [], [], [], [], [(5, 57)], [], [], [], [], [], [], [], [], [], [(5, 58)], [], [], [], [], [], [(5, 47)], [], [], [], [], [], [], [], [], [], [(5, 59)], [], [], [], [], [], [], []] = true := by decide +kernel
theorem pb_k180 : pb_okL yX12_isVariable cX12_isVariable (0, 0) 180 pb_t180 [[], [], [], [], [], [], [], [], [], [], [], [], [(5, 44)], [], [], [], [], []] = true := by decide +kernel
theorem pb_k181 : pb_okL yX12_read cX12_read (1, 22) 181 pb_t181 [[], [], [(5, 206)], [], [], [], [], [], [], [(5, 47)], [], [], [], [], [], [], [], [], [], [], [], [], [(5, 41)], [], [], [], [], [], [], [], [], [], [(5, 41)], [], [], [], [], [(5, 230)], [], [], [], [], [], [], [], [], [], [], []] = true := by decide +kernel
theorem pb_k182 : pb_okL yX12_line cX12_line (0, 0) 182 pb_t182 [[], [], [], [], [], [], [], [], [], [], [], [(5, 47)], [], [], [], [], [], [], [], [], [], [], [], [], [], [], [], [], [], [(5, 45)], [], [], [], [], []] = true := by decide +kernel
theorem pb_k183 : pb_okL yX12_fault cX12_fault (0, 0) 183 pb_t183 [[], [], [(5, 49)], [], [], [(5, 50)], [], []] = true := by decide +kernel
theorem pb_k184 : pb_okL yX12_right cX12_right (1, 25) 184 pb_t184 [[], [], [], [], [], [], [], [(5, 203)], [], [], [(5, 203)], [(6, 3)], []] = true := by decide +kernel
theorem pb_k185 : pb_okL yX12_term cX12_term (2, 46) 185 pb_t185 [[], [], [], [], [], [], [], [], [], [], [], [], [], [], [], [], [], [], [], [], [], [(5, 203)], [], [], [(5, 203)], [(6, 3)], [], [], [], [], [], [(6, 7)], []] = true := by decide +kernel
theorem pb_k186 : pb_okL yX12_signed cX12_signed (4, 90) 186 pb_t186 [[], [], [], [(5, 210)], [(5, 60)], [], [(5, 56)], [], [], [], [(5, 176)], [], [(5, 56)], [], [], [], [], [(5, 60)], [], [], [], [(5, 57)], [(5, 222)], [], [], [], [(5, 57)], [], [(5, 58)], [], [], [(5, 203)], [(5, 226)], [], [(5, 176)], [], []] = true := by decide +kernel
theorem pb_k187_0 : pb_okL yX12_terms cX12_terms (5, 110) 187 pb_t187_0 [[], [], [(5, 199)], [], [], [(5, 199)], [], [(5, 56)], [], [], [], [(5, 56)], [], [], [], [], [(5, 210)], [], [], [], [(5, 210)], [], [], [], [], [], [], [(5, 203)], [], [(5, 214)], [], [(5, 56)], [], [], [], [(5, 218)], [], [], [], []] = true := by decide +kernel
theorem pb_k187_1 : pb_okL yX12_terms cX12_terms (5, 110) 187 pb_t187_1 [[(5, 60)], [], [], [], [], [], [], [], [(5, 60)], [], [(5, 56)], [], [], [], [], [], [(5, 57)], [(5, 222)], [], [], [], [(5, 231)], [(5, 235)], [], [], [], [], [(5, 57)], [(5, 222)], [], [], [], [(5, 231)], [], [(5, 239)], [], [(5, 176)], [], [], []] = true := by decide +kernel
theorem pb_k188_0 : pb_okL yX12_make cX12_make (2, 47) 188 pb_t188_0 [[], [], [], [], [], [], [], [], [], [], [], [], [], [], [(5, 199)], [], [], [], [(5, 203)], [], [], [(5, 203)], [(6, 19)], [], [], [], [], [(5, 44)], [], [], [], [], [(5, 203)], [], [], [(5, 203)], [(6, 23)], [], [], []] = true := by decide +kernel
theorem pb_k188_1 : pb_okL yX12_make cX12_make (2, 47) 188 pb_t188_1 [[(5, 203)], [], [], [(5, 42)], [], [], [], [], [], [], [], [], [], [], [], [], [], [], [(5, 203)], [], [(6, 19)], [], [], [], [], [], [], [], [], [(5, 203)], [(6, 27)], [], [], [], [], [], [(5, 203)], [], [(6, 3)], []] = true := by decide +kernel
theorem pb_k188_2 : pb_okL yX12_make cX12_make (2, 47) 188 pb_t188_2 [[], [], [], [], [(5, 203)], [], [], [(5, 203)], [(6, 31)], []] = true := by decide +kernel
theorem pb_k189 : pb_okL yX12_bound cX12_bound (5, 110) 189 pb_t189 [[], [(5, 56)], [], [], [], [], [(5, 210)], [], [], [], [(5, 210)], [], [], [], [], [(5, 57)], [(5, 222)], [], [], [(5, 218)], [], [], [], [], [], [(5, 60)], [], [], [], [], [(6, 7)], [], [], [(5, 60)], [], [], [(5, 210)], [], [], [], [], [(5, 57)], [(5, 222)], [], [], [], [], []] = true := by decide +kernel
theorem pb_k190_0 : pb_okL yX12_problems cX12_problems (6, 131) 190 pb_t190_0 [[], [], [], [(5, 176)], [], [(5, 56)], [], [], [(5, 195)], [], [], [], [], [(5, 56)], [], [], [], [(5, 59)], [], [], [], [(5, 59)], [], [], [], [(5, 59)], [], [], [], [(5, 59)], [], [], [], [], [], [], [], [], [(5, 57)], [(5, 222)]] = true := by decide +kernel
theorem pb_k190_1 : pb_okL yX12_problems cX12_problems (6, 131) 190 pb_t190_1 [[], [], [], [], [(5, 176)], [], [(6, 11)], [], [], [], [], [], [], [], [], [], [], [], [], [], [], [], [], [(5, 57)], [(5, 222)], [], [], [], [], [], [], [], [], [], [], [], [(6, 15)], [], [], []] = true := by decide +kernel
theorem pb_k190_2 : pb_okL yX12_problems cX12_problems (6, 131) 190 pb_t190_2 [[], [], [], [], [], [], [(6, 15)], [], [], [(5, 176)], [], [], []] = true := by decide +kernel
theorem pb_k191 : pb_okL yX12_forget cX12_forget (0, 0) 191 pb_t191 [[], [], [(5, 64)], [], [], [(5, 65)], [], [], [(5, 66)], [], [], [(5, 67)], [], [], [(5, 68)], [], [], [(5, 75)], [], [], [], [], [], [], [(5, 69)], [], [], [], [], [(5, 70)], [], [], [], [], [], []] = true := by decide +kernel
theorem pb_k192 : pb_okL yX12_load cX12_load (7, 153) 192 pb_t192 [[], [], [(5, 58)], [], [], [(5, 60)], [], [(5, 172)], [], [], [], [(5, 48)], [], [], [], [], [], [], [], [], [], [], [], [], [], [], [], [], [(6, 35)], [], [(5, 43)], [], [], [], [], [], [], [], [], [], [(5, 45)], [], [], [(5, 46)], [], [], [(5, 49)], [], [], [(5, 50)], [], [], [(5, 63)], [], [(6, 39)], [], []] = true := by decide +kernel
theorem pb_k193_0 : pb_okL yX12_numbered cX12_numbered (4, 114) 193 pb_t193_0 [[], [(5, 57)], [], [], [(5, 58)], [], [], [(5, 176)], [], [], [(5, 210)], [], [], [], [(5, 210)], [], [], [], [], [(6, 59)], [], [], [], [], [], [], [(5, 222)], [], [], [(5, 61)], [], [], [], [], [], [(5, 222)], [], [], [], []] = true := by decide +kernel
theorem pb_k193_1 : pb_okL yX12_numbered cX12_numbered (4, 114) 193 pb_t193_1 [[], [(5, 61)], [], [(6, 35)], [], [], [(5, 61)], [], [], [(5, 61)], [], [], [], [], [(5, 203)], [], [], [], [], [], [(5, 226)], [], [], [(6, 63)], [], [], [], [], [(5, 222)], [], [], [(5, 61)], [], [], [], [], [(5, 57)], [(5, 222)], [], []] = true := by decide +kernel
theorem pb_k193_2 : pb_okL yX12_numbered cX12_numbered (4, 114) 193 pb_t193_2 [[], [(5, 61)], [], [], [], [], [], [], [(5, 210)], [], [], [], [], [(6, 67)], [], [], [], [], [(6, 93)], [], [], [], [], [(5, 57)], [(5, 222)], [], [], [(5, 176)], [], []] = true := by decide +kernel
theorem pb_k194_0 : pb_okL yX12_lettered cX12_lettered (4, 90) 194 pb_t194_0 [[], [(5, 231)], [], [], [(5, 57)], [], [], [], [(5, 235)], [], [], [], [], [(5, 222)], [], [], [], [], [], [], [], [], [], [(5, 176)], [], [], [(5, 210)], [], [], [(5, 61)], [], [], [], [], [(5, 57)], [(5, 222)], [], [], [], []] = true := by decide +kernel
theorem pb_k194_1 : pb_okL yX12_lettered cX12_lettered (4, 90) 194 pb_t194_1 [[(5, 61)], [], [], [], [], [(6, 105)], [], [(5, 176)], [], [], [], [(5, 61)], [], [], [], [], [], [(5, 222)], [], [], [], [(5, 61)], [], [], [], [], [(5, 199)], [], [(5, 42)], [], [], [], [], [], [], [], [], [], [], []] = true := by decide +kernel
theorem pb_k194_2 : pb_okL yX12_lettered cX12_lettered (4, 90) 194 pb_t194_2 [[], [], [], [(5, 203)], [], [(5, 214)], [], [], [(5, 61)], [], [], [(5, 61)], [], []] = true := by decide +kernel
theorem pb_k195_0 : pb_okL yX12_signs cX12_signs (4, 101) 195 pb_t195_0 [[], [], [(5, 210)], [], [], [], [], [], [(5, 210)], [], [], [], [], [(5, 57)], [(5, 222)], [], [], [(5, 61)], [], [], [], [], [], [], [], [], [], [(5, 57)], [(5, 222)], [], [], [], [], [], [], [(5, 61)], [], [], [], []] = true := by decide +kernel
theorem pb_k195_1 : pb_okL yX12_signs cX12_signs (4, 101) 195 pb_t195_1 [[], [(5, 61)], [], [], [], [(6, 113)], [], [], [], [], [(5, 57)], [(5, 222)], [], [], [], [(5, 61)], [], [], [(5, 61)], [], [], [], [], [(5, 61)], [], [], [], [(6, 129)], [], [(5, 176)], [], []] = true := by decide +kernel
theorem pb_k196 : pb_okL yX12_add cX12_add (2, 46) 196 pb_t196 [[], [], [(5, 45)], [], [], [(5, 45)], [], [], [], [(5, 45)], [(6, 35)], [], [(5, 43)], [], [(5, 45)], [], [], []] = true := by decide +kernel
theorem pb_k197 : pb_okL yX12_pile cX12_pile (5, 138) 197 pb_t197 [[], [], [(5, 61)], [], [(5, 176)], [], [], [(5, 210)], [], [], [(5, 56)], [], [], [], [(6, 55)], [], [], [(5, 56)], [], [], [], [(6, 101)], [], [], [(6, 109)], [], [], [], [], [], [], [], [(5, 61)], [], [], [], [], [], [(5, 57)], [(5, 222)], [], [], [(5, 45)], [], [], [], [], [], [(5, 57)], [(5, 222)], [], [], [], [], [(6, 133)], [], []] = true := by decide +kernel
theorem pb_k198 : pb_okL yX12_turn cX12_turn (2, 47) 198 pb_t198 [[], [], [], [(6, 35)], [], [], [(5, 203)], [], [], [], [], [(5, 214)], [], [], [], [], [(5, 44)], [], [], [(5, 42)], [], [], [], [], [(5, 42)], [], [], [], [], [], [], [], [], [], [], [(5, 203)], [(6, 3)], [], [], [], [], [], [], [(5, 203)], [(6, 31)], []] = true := by decide +kernel
theorem pb_k199_0 : pb_okL yX12_follows cX12_follows (6, 131) 199 pb_t199_0 [[], [(5, 176)], [], [(5, 195)], [], [], [], [], [], [(5, 210)], [], [], [], [], [(5, 57)], [(5, 222)], [], [], [(5, 176)], [], [(6, 11)], [], [], [], [], [(5, 45)], [], [], [], [], [], [(5, 57)], [(5, 222)], [], [], [], [], [(6, 15)], [], [(6, 141)]] = true := by decide +kernel
theorem pb_k199_1 : pb_okL yX12_follows cX12_follows (6, 131) 199 pb_t199_1 [[], [], [], [], [], [], [(5, 62)], [], [], [], [], [], [], [], [], [], [], [], [], [], [], [], [(5, 45)], [], [], [], [], [], [], [], [], [], [], [(5, 62)], [(6, 145)], [], [], [], [], []] = true := by decide +kernel
theorem pb_k199_2 : pb_okL yX12_follows cX12_follows (6, 131) 199 pb_t199_2 [[], [], [(6, 133)], [], [], [], [], [], [(5, 62)], [], [], [(5, 42)], [], [], [], [], [], [], [], [], [], [], [], [], [], [], [], [], [], [], [], [], [(5, 57)], [(5, 222)], []] = true := by decide +kernel
theorem pb_k200_0 : pb_okL yX12_step cX12_step (7, 159) 200 pb_t200_0 [[], [], [(5, 210)], [], [], [(6, 51)], [], [], [], [(5, 210)], [], [], [(6, 137)], [], [], [], [(5, 210)], [], [], [], [], [(5, 57)], [(5, 222)], [], [], [(5, 176)], [], [(5, 56)], [], [], [], [], [], [(5, 57)], [(5, 222)], [], [], [], [(5, 57)], []] = true := by decide +kernel
theorem pb_k200_1 : pb_okL yX12_step cX12_step (7, 159) 200 pb_t200_1 [[(5, 58)], [(6, 59)], [], [], [], [], [], [], [(5, 57)], [(5, 222)], [], [], [(5, 176)], [], [], [(5, 210)], [], [], [], [], [(5, 57)], [(5, 222)], [], [], [], [(6, 152)], [], [], [], [], [(5, 57)], [(5, 222)], [], [], [], [], []] = true := by decide +kernel
theorem pb_k201 : pb_okL yX12_check cX12_check (8, 180) 201 pb_t201 [[], [], [(5, 58)], [], [], [(5, 60)], [], [], [(5, 49)], [], [], [(5, 50)], [], [], [], [(5, 176)], [], [(5, 56)], [], [], [(5, 49)], [], [], [(6, 47)], [], [], [], [(5, 176)], [], [], [], [(5, 48)], [], []] = true := by decide +kernel
theorem pb_k202 : pb_okL yX12_fault_ cX12_fault_ (0, 0) 202 pb_t202 [[], [], [], [(5, 49)], [], [], [], [], [], [(5, 50)], [], [], []] = true := by decide +kernel
theorem pb_k203 : pb_okL yX12_isLine cX12_isLine (0, 0) 203 pb_t203 [[], [], [], [], [], [(5, 45)], [], [], [], [], []] = true := by decide +kernel
theorem pb_k204 : pb_okL yX12_literal_ cX12_literal_ (1, 21) 204 pb_t204 [[], [], [(6, 164)], [], [], [], [], [], [], [(5, 44)], [], [], [], [], [(5, 42)], [], [], [], [], [], [], [], [], []] = true := by decide +kernel
theorem pb_k205 : pb_okL yX12_piece cX12_piece (1, 21) 205 pb_t205 [[], [], [(6, 164)], [], [], [], [], [], [(5, 44)], [], [], [], [], [], [], [], [], [], [], [(5, 203)], [], [], [], [], [], [], [(5, 41)], [], [], [], [], [], [], [], [(5, 41)], [], [], [], []] = true := by decide +kernel
theorem pb_k206_0 : pb_okL yX12_holds cX12_holds (1, 25) 206 pb_t206_0 [[], [], [(6, 164)], [], [], [], [], [], [(5, 203)], [], [], [], [(5, 206)], [], [], [], [], [(5, 44)], [], [], [(5, 42)], [], [], [], [], [], [], [], [], [], [], [], [], [], [], [], [], [], [], []] = true := by decide +kernel
theorem pb_k206_1 : pb_okL yX12_holds cX12_holds (1, 25) 206 pb_t206_1 [[], [], [], [], [], [], [], [], [], [], [], [(5, 203)], [(6, 3)], [], [], [], [], [], [], [(5, 203)], [(6, 23)], [], [], [], [], []] = true := by decide +kernel
theorem pb_k207 : pb_okL yX12_origin cX12_origin (1, 21) 207 pb_t207 [[], [], [(6, 164)], [], [], [(5, 43)], [], [], [], [], []] = true := by decide +kernel
theorem pb_k208 : pb_okL yX12_begin cX12_begin (1, 21) 208 pb_t208 [[], [(6, 39)], [], [], [(5, 63)], [], []] = true := by decide +kernel
theorem pb_k209 : pb_okL yX12_put cX12_put (0, 0) 209 pb_t209 [[], [(5, 76)], [], [], [], [(5, 74)], [], [(5, 76)], [], [], [], [], [], [(5, 76)], [], [], [(5, 76)], []] = true := by decide +kernel
theorem pb_k210_0 : pb_okL yX12_write cX12_write (1, 23) 210 pb_t210_0 [[], [], [(5, 203)], [], [], [], [], [(6, 19)], [], [], [], [], [], [], [], [], [], [], [], [], [], [(6, 208)], [], [], [(5, 41)], [], [], [], [], [], [], [], [(5, 41)], [], [], [], [], [], [], []] = true := by decide +kernel
theorem pb_k210_1 : pb_okL yX12_write cX12_write (1, 23) 210 pb_t210_1 [[], [], [], [], [], [], [], [(5, 78)], [], [], [], [], [], [], [(6, 63)], [], [], [], [], [], [], [], [], [], [], [], [], [], [], [], [(5, 78)], [], [], [], [(6, 196)], [], [], []] = true := by decide +kernel
theorem pb_k211 : pb_okL yX12_writeSmall cX12_writeSmall (2, 50) 211 pb_t211 [[], [], [(5, 203)], [], [], [], [], [(5, 214)], [], [], [(6, 204)], []] = true := by decide +kernel
theorem pb_k212 : pb_okL yX12_valuesTo cX12_valuesTo (0, 0) 212 pb_t212 [[], [], [], [], [], [], [(5, 77)], [], [], [], [], [], [], [], [], [], [(5, 65)], [], [], [(5, 72)], [], [], [], [], [], [(5, 71)], [], [], [], [], [(5, 77)], [], [], [], [], [], [], [], [], [], [], [], [], [], [], []] = true := by decide +kernel
theorem pb_k213 : pb_okL yX12_ready cX12_ready (2, 49) 213 pb_t213 [[], [], [], [], [(5, 64)], [], [], [], [(6, 213)], [], [], [], [(5, 77)], [(6, 145)], [], [], [], [], [], [], []] = true := by decide +kernel
theorem pb_k214 : pb_okL yX12_sign cX12_sign (1, 21) 214 pb_t214 [[], [], [(6, 196)], [], [], [(6, 196)], []] = true := by decide +kernel
theorem pb_k215_0 : pb_okL yX12_look cX12_look (4, 114) 215 pb_t215_0 [[], [(5, 71)], [], [], [], [], [], [], [], [], [], [], [], [], [], [], [], [], [], [(5, 42)], [], [], [], [], [], [], [], [], [(5, 73)], [], [], [], [], [], [], [], [(5, 203)], [], [], []] = true := by decide +kernel
theorem pb_k215_1 : pb_okL yX12_look cX12_look (4, 114) 215 pb_t215_1 [[(5, 203)], [], [], [], [], [(5, 203)], [], [(6, 19)], [], [], [(5, 73)], [], [], [], [(6, 35)], [], [], [], [(5, 203)], [], [(6, 19)], [], [], [(6, 196)], [], [], [(5, 73)], [], [], [(6, 200)], [], [], [], [], [], [], [(5, 77)], [], [], []] = true := by decide +kernel
theorem pb_k215_2 : pb_okL yX12_look cX12_look (4, 114) 215 pb_t215_2 [[], [], [], [], [], [], [], [], [(5, 71)], [], [], [], [], [(5, 77)], [], [], [], [], [], [], [], [], [], [], [], [], [], [], [], [], [], [], [(5, 44)], [], [], [(5, 42)], [], [], [], []] = true := by decide +kernel
theorem pb_k215_3 : pb_okL yX12_look cX12_look (4, 114) 215 pb_t215_3 [[], [], [], [], [], [], [], [], [(5, 77)], [], [], [(6, 149)], [], [], [], [], [(5, 203)], [], [(6, 221)], [], [], [], [], [(6, 105)], [], [], [(6, 196)], [], [], [(6, 196)], [], [], [(6, 200)], [], [], [(6, 225)], [], [], [], []] = true := by decide +kernel
theorem pb_k215_4 : pb_okL yX12_look cX12_look (4, 114) 215 pb_t215_4 [[(6, 229)], [], [], [], [], [(6, 67)], [], [], [(6, 196)], [], [], [(6, 204)], [], [], [(6, 225)], [], [], [(6, 129)], [], [], [(6, 225)], [], [], [(6, 229)], [], [], [], [], [(6, 93)], [], [], [], [], [], [(6, 196)], [], [], [(6, 204)], [], []] = true := by decide +kernel
theorem pb_k215_5 : pb_okL yX12_look cX12_look (4, 114) 215 pb_t215_5 [[(6, 225)], [], [], [], [(6, 113)], [], [], [], [], [], [(6, 225)], [], [], [(6, 129)], [], [], [(6, 225)], [], []] = true := by decide +kernel
theorem pb_k216_0 : pb_okL yX12_learn cX12_learn (5, 142) 216 pb_t216_0 [[], [], [], [(6, 35)], [], [], [(5, 75)], [(5, 76)], [], [], [(6, 196)], [], [], [(6, 196)], [], [], [(6, 200)], [], [(5, 65)], [], [], [(5, 64)], [], [], [(6, 209)], [], [], [], [], [], [], [], [], [], [], [], [], [], [], [(6, 217)]] = true := by decide +kernel
theorem pb_k216_1 : pb_okL yX12_learn cX12_learn (5, 142) 216 pb_t216_1 [[], [], [(5, 64)], [], [], [], [], [(6, 209)], [], [], [], [], [], [], [(6, 225)], [], [], [(6, 196)], [], [(5, 64)], [], [], [], [(6, 196)], [], [], [(6, 196)], [], [], [(5, 45)], [], [], [(6, 200)], [], [], [(6, 225)], [], [], [(6, 196)], []] = true := by decide +kernel
theorem pb_k216_2 : pb_okL yX12_learn cX12_learn (5, 142) 216 pb_t216_2 [[], [], [(5, 45)], [], [], [], [(5, 76)], [], [], [], [], [(5, 63)], [], [], [], [], [(6, 133)], [], [], [(5, 67)], [], [], [(5, 67)], [], [], [(5, 76)], [(5, 75)], [], [(5, 64)], [], [], [], [(5, 63)], [], [], [(5, 65)], [], [], [(5, 72)], []] = true := by decide +kernel
theorem pb_k216_3 : pb_okL yX12_learn cX12_learn (5, 142) 216 pb_t216_3 [[(5, 65)], [], [], [], [], [], [], [], [(5, 65)], [], [], [(5, 65)], [], [(5, 71)], [], [(5, 65)], [], [], [], [(5, 69)], [], [], [], [], [], [], [], [], [], [], [], [(5, 64)], []] = true := by decide +kernel
theorem pb_k217 : pb_okL yX12_gives cX12_gives (0, 0) 217 pb_t217 [[], [(5, 69)], [], [], [], [], [(5, 70)], [], [], [], [], [(5, 71)], [], [(5, 65)], [], [], [], [], [], [], [], [], [], [(5, 72)], [], [(5, 65)], [], [(5, 64)], [], [], [(5, 73)], [], [(5, 65)], [], [], [], [], [(5, 65)], [], [], [(5, 65)], []] = true := by decide +kernel
theorem pb_k218_0 : pb_okL yX12_act cX12_act (6, 167) 218 pb_t218_0 [[], [], [], [], [(5, 45)], [], [], [], [], [(5, 69)], [(6, 145)], [], [], [], [], [], [], [(6, 192)], [], [], [], [], [], [], [(5, 42)], [], [], [], [], [], [], [], [], [], [], [], [], [(6, 233)], [], []] = true := by decide +kernel
theorem pb_k218_1 : pb_okL yX12_act cX12_act (6, 167) 218 pb_t218_1 [[], [], [], [], [], [(5, 44)], [], [], [(5, 69)], [], [], [], [], [], [], [(5, 64)], [], [], [(5, 64)], [], [], [(5, 66)], [], [], [(5, 66)], [], [], [], [(5, 70)], [], [], [], [(6, 233)], [], [], [], [], [], [(5, 63)], []] = true := by decide +kernel
theorem pb_k219 : pb_okL yX12_run cX12_run (7, 189) 219 pb_t219 [[], [(5, 63)], [], [], [], [], [], [], [], [], [], [], [], [], [], [], [(5, 63)], [], [], [], [(6, 188)], [], [], [(5, 68)], [], [], [(5, 68)], [], [], [], []] = true := by decide +kernel
theorem pb_k220 : pb_okL yX12_value cX12_value (0, 0) 220 pb_t220 [[], [], [], [], [], [(5, 44)], [], [], [(5, 69)], [], [], [], [], []] = true := by decide +kernel
theorem pb_k221 : pb_okL yX12_trail cX12_trail (0, 0) 221 pb_t221 [[], [], [], [], [(5, 65)], [], [], [], [], [], [], [], [], [], [], [], [(5, 71)], [], [], [], [], [], [], [], [(5, 72)], [], [], [], [], [(5, 73)], [], [], []] = true := by decide +kernel
theorem pb_k222 : pb_okL yX12_proof cX12_proof (0, 0) 222 pb_t222 [[], [], [], [], [(5, 75)], [], [], [(5, 74)], [], [], [], [], []] = true := by decide +kernel
theorem pb_k223 : pb_okL yX12_count cX12_count (2, 48) 223 pb_t223 [[], [], [], [], [], [(5, 45)], [], [], [(5, 46)], [], [], [(5, 75)], [], [], [(5, 63)], [], [], [(5, 65)], [], [], [(5, 64)], [], [], [(5, 66)], [], [], [(5, 67)], [], [], [(5, 68)], [], [], [], [], [], [(5, 45)], [], [], [], [(6, 152)], [], [], [], [], [], [], [], [], [], [], [], [], [(5, 48)], [], [], []] = true := by decide +kernel
theorem pb_k224 : pb_okL yL_cell cL_cell (0, 0) 224 pb_t224 [[], [], [], [], [], [], [], [], [], []] = true := by decide +kernel
theorem pb_k225_0 : pb_okL yL_law cL_law (9, 213) 225 pb_t225_0 [[(1, 18), (1, 19), (1, 1)], [], [], [], [(5, 31)], [(1, 20)], [], [(5, 34), (5, 35), (1, 13)], [], [], [], [(5, 31)], [(5, 36)], [], [], [], [], [], [], [], [], [], [], [], [], [], [], [], [], [], [], [], [], [], [], [], [], [], [], []] = true := by decide +kernel
theorem pb_k225_1 : pb_okL yL_law cL_law (9, 213) 225 pb_t225_1 [[], [], [], [], [], [], [], [], [], [], [], [], [], [], [(2, 176)], [], [], [], [], [], [], [], [], [], [], [], [], [], [], [], [], [], [], [], [], [], [], [], [], []] = true := by decide +kernel
theorem pb_k225_2 : pb_okL yL_law cL_law (9, 213) 225 pb_t225_2 [[], [(5, 156)], [], [], [], [], [], [], [], [], [], [(2, 203)], [], [], [], [], [], [], [(5, 164)], [], [], [], [], [(2, 211)], [], [(5, 168)], [], [], [], [], [(3, 143)], [], [(6, 43)], [], [], [], [], [], [], []] = true := by decide +kernel
theorem pb_k225_3 : pb_okL yL_law cL_law (9, 213) 225 pb_t225_3 [[], [], [(4, 89)], [], [], [], [], [], [], [(6, 156)], [], [], [], [], [], [], [], [], [], [], [], [], [], [], [(4, 93)], [], [], [], [], [], [], [], [], [], [], [], [(6, 160)], [], [], []] = true := by decide +kernel
theorem pb_k225_4 : pb_okL yL_law cL_law (9, 213) 225 pb_t225_4 [[], [], [], [], [], [], [], [], [], [], [], [], [], [], [], [], [(4, 99)], [], [], [], [], [], [], [], [], [], [], [], [], [], [], [], [], [(6, 168)], [], [], [], [], [], []] = true := by decide +kernel
theorem pb_k225_5 : pb_okL yL_law cL_law (9, 213) 225 pb_t225_5 [[], [], [], [], [], [], [], [], [(4, 103)], [], [], [], [], [], [], [], [], [], [], [], [(6, 172)], [], [], [], [], [], [], [], [], [], [(4, 108)], [], [], [], [], [], [], [(6, 176)], [], []] = true := by decide +kernel
theorem pb_k225_6 : pb_okL yL_law cL_law (9, 213) 225 pb_t225_6 [[], [], [(4, 112)], [], [(6, 180)], [], [], [], [], [], [], [], [], [], [(4, 121)], [], [], [], [], [], [], [(6, 184)], [], [], [], [], [], [], [], [], [], [(5, 7)], [], [], [], [], [], [], [(6, 237)], []] = true := by decide +kernel
theorem pb_k225_7 : pb_okL yL_law cL_law (9, 213) 225 pb_t225_7 [[], [], [], [], [], [], [], [], [], [], [], [], [], [(5, 15)], [], [], [], [], [], [], [], [], [], [], [], [(7, 1)], [], [], [], [], [], [], [], [], [], [(5, 19)], [], [], [], []] = true := by decide +kernel
theorem pb_k225_8 : pb_okL yL_law cL_law (9, 213) 225 pb_t225_8 [[], [], [(7, 5)], [], [], [], [], [], [], [], [], [], [(5, 27)], [], [], [], [], [], [], [(7, 9)], [], [], [], [], [], [], []] = true := by decide +kernel
theorem pb_m0 : pb_mok yX0_init cX0_init 2 1 none 2 0 [(1, 6), (1, 146), (1, 145)] = true := by decide +kernel
theorem pb_m1 : pb_mok yJ7_copyOf_9075b cJ7_copyOf_9075b 3 2 (some (.array .byte)) 0 13 [(1, 14), (2, 191), (2, 190)] = true := by decide +kernel
theorem pb_m2 : pb_mok yX0_add cX0_add 2 1 none 1 0 [(1, 6), (2, 187), (2, 185), (2, 186)] = true := by decide +kernel
theorem pb_m3 : pb_mok yX0_addWord cX0_addWord 3 1 none 1 0 [(1, 6), (2, 183), (2, 181), (2, 182)] = true := by decide +kernel
theorem pb_m4 : pb_mok yX10_width cX10_width 3 2 (some .int) 0 10 [(1, 16), (3, 103), (3, 102)] = true := by decide +kernel
theorem pb_m5 : pb_mok yX10_tenth cX10_tenth 5 2 (some .int) 0 10 [(1, 16), (4, 202), (4, 201)] = true := by decide +kernel
theorem pb_m6 : pb_mok yX0_reverseFrom cX0_reverseFrom 5 1 none 1 0 [(1, 6), (4, 144), (4, 143), (0, 34)] = true := by decide +kernel
theorem pb_m7 : pb_mok yX0_addNumber cX0_addNumber 5 1 none 1 0 [(1, 6), (4, 197), (4, 195), (4, 196)] = true := by decide +kernel
theorem pb_m8 : pb_mok yX0_addSmall cX0_addSmall 4 1 none 1 0 [(1, 6), (4, 140), (4, 138), (4, 139)] = true := by decide +kernel
theorem pb_m9 : pb_mok yX0_addBlankAnd cX0_addBlankAnd 2 1 none 1 0 [(1, 6), (4, 184), (4, 182), (4, 183)] = true := by decide +kernel
theorem pb_m10 : pb_mok yX0_keep cX0_keep 2 1 none 1 0 [(1, 6), (2, 210), (2, 208), (2, 209)] = true := by decide +kernel
theorem pb_m11 : pb_mok yX0_byteAt cX0_byteAt 2 1 (some .int) 1 0 [(1, 6), (5, 26), (5, 24), (5, 25)] = true := by decide +kernel
theorem pb_m12 : pb_mok yX3_init cX3_init 1 0 none 2 3 [(1, 9), (1, 203), (1, 202)] = true := by decide +kernel
theorem pb_m13 : pb_mok yX4_init cX4_init 2 1 none 2 4 [(1, 10), (1, 224), (1, 223)] = true := by decide +kernel
theorem pb_m14 : pb_mok yX1_init cX1_init 5 3 none 2 1 [(1, 8), (1, 196), (1, 195)] = true := by decide +kernel
theorem pb_m15 : pb_mok yX8_byteAt cX8_byteAt 2 1 (some .int) 1 8 [(1, 4), (2, 231), (2, 230), (0, 1)] = true := by decide +kernel
theorem pb_m16 : pb_mok yX8_isBlank cX8_isBlank 1 1 (some .boolean) 0 8 [(1, 4), (2, 234), (2, 233)] = true := by decide +kernel
theorem pb_m17 : pb_mok yX8_isPrinted cX8_isPrinted 1 1 (some .boolean) 0 8 [(1, 4), (2, 237), (2, 236)] = true := by decide +kernel
theorem pb_m18 : pb_mok yX8_afterBlanks cX8_afterBlanks 5 1 (some .int) 1 8 [(1, 4), (2, 227), (2, 226), (0, 0)] = true := by decide +kernel
theorem pb_m19 : pb_mok yX8_isDigit cX8_isDigit 1 1 (some .boolean) 0 8 [(1, 4), (3, 0), (2, 239)] = true := by decide +kernel
theorem pb_m20 : pb_mok yX8_takeDigits cX8_takeDigits 1 0 none 1 8 [(1, 4), (3, 4), (3, 3), (0, 2)] = true := by decide +kernel
theorem pb_m21 : pb_mok yX8_takeLiteral cX8_takeLiteral 5 2 none 1 8 [(1, 4), (3, 8), (3, 7), (0, 3)] = true := by decide +kernel
theorem pb_m22 : pb_mok yX8_isSignOrWord cX8_isSignOrWord 1 1 (some .boolean) 0 8 [(1, 4), (3, 11), (3, 10)] = true := by decide +kernel
theorem pb_m23 : pb_mok yX8_next cX8_next 2 0 none 1 8 [(1, 4), (2, 223), (2, 221), (2, 222)] = true := by decide +kernel
theorem pb_m24 : pb_mok yJ7_fill_53178 cJ7_fill_53178 4 2 none 0 13 [(1, 14), (3, 22), (3, 21)] = true := by decide +kernel
theorem pb_m25 : pb_mok yX10_appendDigit cX10_appendDigit 5 2 none 0 10 [(1, 16), (3, 54), (3, 53)] = true := by decide +kernel
theorem pb_m26 : pb_mok yX8_readNumber cX8_readNumber 3 1 none 1 8 [(1, 4), (3, 50), (3, 48), (3, 49)] = true := by decide +kernel
theorem pb_m27 : pb_mok yX8_refuse cX8_refuse 3 2 (some .boolean) 1 8 [(1, 4), (3, 46), (3, 44), (3, 45)] = true := by decide +kernel
theorem pb_m28 : pb_mok yX1_uppermost cX1_uppermost 1 0 (some (.object "PlaneBench$Line")) 1 1 [(1, 8), (3, 170), (3, 169), (0, 18)] = true := by decide +kernel
theorem pb_m29 : pb_mok yX8_refuseHere cX8_refuseHere 2 1 (some .boolean) 1 8 [(1, 4), (3, 42), (3, 40), (3, 41)] = true := by decide +kernel
theorem pb_m30 : pb_mok yJ6_numberOfLeadingZeros_0f7a4 cJ6_numberOfLeadingZeros_0f7a4 2 1 (some .int) 0 13 [(1, 17), (3, 179), (3, 178)] = true := by decide +kernel
theorem pb_m31 : pb_mok yX3_take cX3_take 5 1 none 1 3 [(1, 9), (3, 175), (3, 173), (3, 174)] = true := by decide +kernel
theorem pb_m32 : pb_mok yX4_has cX4_has 2 1 (some .boolean) 1 4 [(1, 10), (3, 189), (3, 187), (3, 188)] = true := by decide +kernel
theorem pb_m33 : pb_mok yX3_guess cX3_guess 15 1 (some .long) 1 3 [(1, 9), (3, 198), (3, 197), (0, 19)] = true := by decide +kernel
theorem pb_m34 : pb_mok yX3_takeOff cX3_takeOff 11 2 (some .int) 1 3 [(1, 9), (3, 203), (3, 202), (0, 20)] = true := by decide +kernel
theorem pb_m35 : pb_mok yX3_somethingLeft cX3_somethingLeft 3 0 (some .boolean) 1 3 [(1, 9), (3, 207), (3, 206), (0, 21)] = true := by decide +kernel
theorem pb_m36 : pb_mok yX3_split cX3_split 6 2 (some .boolean) 1 3 [(1, 9), (3, 193), (3, 191), (3, 192)] = true := by decide +kernel
theorem pb_m37 : pb_mok yX3_putRoundedUp cX3_putRoundedUp 7 3 none 1 3 [(1, 9), (3, 211), (3, 209), (3, 210)] = true := by decide +kernel
theorem pb_m38 : pb_mok yX4_topIsEmpty cX4_topIsEmpty 2 0 (some .boolean) 1 4 [(1, 10), (3, 112), (3, 111), (0, 12)] = true := by decide +kernel
theorem pb_m39 : pb_mok yX4_settle cX4_settle 2 1 none 1 4 [(1, 10), (3, 108), (3, 107), (0, 11)] = true := by decide +kernel
theorem pb_m40 : pb_mok yX4_divide cX4_divide 4 1 none 1 4 [(1, 10), (3, 185), (3, 183), (3, 184)] = true := by decide +kernel
theorem pb_m41 : pb_mok yX10_multiply cX10_multiply 12 6 none 0 10 [(1, 16), (3, 218), (3, 217)] = true := by decide +kernel
theorem pb_m42 : pb_mok yX10_copy cX10_copy 4 4 none 0 10 [(1, 16), (3, 222), (3, 221)] = true := by decide +kernel
theorem pb_m43 : pb_mok yX4_multiply cX4_multiply 6 2 (some .boolean) 1 4 [(1, 10), (3, 215), (3, 213), (3, 214)] = true := by decide +kernel
theorem pb_m44 : pb_mok yX1_scaleUppermost cX1_scaleUppermost 3 1 (some .boolean) 1 1 [(1, 8), (3, 164), (3, 163), (0, 17)] = true := by decide +kernel
theorem pb_m45 : pb_mok yX10_small cX10_small 1 1 (some .int) 0 10 [(1, 16), (3, 226), (3, 225)] = true := by decide +kernel
theorem pb_m46 : pb_mok yX7_line cX7_line 2 1 (some (.object "PlaneBench$Line")) 1 7 [(1, 3), (3, 231), (3, 229), (3, 230)] = true := by decide +kernel
theorem pb_m47 : pb_mok yX1_raise cX1_raise 1 0 (some (.object "PlaneBench$Line")) 1 1 [(1, 8), (3, 235), (3, 234), (0, 22)] = true := by decide +kernel
theorem pb_m48 : pb_mok yX4_copyFrom cX4_copyFrom 2 1 none 1 4 [(1, 10), (3, 239), (3, 237), (3, 238)] = true := by decide +kernel
theorem pb_m49 : pb_mok yX1_takeNumber cX1_takeNumber 4 0 (some .boolean) 1 1 [(1, 8), (3, 159), (3, 158), (0, 16)] = true := by decide +kernel
theorem pb_m50 : pb_mok yX8_knowsVariable cX8_knowsVariable 2 1 (some .boolean) 1 8 [(1, 4), (3, 67), (3, 65), (3, 66)] = true := by decide +kernel
theorem pb_m51 : pb_mok yX10_subtract cX10_subtract 8 5 (some .int) 0 10 [(1, 16), (3, 74), (3, 73)] = true := by decide +kernel
theorem pb_m52 : pb_mok yX10_setSmall cX10_setSmall 4 3 none 0 10 [(1, 16), (3, 33), (3, 32)] = true := by decide +kernel
theorem pb_m53 : pb_mok yX4_takeOffDegree cX4_takeOffDegree 6 4 (some .int) 1 4 [(1, 10), (4, 16), (4, 15), (0, 25)] = true := by decide +kernel
theorem pb_m54 : pb_mok yX4_setSign cX4_setSign 4 2 none 1 4 [(1, 10), (3, 100), (3, 99), (0, 10)] = true := by decide +kernel
theorem pb_m55 : pb_mok yX4_without cX4_without 2 1 none 1 4 [(1, 10), (4, 12), (4, 10), (4, 11)] = true := by decide +kernel
theorem pb_m56 : pb_mok yX1_weakenUppermost cX1_weakenUppermost 3 1 (some .boolean) 1 1 [(1, 8), (4, 8), (4, 7), (0, 24)] = true := by decide +kernel
theorem pb_m57 : pb_mok yX4_setLiteral cX4_setLiteral 3 2 none 1 4 [(1, 10), (4, 21), (4, 19), (4, 20)] = true := by decide +kernel
theorem pb_m58 : pb_mok yX1_takeLiteral cX1_takeLiteral 5 0 (some .boolean) 1 1 [(1, 8), (4, 3), (4, 2), (0, 23)] = true := by decide +kernel
theorem pb_m59 : pb_mok yX10_add cX10_add 8 5 (some .int) 0 10 [(1, 16), (3, 71), (3, 70)] = true := by decide +kernel
theorem pb_m60 : pb_mok yX4_signOf cX4_signOf 3 1 (some .int) 1 4 [(1, 10), (4, 35), (4, 33), (4, 34)] = true := by decide +kernel
theorem pb_m61 : pb_mok yX10_compare cX10_compare 6 5 (some .int) 0 10 [(1, 16), (3, 133), (3, 132)] = true := by decide +kernel
theorem pb_m62 : pb_mok yX10_negate cX10_negate 5 2 none 0 10 [(1, 16), (3, 59), (3, 58)] = true := by decide +kernel
theorem pb_m63 : pb_mok yX4_cancel cX4_cancel 8 4 (some .int) 1 4 [(1, 10), (4, 39), (4, 38), (0, 27)] = true := by decide +kernel
theorem pb_m64 : pb_mok yX4_add cX4_add 8 1 (some .boolean) 1 4 [(1, 10), (4, 30), (4, 28), (4, 29)] = true := by decide +kernel
theorem pb_m65 : pb_mok yX1_addUppermost cX1_addUppermost 2 0 (some .boolean) 1 1 [(1, 8), (4, 26), (4, 25), (0, 26)] = true := by decide +kernel
theorem pb_m66 : pb_mok yX4_cut cX4_cut 4 0 none 1 4 [(1, 10), (4, 47), (4, 45), (4, 46)] = true := by decide +kernel
theorem pb_m67 : pb_mok yX1_cutUppermost cX1_cutUppermost 2 0 (some .boolean) 1 1 [(1, 8), (4, 43), (4, 42), (0, 28)] = true := by decide +kernel
theorem pb_m68 : pb_mok yX7_isFull cX7_isFull 1 0 (some .boolean) 1 7 [(1, 3), (4, 55), (4, 53), (4, 54)] = true := by decide +kernel
theorem pb_m69 : pb_mok yX4_findRest cX4_findRest 7 2 (some .long) 1 4 [(1, 10), (3, 125), (3, 124), (0, 13)] = true := by decide +kernel
theorem pb_m70 : pb_mok yX4_findAbove cX4_findAbove 6 2 (some .int) 1 4 [(1, 10), (3, 130), (3, 129), (0, 14)] = true := by decide +kernel
theorem pb_m71 : pb_mok yX4_look cX4_look 10 3 (some .int) 1 4 [(1, 10), (3, 121), (3, 119), (3, 120)] = true := by decide +kernel
theorem pb_m72 : pb_mok yX7_add cX7_add 4 2 none 1 7 [(1, 3), (4, 59), (4, 57), (4, 58)] = true := by decide +kernel
theorem pb_m73 : pb_mok yX1_addLine cX1_addLine 2 1 (some .boolean) 1 1 [(1, 8), (4, 51), (4, 50), (0, 29)] = true := by decide +kernel
theorem pb_m74 : pb_mok yX1_takeItems cX1_takeItems 3 0 (some .boolean) 1 1 [(1, 8), (3, 154), (3, 153), (0, 15)] = true := by decide +kernel
theorem pb_m75 : pb_mok yX2_beginsTerm cX2_beginsTerm 1 0 (some .boolean) 1 2 [(1, 5), (3, 26), (3, 25), (0, 4)] = true := by decide +kernel
theorem pb_m76 : pb_mok yX8_expect cX8_expect 2 1 (some .boolean) 1 8 [(1, 4), (3, 38), (3, 36), (3, 37)] = true := by decide +kernel
theorem pb_m77 : pb_mok yX2_readFactor cX2_readFactor 2 0 (some .boolean) 1 2 [(1, 5), (3, 30), (3, 29), (0, 5)] = true := by decide +kernel
theorem pb_m78 : pb_mok yX2_addLiteral cX2_addLiteral 2 0 (some .boolean) 1 2 [(1, 5), (3, 63), (3, 62), (0, 6)] = true := by decide +kernel
theorem pb_m79 : pb_mok yX2_isOtherRelation cX2_isOtherRelation 1 0 (some .boolean) 1 2 [(1, 5), (3, 78), (3, 77), (0, 7)] = true := by decide +kernel
theorem pb_m80 : pb_mok yX2_read cX2_read 3 1 (some .boolean) 1 2 [(1, 5), (3, 19), (3, 17), (3, 18)] = true := by decide +kernel
theorem pb_m81 : pb_mok yX4_setSums cX4_setSums 5 2 none 1 4 [(1, 10), (3, 92), (3, 90), (3, 91)] = true := by decide +kernel
theorem pb_m82 : pb_mok yX4_setOpposite cX4_setOpposite 3 1 none 1 4 [(1, 10), (4, 76), (4, 74), (4, 75)] = true := by decide +kernel
theorem pb_m83 : pb_mok yX1_follows cX1_follows 9 1 (some .boolean) 1 1 [(1, 8), (4, 72), (4, 71), (0, 31)] = true := by decide +kernel
theorem pb_m84 : pb_mok yX1_takeForced cX1_takeForced 1 0 (some .boolean) 1 1 [(1, 8), (4, 66), (4, 65), (0, 30)] = true := by decide +kernel
theorem pb_m85 : pb_mok yX4_isFalse cX4_isFalse 2 1 (some .boolean) 1 4 [(1, 10), (4, 87), (4, 85), (4, 86)] = true := by decide +kernel
theorem pb_m86 : pb_mok yX1_takeClaim cX1_takeClaim 2 0 (some .boolean) 1 1 [(1, 8), (4, 82), (4, 81), (0, 32)] = true := by decide +kernel
theorem pb_m87 : pb_mok yX1_takeSteps cX1_takeSteps 3 0 (some .int) 1 1 [(1, 8), (3, 150), (3, 148), (3, 149)] = true := by decide +kernel
theorem pb_m88 : pb_mok yX2_init cX2_init 3 2 none 2 2 [(1, 5), (1, 121), (1, 120)] = true := by decide +kernel
theorem pb_m89 : pb_mok yX5_init cX5_init 4 3 none 2 5 [(1, 7), (1, 171), (1, 170)] = true := by decide +kernel
theorem pb_m90 : pb_mok yX5_makeLine cX5_makeLine 2 1 (some .boolean) 1 5 [(1, 7), (3, 86), (3, 85), (0, 9)] = true := by decide +kernel
theorem pb_m91 : pb_mok yX5_makeLines cX5_makeLines 2 0 (some .boolean) 1 5 [(1, 7), (3, 82), (3, 81), (0, 8)] = true := by decide +kernel
theorem pb_m92 : pb_mok yX5_read cX5_read 2 0 (some .boolean) 1 5 [(1, 7), (3, 15), (3, 13), (3, 14)] = true := by decide +kernel
theorem pb_m93 : pb_mok yX9_init cX9_init 2 1 none 2 9 [(1, 12), (2, 63), (2, 62)] = true := by decide +kernel
theorem pb_m94 : pb_mok yX6_init cX6_init 2 1 none 2 6 [(1, 11), (2, 53), (2, 52)] = true := by decide +kernel
theorem pb_m95 : pb_mok yX9_clear cX9_clear 1 0 none 1 9 [(1, 12), (3, 141), (3, 139), (3, 140)] = true := by decide +kernel
theorem pb_m96 : pb_mok yX6_forget cX6_forget 1 0 none 1 6 [(1, 11), (3, 137), (3, 135), (3, 136)] = true := by decide +kernel
theorem pb_m97 : pb_mok yX6_start cX6_start 1 0 none 1 6 [(1, 11), (4, 119), (4, 117), (4, 118)] = true := by decide +kernel
theorem pb_m98 : pb_mok yX9_sizeAt cX9_sizeAt 3 1 (some .int) 1 9 [(1, 12), (4, 152), (4, 150), (4, 151)] = true := by decide +kernel
theorem pb_m99 : pb_mok yX9_bitOf cX9_bitOf 1 1 (some .int) 0 9 [(1, 12), (4, 159), (4, 158)] = true := by decide +kernel
theorem pb_m100 : pb_mok yX9_trueBitsOf cX9_trueBitsOf 4 1 (some .int) 1 9 [(1, 12), (4, 156), (4, 154), (4, 155)] = true := by decide +kernel
theorem pb_m101 : pb_mok yX9_falseBitsOf cX9_falseBitsOf 4 1 (some .int) 1 9 [(1, 12), (4, 166), (4, 164), (4, 165)] = true := by decide +kernel
theorem pb_m102 : pb_mok yX6_readyLevel cX6_readyLevel 3 0 (some .int) 1 6 [(1, 11), (4, 148), (4, 147), (0, 35)] = true := by decide +kernel
theorem pb_m103 : pb_mok yX6_weakenReason cX6_weakenReason 7 2 none 1 6 [(1, 11), (4, 178), (4, 177), (0, 37)] = true := by decide +kernel
theorem pb_m104 : pb_mok yX6_isOne cX6_isOne 1 1 (some .boolean) 0 6 [(1, 11), (4, 187), (4, 186)] = true := by decide +kernel
theorem pb_m105 : pb_mok yX6_writeNumberAnd cX6_writeNumberAnd 2 1 none 1 6 [(1, 11), (4, 193), (4, 192), (0, 38)] = true := by decide +kernel
theorem pb_m106 : pb_mok yX6_takeReason cX6_takeReason 5 2 (some .boolean) 1 6 [(1, 11), (4, 172), (4, 171), (0, 36)] = true := by decide +kernel
theorem pb_m107 : pb_mok yX6_addReason cX6_addReason 2 1 (some .boolean) 1 6 [(1, 11), (4, 207), (4, 206), (0, 39)] = true := by decide +kernel
theorem pb_m108 : pb_mok yX6_resolve cX6_resolve 6 2 (some .boolean) 1 6 [(1, 11), (4, 134), (4, 133), (0, 33)] = true := by decide +kernel
theorem pb_m109 : pb_mok yX6_writeEnd cX6_writeEnd 1 0 none 1 6 [(1, 11), (4, 217), (4, 216), (0, 41)] = true := by decide +kernel
theorem pb_m110 : pb_mok yX9_keepLevels cX9_keepLevels 3 1 none 1 9 [(1, 12), (4, 222), (4, 220), (4, 221)] = true := by decide +kernel
theorem pb_m111 : pb_mok yX6_finish cX6_finish 2 1 none 1 6 [(1, 11), (4, 213), (4, 212), (0, 40)] = true := by decide +kernel
theorem pb_m112 : pb_mok yJ6_numberOfTrailingZeros_0f7a4 cJ6_numberOfTrailingZeros_0f7a4 2 1 (some .int) 0 13 [(1, 17), (4, 232), (4, 231)] = true := by decide +kernel
theorem pb_m113 : pb_mok yX9_leastOf cX9_leastOf 1 1 (some .int) 0 9 [(1, 12), (4, 229), (4, 228)] = true := by decide +kernel
theorem pb_m114 : pb_mok yX9_isComplete cX9_isComplete 1 0 (some .boolean) 1 9 [(1, 12), (5, 0), (4, 238), (4, 239)] = true := by decide +kernel
theorem pb_m115 : pb_mok yX9_push cX9_push 5 3 none 1 9 [(1, 12), (4, 236), (4, 234), (4, 235)] = true := by decide +kernel
theorem pb_m116 : pb_mok yX9_choice cX9_choice 2 0 (some .int) 1 9 [(1, 12), (5, 5), (5, 3), (5, 4)] = true := by decide +kernel
theorem pb_m117 : pb_mok yX6_act cX6_act 5 0 none 1 6 [(1, 11), (4, 128), (4, 126), (4, 127)] = true := by decide +kernel
theorem pb_m118 : pb_mok yX7_init cX7_init 2 1 none 2 7 [(1, 3), (1, 36), (1, 35)] = true := by decide +kernel
theorem pb_m119 : pb_mok yX7_replaceBy cX7_replaceBy 5 2 none 1 7 [(1, 3), (3, 117), (3, 115), (3, 116)] = true := by decide +kernel
theorem pb_m120 : pb_mok yX8_init cX8_init 1 0 none 2 8 [(1, 4), (1, 74), (1, 73)] = true := by decide +kernel
theorem pb_m121 : pb_mok yX8_open cX8_open 2 1 none 1 8 [(1, 4), (2, 218), (2, 216), (2, 217)] = true := by decide +kernel
theorem pb_m122 : pb_mok yX9_valueOf cX9_valueOf 3 1 (some .int) 1 9 [(1, 12), (5, 14), (5, 12), (5, 13)] = true := by decide +kernel
theorem pb_m123 : pb_mok yX11_init cX11_init 6 1 none 2 11 [(1, 1), (1, 22), (1, 21)] = true := by decide +kernel
theorem pb_m124 : pb_mok yX11_feed cX11_feed 6 5 (some .int) 1 11 [(1, 1), (2, 179), (2, 177), (2, 178)] = true := by decide +kernel
theorem pb_m125 : pb_mok yX11_back cX11_back 2 1 (some .int) 1 11 [(1, 1), (2, 206), (2, 204), (2, 205)] = true := by decide +kernel
theorem pb_m126 : pb_mok yX11_load cX11_load 2 0 (some .int) 1 11 [(1, 1), (2, 214), (2, 212), (2, 213)] = true := by decide +kernel
theorem pb_m127 : pb_mok yX11_check cX11_check 2 0 (some .int) 1 11 [(1, 1), (3, 146), (3, 144), (3, 145)] = true := by decide +kernel
theorem pb_m128 : pb_mok yX11_fault cX11_fault 2 1 (some .int) 1 11 [(1, 1), (4, 92), (4, 90), (4, 91)] = true := by decide +kernel
theorem pb_m129 : pb_mok yX11_literal cX11_literal 4 2 (some .int) 1 11 [(1, 1), (4, 96), (4, 94), (4, 95)] = true := by decide +kernel
theorem pb_m130 : pb_mok yX11_piece cX11_piece 5 3 (some .int) 1 11 [(1, 1), (4, 102), (4, 100), (4, 101)] = true := by decide +kernel
theorem pb_m131 : pb_mok yX11_holds cX11_holds 4 2 (some .boolean) 1 11 [(1, 1), (4, 106), (4, 104), (4, 105)] = true := by decide +kernel
theorem pb_m132 : pb_mok yX11_origin cX11_origin 3 1 (some .int) 1 11 [(1, 1), (4, 111), (4, 109), (4, 110)] = true := by decide +kernel
theorem pb_m133 : pb_mok yX11_begin cX11_begin 1 0 (some .boolean) 1 11 [(1, 1), (4, 115), (4, 113), (4, 114)] = true := by decide +kernel
theorem pb_m134 : pb_mok yX11_run cX11_run 3 1 (some .int) 1 11 [(1, 1), (4, 124), (4, 122), (4, 123)] = true := by decide +kernel
theorem pb_m135 : pb_mok yX11_value cX11_value 2 1 (some .int) 1 11 [(1, 1), (5, 10), (5, 8), (5, 9)] = true := by decide +kernel
theorem pb_m136 : pb_mok yX11_trail cX11_trail 3 2 (some .int) 1 11 [(1, 1), (5, 18), (5, 16), (5, 17)] = true := by decide +kernel
theorem pb_m137 : pb_mok yX11_proof cX11_proof 2 1 (some .int) 1 11 [(1, 1), (5, 22), (5, 20), (5, 21)] = true := by decide +kernel
theorem pb_m138 : pb_mok yX11_count cX11_count 2 1 (some .int) 1 11 [(1, 1), (5, 30), (5, 28), (5, 29)] = true := by decide +kernel
theorem pb_m139 : pb_mok yX12_init cX12_init 3 1 none 2 12 [(1, 13), (5, 38), (5, 37)] = true := by decide +kernel
theorem pb_m140 : pb_mok yX12_word cX12_word 3 1 none 1 12 [(1, 13), (5, 163), (5, 162), (0, 42)] = true := by decide +kernel
theorem pb_m141 : pb_mok yX12_feed cX12_feed 6 5 (some .int) 1 12 [(1, 13), (5, 159), (5, 157), (5, 158)] = true := by decide +kernel
theorem pb_m142 : pb_mok yX12_back cX12_back 2 1 (some .int) 1 12 [(1, 13), (5, 167), (5, 165), (5, 166)] = true := by decide +kernel
theorem pb_m143 : pb_mok yX12_at cX12_at 2 2 (some .int) 0 12 [(1, 13), (5, 205), (5, 204)] = true := by decide +kernel
theorem pb_m144 : pb_mok yX12_zero cX12_zero 3 1 none 1 12 [(1, 13), (5, 209), (5, 208), (0, 50)] = true := by decide +kernel
theorem pb_m145 : pb_mok yX12_small cX12_small 3 2 none 1 12 [(1, 13), (5, 217), (5, 216), (0, 52)] = true := by decide +kernel
theorem pb_m146 : pb_mok yX12_copy cX12_copy 4 2 none 1 12 [(1, 13), (6, 22), (6, 21), (0, 63)] = true := by decide +kernel
theorem pb_m147 : pb_mok yX12_isZero cX12_isZero 3 1 (some .boolean) 1 12 [(1, 13), (6, 66), (6, 65), (0, 73)] = true := by decide +kernel
theorem pb_m148 : pb_mok yX12_limbs cX12_limbs 3 1 (some .int) 1 12 [(1, 13), (6, 82), (6, 81), (0, 77)] = true := by decide +kernel
theorem pb_m149 : pb_mok yX12_isOne cX12_isOne 2 1 (some .boolean) 1 12 [(1, 13), (6, 232), (6, 231), (0, 105)] = true := by decide +kernel
theorem pb_m150 : pb_mok yX12_compare cX12_compare 4 2 (some .int) 1 12 [(1, 13), (6, 26), (6, 25), (0, 64)] = true := by decide +kernel
theorem pb_m151 : pb_mok yX12_plus cX12_plus 6 2 none 1 12 [(1, 13), (6, 6), (6, 5), (0, 59)] = true := by decide +kernel
theorem pb_m152 : pb_mok yX12_minus cX12_minus 6 2 none 1 12 [(1, 13), (6, 30), (6, 29), (0, 65)] = true := by decide +kernel
theorem pb_m153 : pb_mok yX12_less cX12_less 3 2 none 1 12 [(1, 13), (6, 34), (6, 33), (0, 66)] = true := by decide +kernel
theorem pb_m154 : pb_mok yX12_isGreat cX12_isGreat 2 1 (some .boolean) 1 12 [(1, 13), (6, 128), (6, 127), (0, 87)] = true := by decide +kernel
theorem pb_m155 : pb_mok yX12_product cX12_product 11 2 (some .boolean) 1 12 [(1, 13), (6, 100), (6, 99), (0, 80)] = true := by decide +kernel
theorem pb_m156 : pb_mok yX12_moveUp cX12_moveUp 6 3 none 0 12 [(1, 13), (6, 87), (6, 86)] = true := by decide +kernel
theorem pb_m157 : pb_mok yX12_digit cX12_digit 18 2 (some .int) 1 12 [(1, 13), (6, 91), (6, 90), (0, 78)] = true := by decide +kernel
theorem pb_m158 : pb_mok yX12_divide cX12_divide 10 2 none 1 12 [(1, 13), (6, 78), (6, 77), (0, 76)] = true := by decide +kernel
theorem pb_m159 : pb_mok yX12_divideUp cX12_divideUp 6 2 none 1 12 [(1, 13), (6, 74), (6, 73), (0, 75)] = true := by decide +kernel
theorem pb_m160 : pb_mok yX12_isMultiple cX12_isMultiple 3 2 (some .boolean) 1 12 [(1, 13), (6, 224), (6, 223), (0, 103)] = true := by decide +kernel
theorem pb_m161 : pb_mok yX12_clear cX12_clear 3 1 none 1 12 [(1, 13), (5, 202), (5, 201), (0, 49)] = true := by decide +kernel
theorem pb_m162 : pb_mok yX12_copyRow cX12_copyRow 4 2 none 1 12 [(1, 13), (6, 38), (6, 37), (0, 67)] = true := by decide +kernel
theorem pb_m163 : pb_mok yX12_hasRoom cX12_hasRoom 3 1 (some .boolean) 1 12 [(1, 13), (6, 124), (6, 123), (0, 86)] = true := by decide +kernel
theorem pb_m164 : pb_mok yX12_meet cX12_meet 8 4 none 1 12 [(1, 13), (6, 120), (6, 119), (0, 85)] = true := by decide +kernel
theorem pb_m165 : pb_mok yX12_sum cX12_sum 8 2 (some .boolean) 1 12 [(1, 13), (6, 116), (6, 115), (0, 84)] = true := by decide +kernel
theorem pb_m166 : pb_mok yX12_times cX12_times 5 2 (some .boolean) 1 12 [(1, 13), (6, 96), (6, 95), (0, 79)] = true := by decide +kernel
theorem pb_m167 : pb_mok yX12_divided cX12_divided 4 2 none 1 12 [(1, 13), (6, 70), (6, 69), (0, 74)] = true := by decide +kernel
theorem pb_m168 : pb_mok yX12_cut cX12_cut 5 1 none 1 12 [(1, 13), (6, 132), (6, 131), (0, 88)] = true := by decide +kernel
theorem pb_m169 : pb_mok yX12_without cX12_without 3 2 none 1 12 [(1, 13), (6, 108), (6, 107), (0, 82)] = true := by decide +kernel
theorem pb_m170 : pb_mok yX12_isFalse cX12_isFalse 4 1 (some .boolean) 1 12 [(1, 13), (6, 155), (6, 154), (0, 93)] = true := by decide +kernel
theorem pb_m171 : pb_mok yX12_isWrong cX12_isWrong 2 2 (some .boolean) 0 12 [(1, 13), (6, 151), (6, 150)] = true := by decide +kernel
theorem pb_m172 : pb_mok yX12_state cX12_state 5 2 (some .int) 1 12 [(1, 13), (6, 148), (6, 147), (0, 92)] = true := by decide +kernel
theorem pb_m173 : pb_mok yX12_seen cX12_seen 2 1 (some .int) 1 12 [(1, 13), (5, 186), (5, 185), (0, 45)] = true := by decide +kernel
theorem pb_m174 : pb_mok yX12_isDigit cX12_isDigit 2 1 (some .boolean) 1 12 [(1, 13), (5, 190), (5, 189), (0, 46)] = true := by decide +kernel
theorem pb_m175 : pb_mok yX12_isByte cX12_isByte 1 1 (some .boolean) 0 12 [(1, 13), (5, 182), (5, 181)] = true := by decide +kernel
theorem pb_m176 : pb_mok yX12_literal cX12_literal 4 1 none 1 12 [(1, 13), (5, 194), (5, 193), (0, 47)] = true := by decide +kernel
theorem pb_m177 : pb_mok yX12_next cX12_next 6 0 none 1 12 [(1, 13), (5, 179), (5, 178), (0, 44)] = true := by decide +kernel
theorem pb_m178 : pb_mok yX12_isMark cX12_isMark 2 1 (some .boolean) 1 12 [(1, 13), (5, 213), (5, 212), (0, 51)] = true := by decide +kernel
theorem pb_m179 : pb_mok yX12_variable cX12_variable 4 0 (some .int) 1 12 [(1, 13), (5, 234), (5, 233), (0, 56)] = true := by decide +kernel
theorem pb_m180 : pb_mok yX12_isVariable cX12_isVariable 3 1 (some .boolean) 1 12 [(1, 13), (5, 238), (5, 237), (0, 57)] = true := by decide +kernel
theorem pb_m181 : pb_mok yX12_read cX12_read 8 3 none 1 12 [(1, 13), (5, 229), (5, 228), (0, 55)] = true := by decide +kernel
theorem pb_m182 : pb_mok yX12_line cX12_line 5 2 (some .int) 1 12 [(1, 13), (6, 62), (6, 61), (0, 72)] = true := by decide +kernel
theorem pb_m183 : pb_mok yX12_fault cX12_fault 3 2 (some .boolean) 1 12 [(1, 13), (5, 225), (5, 224), (0, 54)] = true := by decide +kernel
theorem pb_m184 : pb_mok yX12_right cX12_right 2 1 none 1 12 [(1, 13), (6, 10), (6, 9), (0, 60)] = true := by decide +kernel
theorem pb_m185 : pb_mok yX12_term cX12_term 5 2 none 1 12 [(1, 13), (6, 2), (6, 1), (0, 58)] = true := by decide +kernel
theorem pb_m186 : pb_mok yX12_signed cX12_signed 1 0 (some .boolean) 1 12 [(1, 13), (5, 221), (5, 220), (0, 53)] = true := by decide +kernel
theorem pb_m187 : pb_mok yX12_terms cX12_terms 2 0 (some .boolean) 1 12 [(1, 13), (5, 198), (5, 197), (0, 48)] = true := by decide +kernel
theorem pb_m188 : pb_mok yX12_make cX12_make 8 2 none 1 12 [(1, 13), (6, 18), (6, 17), (0, 62)] = true := by decide +kernel
theorem pb_m189 : pb_mok yX12_bound cX12_bound 1 0 (some .boolean) 1 12 [(1, 13), (6, 14), (6, 13), (0, 61)] = true := by decide +kernel
theorem pb_m190 : pb_mok yX12_problems cX12_problems 3 0 (some .int) 1 12 [(1, 13), (5, 175), (5, 174), (0, 43)] = true := by decide +kernel
theorem pb_m191 : pb_mok yX12_forget cX12_forget 2 0 none 1 12 [(1, 13), (6, 42), (6, 41), (0, 68)] = true := by decide +kernel
theorem pb_m192 : pb_mok yX12_load cX12_load 3 0 (some .int) 1 12 [(1, 13), (5, 171), (5, 169), (5, 170)] = true := by decide +kernel
theorem pb_m193 : pb_mok yX12_numbered cX12_numbered 5 0 (some .boolean) 1 12 [(1, 13), (6, 58), (6, 57), (0, 71)] = true := by decide +kernel
theorem pb_m194 : pb_mok yX12_lettered cX12_lettered 5 0 (some .boolean) 1 12 [(1, 13), (6, 104), (6, 103), (0, 81)] = true := by decide +kernel
theorem pb_m195 : pb_mok yX12_signs cX12_signs 2 0 (some .boolean) 1 12 [(1, 13), (6, 112), (6, 111), (0, 83)] = true := by decide +kernel
theorem pb_m196 : pb_mok yX12_add cX12_add 3 2 none 1 12 [(1, 13), (6, 136), (6, 135), (0, 89)] = true := by decide +kernel
theorem pb_m197 : pb_mok yX12_pile cX12_pile 2 0 (some .boolean) 1 12 [(1, 13), (6, 54), (6, 53), (0, 70)] = true := by decide +kernel
theorem pb_m198 : pb_mok yX12_turn cX12_turn 3 0 none 1 12 [(1, 13), (6, 144), (6, 143), (0, 91)] = true := by decide +kernel
theorem pb_m199 : pb_mok yX12_follows cX12_follows 5 0 (some .boolean) 1 12 [(1, 13), (6, 140), (6, 139), (0, 90)] = true := by decide +kernel
theorem pb_m200 : pb_mok yX12_step cX12_step 2 0 (some .boolean) 1 12 [(1, 13), (6, 50), (6, 49), (0, 69)] = true := by decide +kernel
theorem pb_m201 : pb_mok yX12_check cX12_check 2 0 (some .int) 1 12 [(1, 13), (6, 46), (6, 44), (6, 45)] = true := by decide +kernel
theorem pb_m202 : pb_mok yX12_fault_ cX12_fault_ 2 1 (some .int) 1 12 [(1, 13), (6, 159), (6, 157), (6, 158)] = true := by decide +kernel
theorem pb_m203 : pb_mok yX12_isLine cX12_isLine 2 1 (some .boolean) 1 12 [(1, 13), (6, 167), (6, 166), (0, 94)] = true := by decide +kernel
theorem pb_m204 : pb_mok yX12_literal_ cX12_literal_ 4 2 (some .int) 1 12 [(1, 13), (6, 163), (6, 161), (6, 162)] = true := by decide +kernel
theorem pb_m205 : pb_mok yX12_piece cX12_piece 5 3 (some .int) 1 12 [(1, 13), (6, 171), (6, 169), (6, 170)] = true := by decide +kernel
theorem pb_m206 : pb_mok yX12_holds cX12_holds 7 2 (some .boolean) 1 12 [(1, 13), (6, 175), (6, 173), (6, 174)] = true := by decide +kernel
theorem pb_m207 : pb_mok yX12_origin cX12_origin 2 1 (some .int) 1 12 [(1, 13), (6, 179), (6, 177), (6, 178)] = true := by decide +kernel
theorem pb_m208 : pb_mok yX12_begin cX12_begin 1 0 (some .boolean) 1 12 [(1, 13), (6, 183), (6, 181), (6, 182)] = true := by decide +kernel
theorem pb_m209 : pb_mok yX12_put cX12_put 2 1 none 1 12 [(1, 13), (6, 199), (6, 198), (0, 97)] = true := by decide +kernel
theorem pb_m210 : pb_mok yX12_write cX12_write 8 1 none 1 12 [(1, 13), (6, 207), (6, 206), (0, 99)] = true := by decide +kernel
theorem pb_m211 : pb_mok yX12_writeSmall cX12_writeSmall 3 1 none 1 12 [(1, 13), (6, 203), (6, 202), (0, 98)] = true := by decide +kernel
theorem pb_m212 : pb_mok yX12_valuesTo cX12_valuesTo 4 1 none 1 12 [(1, 13), (6, 216), (6, 215), (0, 101)] = true := by decide +kernel
theorem pb_m213 : pb_mok yX12_ready cX12_ready 2 0 (some .int) 1 12 [(1, 13), (6, 212), (6, 211), (0, 100)] = true := by decide +kernel
theorem pb_m214 : pb_mok yX12_sign cX12_sign 2 1 none 1 12 [(1, 13), (6, 228), (6, 227), (0, 104)] = true := by decide +kernel
theorem pb_m215 : pb_mok yX12_look cX12_look 9 1 (some .boolean) 1 12 [(1, 13), (6, 220), (6, 219), (0, 102)] = true := by decide +kernel
theorem pb_m216 : pb_mok yX12_learn cX12_learn 6 1 none 1 12 [(1, 13), (6, 195), (6, 194), (0, 96)] = true := by decide +kernel
theorem pb_m217 : pb_mok yX12_gives cX12_gives 4 3 none 1 12 [(1, 13), (6, 236), (6, 235), (0, 106)] = true := by decide +kernel
theorem pb_m218 : pb_mok yX12_act cX12_act 3 0 none 1 12 [(1, 13), (6, 191), (6, 190), (0, 95)] = true := by decide +kernel
theorem pb_m219 : pb_mok yX12_run cX12_run 3 1 (some .int) 1 12 [(1, 13), (6, 187), (6, 185), (6, 186)] = true := by decide +kernel
theorem pb_m220 : pb_mok yX12_value cX12_value 2 1 (some .int) 1 12 [(1, 13), (7, 0), (6, 238), (6, 239)] = true := by decide +kernel
theorem pb_m221 : pb_mok yX12_trail cX12_trail 3 2 (some .int) 1 12 [(1, 13), (7, 4), (7, 2), (7, 3)] = true := by decide +kernel
theorem pb_m222 : pb_mok yX12_proof cX12_proof 2 1 (some .int) 1 12 [(1, 13), (7, 8), (7, 6), (7, 7)] = true := by decide +kernel
theorem pb_m223 : pb_mok yX12_count cX12_count 4 1 (some .int) 1 12 [(1, 13), (7, 12), (7, 10), (7, 11)] = true := by decide +kernel
theorem pb_m224 : pb_mok yL_cell cL_cell 2 2 (some .int) 0 13 [(1, 0), (5, 33), (5, 32)] = true := by decide +kernel
theorem pb_u0 : pb_uok RX0 TX0 0 [(1, 157), (1, 159), (1, 161), (1, 163)] = true := by decide +kernel
theorem pb_u1 : pb_uok RX1 TX1 0 [(2, 30), (2, 32), (2, 34), (2, 36), (2, 38), (2, 40), (2, 42), (2, 44), (2, 46)] = true := by decide +kernel
theorem pb_u2 : pb_uok RX2 TX2 0 [(1, 131), (1, 133), (1, 135), (1, 137), (1, 139)] = true := by decide +kernel
theorem pb_u3 : pb_uok RX3 TX3 0 [(1, 210), (1, 212), (1, 214), (1, 216), (1, 218)] = true := by decide +kernel
theorem pb_u4 : pb_uok RX4 TX4 0 [(2, 2), (2, 4), (2, 6), (2, 8), (2, 10), (2, 12), (2, 14), (2, 16), (2, 18)] = true := by decide +kernel
theorem pb_u5 : pb_uok RX5 TX5 0 [(1, 181), (1, 183), (1, 185), (1, 187), (1, 189)] = true := by decide +kernel
theorem pb_u6 : pb_uok RX6 TX6 0 [(2, 123), (2, 125), (2, 127), (2, 129), (2, 131), (2, 133), (2, 135), (2, 137), (2, 139), (2, 141), (2, 143), (2, 145), (2, 147), (2, 149), (2, 151)] = true := by decide +kernel
theorem pb_u7 : pb_uok RX7 TX7 0 [(1, 56), (1, 58), (1, 60), (1, 62), (1, 64), (1, 66)] = true := by decide +kernel
theorem pb_u8 : pb_uok RX8 TX8 0 [(1, 98), (1, 100), (1, 102), (1, 104), (1, 106), (1, 108), (1, 110), (1, 112), (1, 114)] = true := by decide +kernel
theorem pb_u9 : pb_uok RX9 TX9 0 [(2, 82), (2, 84), (2, 86), (2, 88), (2, 90), (2, 92), (2, 94), (2, 96)] = true := by decide +kernel
theorem pb_u10 : pb_uok RX10 TX10 0 [] = true := by decide +kernel
theorem pb_u11 : pb_uok RX11 TX11 0 [(2, 161), (2, 163), (2, 165), (2, 167), (2, 169), (2, 171), (2, 173)] = true := by decide +kernel
theorem pb_u12 : pb_uok RX12 TX12 0 [(5, 79), (5, 81), (5, 83), (5, 85), (5, 87), (5, 89), (5, 91), (5, 93), (5, 95), (5, 97), (5, 99), (5, 101), (5, 103), (5, 105), (5, 107), (5, 109), (5, 111), (5, 113), (5, 115), (5, 117), (5, 119), (5, 121), (5, 123), (5, 125), (5, 127), (5, 129), (5, 131), (5, 133), (5, 135), (5, 137), (5, 139), (5, 141), (5, 143), (5, 145), (5, 147), (5, 149), (5, 151), (5, 153)] = true := by decide +kernel
theorem pb_ok_at : ∀ (m : Nat), ∀ q ∈ pb_t m, ∃ g, pb_okb (pb_y m) (pb_c m) (pb_nd m) m q g = true
  | 0, q, h => pb_okL_of _ _ pb_k0 q h
  | 1, q, h => pb_okL_of _ _ pb_k1 q h
  | 2, q, h => pb_okL_of _ _ pb_k2 q h
  | 3, q, h => pb_okL_of _ _ pb_k3 q h
  | 4, q, h => pb_okL_of _ _ pb_k4 q h
  | 5, q, h => pb_okL_of _ _ pb_k5 q h
  | 6, q, h => pb_okL_of _ _ pb_k6 q h
  | 7, q, h => pb_okL_of _ _ pb_k7 q h
  | 8, q, h => pb_okL_of _ _ pb_k8 q h
  | 9, q, h => pb_okL_of _ _ pb_k9 q h
  | 10, q, h => pb_okL_of _ _ pb_k10 q h
  | 11, q, h => pb_okL_of _ _ pb_k11 q h
  | 12, q, h => pb_okL_of _ _ pb_k12 q h
  | 13, q, h => pb_okL_of _ _ pb_k13 q h
  | 14, q, h => pb_okL_of _ _ pb_k14 q h
  | 15, q, h => pb_okL_of _ _ pb_k15 q h
  | 16, q, h => pb_okL_of _ _ pb_k16 q h
  | 17, q, h => pb_okL_of _ _ pb_k17 q h
  | 18, q, h => pb_okL_of _ _ pb_k18 q h
  | 19, q, h => pb_okL_of _ _ pb_k19 q h
  | 20, q, h => pb_okL_of _ _ pb_k20 q h
  | 21, q, h => pb_okL_of _ _ pb_k21 q h
  | 22, q, h => pb_okL_of _ _ pb_k22 q h
  | 23, q, h => (fun h => (List.mem_append.mp h).elim (fun h => pb_okL_of _ _ pb_k23_0 q h) (fun h => (List.mem_append.mp h).elim (fun h => pb_okL_of _ _ pb_k23_1 q h) (fun h => pb_okL_of _ _ pb_k23_2 q h))) h
  | 24, q, h => pb_okL_of _ _ pb_k24 q h
  | 25, q, h => pb_okL_of _ _ pb_k25 q h
  | 26, q, h => pb_okL_of _ _ pb_k26 q h
  | 27, q, h => pb_okL_of _ _ pb_k27 q h
  | 28, q, h => pb_okL_of _ _ pb_k28 q h
  | 29, q, h => pb_okL_of _ _ pb_k29 q h
  | 30, q, h => pb_okL_of _ _ pb_k30 q h
  | 31, q, h => pb_okL_of _ _ pb_k31 q h
  | 32, q, h => pb_okL_of _ _ pb_k32 q h
  | 33, q, h => (fun h => (List.mem_append.mp h).elim (fun h => pb_okL_of _ _ pb_k33_0 q h) (fun h => (List.mem_append.mp h).elim (fun h => pb_okL_of _ _ pb_k33_1 q h) (fun h => (List.mem_append.mp h).elim (fun h => pb_okL_of _ _ pb_k33_2 q h) (fun h => pb_okL_of _ _ pb_k33_3 q h)))) h
  | 34, q, h => (fun h => (List.mem_append.mp h).elim (fun h => pb_okL_of _ _ pb_k34_0 q h) (fun h => (List.mem_append.mp h).elim (fun h => pb_okL_of _ _ pb_k34_1 q h) (fun h => (List.mem_append.mp h).elim (fun h => pb_okL_of _ _ pb_k34_2 q h) (fun h => pb_okL_of _ _ pb_k34_3 q h)))) h
  | 35, q, h => pb_okL_of _ _ pb_k35 q h
  | 36, q, h => (fun h => (List.mem_append.mp h).elim (fun h => pb_okL_of _ _ pb_k36_0 q h) (fun h => pb_okL_of _ _ pb_k36_1 q h)) h
  | 37, q, h => pb_okL_of _ _ pb_k37 q h
  | 38, q, h => pb_okL_of _ _ pb_k38 q h
  | 39, q, h => pb_okL_of _ _ pb_k39 q h
  | 40, q, h => pb_okL_of _ _ pb_k40 q h
  | 41, q, h => (fun h => (List.mem_append.mp h).elim (fun h => pb_okL_of _ _ pb_k41_0 q h) (fun h => pb_okL_of _ _ pb_k41_1 q h)) h
  | 42, q, h => pb_okL_of _ _ pb_k42 q h
  | 43, q, h => pb_okL_of _ _ pb_k43 q h
  | 44, q, h => pb_okL_of _ _ pb_k44 q h
  | 45, q, h => pb_okL_of _ _ pb_k45 q h
  | 46, q, h => pb_okL_of _ _ pb_k46 q h
  | 47, q, h => pb_okL_of _ _ pb_k47 q h
  | 48, q, h => pb_okL_of _ _ pb_k48 q h
  | 49, q, h => pb_okL_of _ _ pb_k49 q h
  | 50, q, h => pb_okL_of _ _ pb_k50 q h
  | 51, q, h => pb_okL_of _ _ pb_k51 q h
  | 52, q, h => pb_okL_of _ _ pb_k52 q h
  | 53, q, h => pb_okL_of _ _ pb_k53 q h
  | 54, q, h => pb_okL_of _ _ pb_k54 q h
  | 55, q, h => pb_okL_of _ _ pb_k55 q h
  | 56, q, h => pb_okL_of _ _ pb_k56 q h
  | 57, q, h => pb_okL_of _ _ pb_k57 q h
  | 58, q, h => pb_okL_of _ _ pb_k58 q h
  | 59, q, h => pb_okL_of _ _ pb_k59 q h
  | 60, q, h => pb_okL_of _ _ pb_k60 q h
  | 61, q, h => pb_okL_of _ _ pb_k61 q h
  | 62, q, h => pb_okL_of _ _ pb_k62 q h
  | 63, q, h => (fun h => (List.mem_append.mp h).elim (fun h => pb_okL_of _ _ pb_k63_0 q h) (fun h => pb_okL_of _ _ pb_k63_1 q h)) h
  | 64, q, h => (fun h => (List.mem_append.mp h).elim (fun h => pb_okL_of _ _ pb_k64_0 q h) (fun h => (List.mem_append.mp h).elim (fun h => pb_okL_of _ _ pb_k64_1 q h) (fun h => pb_okL_of _ _ pb_k64_2 q h))) h
  | 65, q, h => pb_okL_of _ _ pb_k65 q h
  | 66, q, h => pb_okL_of _ _ pb_k66 q h
  | 67, q, h => pb_okL_of _ _ pb_k67 q h
  | 68, q, h => pb_okL_of _ _ pb_k68 q h
  | 69, q, h => (fun h => (List.mem_append.mp h).elim (fun h => pb_okL_of _ _ pb_k69_0 q h) (fun h => pb_okL_of _ _ pb_k69_1 q h)) h
  | 70, q, h => pb_okL_of _ _ pb_k70 q h
  | 71, q, h => (fun h => (List.mem_append.mp h).elim (fun h => pb_okL_of _ _ pb_k71_0 q h) (fun h => (List.mem_append.mp h).elim (fun h => pb_okL_of _ _ pb_k71_1 q h) (fun h => pb_okL_of _ _ pb_k71_2 q h))) h
  | 72, q, h => pb_okL_of _ _ pb_k72 q h
  | 73, q, h => pb_okL_of _ _ pb_k73 q h
  | 74, q, h => (fun h => (List.mem_append.mp h).elim (fun h => pb_okL_of _ _ pb_k74_0 q h) (fun h => pb_okL_of _ _ pb_k74_1 q h)) h
  | 75, q, h => pb_okL_of _ _ pb_k75 q h
  | 76, q, h => pb_okL_of _ _ pb_k76 q h
  | 77, q, h => pb_okL_of _ _ pb_k77 q h
  | 78, q, h => (fun h => (List.mem_append.mp h).elim (fun h => pb_okL_of _ _ pb_k78_0 q h) (fun h => pb_okL_of _ _ pb_k78_1 q h)) h
  | 79, q, h => pb_okL_of _ _ pb_k79 q h
  | 80, q, h => (fun h => (List.mem_append.mp h).elim (fun h => pb_okL_of _ _ pb_k80_0 q h) (fun h => pb_okL_of _ _ pb_k80_1 q h)) h
  | 81, q, h => (fun h => (List.mem_append.mp h).elim (fun h => pb_okL_of _ _ pb_k81_0 q h) (fun h => (List.mem_append.mp h).elim (fun h => pb_okL_of _ _ pb_k81_1 q h) (fun h => pb_okL_of _ _ pb_k81_2 q h))) h
  | 82, q, h => pb_okL_of _ _ pb_k82 q h
  | 83, q, h => (fun h => (List.mem_append.mp h).elim (fun h => pb_okL_of _ _ pb_k83_0 q h) (fun h => (List.mem_append.mp h).elim (fun h => pb_okL_of _ _ pb_k83_1 q h) (fun h => pb_okL_of _ _ pb_k83_2 q h))) h
  | 84, q, h => pb_okL_of _ _ pb_k84 q h
  | 85, q, h => pb_okL_of _ _ pb_k85 q h
  | 86, q, h => pb_okL_of _ _ pb_k86 q h
  | 87, q, h => pb_okL_of _ _ pb_k87 q h
  | 88, q, h => pb_okL_of _ _ pb_k88 q h
  | 89, q, h => pb_okL_of _ _ pb_k89 q h
  | 90, q, h => pb_okL_of _ _ pb_k90 q h
  | 91, q, h => pb_okL_of _ _ pb_k91 q h
  | 92, q, h => pb_okL_of _ _ pb_k92 q h
  | 93, q, h => pb_okL_of _ _ pb_k93 q h
  | 94, q, h => pb_okL_of _ _ pb_k94 q h
  | 95, q, h => pb_okL_of _ _ pb_k95 q h
  | 96, q, h => pb_okL_of _ _ pb_k96 q h
  | 97, q, h => pb_okL_of _ _ pb_k97 q h
  | 98, q, h => pb_okL_of _ _ pb_k98 q h
  | 99, q, h => pb_okL_of _ _ pb_k99 q h
  | 100, q, h => pb_okL_of _ _ pb_k100 q h
  | 101, q, h => pb_okL_of _ _ pb_k101 q h
  | 102, q, h => pb_okL_of _ _ pb_k102 q h
  | 103, q, h => (fun h => (List.mem_append.mp h).elim (fun h => pb_okL_of _ _ pb_k103_0 q h) (fun h => pb_okL_of _ _ pb_k103_1 q h)) h
  | 104, q, h => pb_okL_of _ _ pb_k104 q h
  | 105, q, h => pb_okL_of _ _ pb_k105 q h
  | 106, q, h => (fun h => (List.mem_append.mp h).elim (fun h => pb_okL_of _ _ pb_k106_0 q h) (fun h => pb_okL_of _ _ pb_k106_1 q h)) h
  | 107, q, h => pb_okL_of _ _ pb_k107 q h
  | 108, q, h => (fun h => (List.mem_append.mp h).elim (fun h => pb_okL_of _ _ pb_k108_0 q h) (fun h => (List.mem_append.mp h).elim (fun h => pb_okL_of _ _ pb_k108_1 q h) (fun h => pb_okL_of _ _ pb_k108_2 q h))) h
  | 109, q, h => pb_okL_of _ _ pb_k109 q h
  | 110, q, h => pb_okL_of _ _ pb_k110 q h
  | 111, q, h => pb_okL_of _ _ pb_k111 q h
  | 112, q, h => pb_okL_of _ _ pb_k112 q h
  | 113, q, h => pb_okL_of _ _ pb_k113 q h
  | 114, q, h => pb_okL_of _ _ pb_k114 q h
  | 115, q, h => (fun h => (List.mem_append.mp h).elim (fun h => pb_okL_of _ _ pb_k115_0 q h) (fun h => pb_okL_of _ _ pb_k115_1 q h)) h
  | 116, q, h => pb_okL_of _ _ pb_k116 q h
  | 117, q, h => (fun h => (List.mem_append.mp h).elim (fun h => pb_okL_of _ _ pb_k117_0 q h) (fun h => (List.mem_append.mp h).elim (fun h => pb_okL_of _ _ pb_k117_1 q h) (fun h => pb_okL_of _ _ pb_k117_2 q h))) h
  | 118, q, h => pb_okL_of _ _ pb_k118 q h
  | 119, q, h => (fun h => (List.mem_append.mp h).elim (fun h => pb_okL_of _ _ pb_k119_0 q h) (fun h => pb_okL_of _ _ pb_k119_1 q h)) h
  | 120, q, h => pb_okL_of _ _ pb_k120 q h
  | 121, q, h => pb_okL_of _ _ pb_k121 q h
  | 122, q, h => pb_okL_of _ _ pb_k122 q h
  | 123, q, h => (fun h => (List.mem_append.mp h).elim (fun h => pb_okL_of _ _ pb_k123_0 q h) (fun h => pb_okL_of _ _ pb_k123_1 q h)) h
  | 124, q, h => pb_okL_of _ _ pb_k124 q h
  | 125, q, h => pb_okL_of _ _ pb_k125 q h
  | 126, q, h => pb_okL_of _ _ pb_k126 q h
  | 127, q, h => pb_okL_of _ _ pb_k127 q h
  | 128, q, h => pb_okL_of _ _ pb_k128 q h
  | 129, q, h => pb_okL_of _ _ pb_k129 q h
  | 130, q, h => pb_okL_of _ _ pb_k130 q h
  | 131, q, h => pb_okL_of _ _ pb_k131 q h
  | 132, q, h => pb_okL_of _ _ pb_k132 q h
  | 133, q, h => pb_okL_of _ _ pb_k133 q h
  | 134, q, h => pb_okL_of _ _ pb_k134 q h
  | 135, q, h => pb_okL_of _ _ pb_k135 q h
  | 136, q, h => pb_okL_of _ _ pb_k136 q h
  | 137, q, h => pb_okL_of _ _ pb_k137 q h
  | 138, q, h => pb_okL_of _ _ pb_k138 q h
  | 139, q, h => (fun h => (List.mem_append.mp h).elim (fun h => pb_okL_of _ _ pb_k139_0 q h) (fun h => (List.mem_append.mp h).elim (fun h => pb_okL_of _ _ pb_k139_1 q h) (fun h => pb_okL_of _ _ pb_k139_2 q h))) h
  | 140, q, h => pb_okL_of _ _ pb_k140 q h
  | 141, q, h => pb_okL_of _ _ pb_k141 q h
  | 142, q, h => pb_okL_of _ _ pb_k142 q h
  | 143, q, h => pb_okL_of _ _ pb_k143 q h
  | 144, q, h => pb_okL_of _ _ pb_k144 q h
  | 145, q, h => pb_okL_of _ _ pb_k145 q h
  | 146, q, h => pb_okL_of _ _ pb_k146 q h
  | 147, q, h => pb_okL_of _ _ pb_k147 q h
  | 148, q, h => pb_okL_of _ _ pb_k148 q h
  | 149, q, h => pb_okL_of _ _ pb_k149 q h
  | 150, q, h => pb_okL_of _ _ pb_k150 q h
  | 151, q, h => pb_okL_of _ _ pb_k151 q h
  | 152, q, h => pb_okL_of _ _ pb_k152 q h
  | 153, q, h => pb_okL_of _ _ pb_k153 q h
  | 154, q, h => pb_okL_of _ _ pb_k154 q h
  | 155, q, h => (fun h => (List.mem_append.mp h).elim (fun h => pb_okL_of _ _ pb_k155_0 q h) (fun h => (List.mem_append.mp h).elim (fun h => pb_okL_of _ _ pb_k155_1 q h) (fun h => pb_okL_of _ _ pb_k155_2 q h))) h
  | 156, q, h => pb_okL_of _ _ pb_k156 q h
  | 157, q, h => (fun h => (List.mem_append.mp h).elim (fun h => pb_okL_of _ _ pb_k157_0 q h) (fun h => (List.mem_append.mp h).elim (fun h => pb_okL_of _ _ pb_k157_1 q h) (fun h => (List.mem_append.mp h).elim (fun h => pb_okL_of _ _ pb_k157_2 q h) (fun h => (List.mem_append.mp h).elim (fun h => pb_okL_of _ _ pb_k157_3 q h) (fun h => (List.mem_append.mp h).elim (fun h => pb_okL_of _ _ pb_k157_4 q h) (fun h => pb_okL_of _ _ pb_k157_5 q h)))))) h
  | 158, q, h => (fun h => (List.mem_append.mp h).elim (fun h => pb_okL_of _ _ pb_k158_0 q h) (fun h => (List.mem_append.mp h).elim (fun h => pb_okL_of _ _ pb_k158_1 q h) (fun h => (List.mem_append.mp h).elim (fun h => pb_okL_of _ _ pb_k158_2 q h) (fun h => (List.mem_append.mp h).elim (fun h => pb_okL_of _ _ pb_k158_3 q h) (fun h => pb_okL_of _ _ pb_k158_4 q h))))) h
  | 159, q, h => pb_okL_of _ _ pb_k159 q h
  | 160, q, h => pb_okL_of _ _ pb_k160 q h
  | 161, q, h => pb_okL_of _ _ pb_k161 q h
  | 162, q, h => pb_okL_of _ _ pb_k162 q h
  | 163, q, h => pb_okL_of _ _ pb_k163 q h
  | 164, q, h => pb_okL_of _ _ pb_k164 q h
  | 165, q, h => (fun h => (List.mem_append.mp h).elim (fun h => pb_okL_of _ _ pb_k165_0 q h) (fun h => (List.mem_append.mp h).elim (fun h => pb_okL_of _ _ pb_k165_1 q h) (fun h => pb_okL_of _ _ pb_k165_2 q h))) h
  | 166, q, h => pb_okL_of _ _ pb_k166 q h
  | 167, q, h => pb_okL_of _ _ pb_k167 q h
  | 168, q, h => pb_okL_of _ _ pb_k168 q h
  | 169, q, h => pb_okL_of _ _ pb_k169 q h
  | 170, q, h => pb_okL_of _ _ pb_k170 q h
  | 171, q, h => pb_okL_of _ _ pb_k171 q h
  | 172, q, h => (fun h => (List.mem_append.mp h).elim (fun h => pb_okL_of _ _ pb_k172_0 q h) (fun h => (List.mem_append.mp h).elim (fun h => pb_okL_of _ _ pb_k172_1 q h) (fun h => pb_okL_of _ _ pb_k172_2 q h))) h
  | 173, q, h => pb_okL_of _ _ pb_k173 q h
  | 174, q, h => pb_okL_of _ _ pb_k174 q h
  | 175, q, h => pb_okL_of _ _ pb_k175 q h
  | 176, q, h => pb_okL_of _ _ pb_k176 q h
  | 177, q, h => (fun h => (List.mem_append.mp h).elim (fun h => pb_okL_of _ _ pb_k177_0 q h) (fun h => (List.mem_append.mp h).elim (fun h => pb_okL_of _ _ pb_k177_1 q h) (fun h => (List.mem_append.mp h).elim (fun h => pb_okL_of _ _ pb_k177_2 q h) (fun h => (List.mem_append.mp h).elim (fun h => pb_okL_of _ _ pb_k177_3 q h) (fun h => pb_okL_of _ _ pb_k177_4 q h))))) h
  | 178, q, h => pb_okL_of _ _ pb_k178 q h
  | 179, q, h => pb_okL_of _ _ pb_k179 q h
  | 180, q, h => pb_okL_of _ _ pb_k180 q h
  | 181, q, h => pb_okL_of _ _ pb_k181 q h
  | 182, q, h => pb_okL_of _ _ pb_k182 q h
  | 183, q, h => pb_okL_of _ _ pb_k183 q h
  | 184, q, h => pb_okL_of _ _ pb_k184 q h
  | 185, q, h => pb_okL_of _ _ pb_k185 q h
  | 186, q, h => pb_okL_of _ _ pb_k186 q h
  | 187, q, h => (fun h => (List.mem_append.mp h).elim (fun h => pb_okL_of _ _ pb_k187_0 q h) (fun h => pb_okL_of _ _ pb_k187_1 q h)) h
  | 188, q, h => (fun h => (List.mem_append.mp h).elim (fun h => pb_okL_of _ _ pb_k188_0 q h) (fun h => (List.mem_append.mp h).elim (fun h => pb_okL_of _ _ pb_k188_1 q h) (fun h => pb_okL_of _ _ pb_k188_2 q h))) h
  | 189, q, h => pb_okL_of _ _ pb_k189 q h
  | 190, q, h => (fun h => (List.mem_append.mp h).elim (fun h => pb_okL_of _ _ pb_k190_0 q h) (fun h => (List.mem_append.mp h).elim (fun h => pb_okL_of _ _ pb_k190_1 q h) (fun h => pb_okL_of _ _ pb_k190_2 q h))) h
  | 191, q, h => pb_okL_of _ _ pb_k191 q h
  | 192, q, h => pb_okL_of _ _ pb_k192 q h
  | 193, q, h => (fun h => (List.mem_append.mp h).elim (fun h => pb_okL_of _ _ pb_k193_0 q h) (fun h => (List.mem_append.mp h).elim (fun h => pb_okL_of _ _ pb_k193_1 q h) (fun h => pb_okL_of _ _ pb_k193_2 q h))) h
  | 194, q, h => (fun h => (List.mem_append.mp h).elim (fun h => pb_okL_of _ _ pb_k194_0 q h) (fun h => (List.mem_append.mp h).elim (fun h => pb_okL_of _ _ pb_k194_1 q h) (fun h => pb_okL_of _ _ pb_k194_2 q h))) h
  | 195, q, h => (fun h => (List.mem_append.mp h).elim (fun h => pb_okL_of _ _ pb_k195_0 q h) (fun h => pb_okL_of _ _ pb_k195_1 q h)) h
  | 196, q, h => pb_okL_of _ _ pb_k196 q h
  | 197, q, h => pb_okL_of _ _ pb_k197 q h
  | 198, q, h => pb_okL_of _ _ pb_k198 q h
  | 199, q, h => (fun h => (List.mem_append.mp h).elim (fun h => pb_okL_of _ _ pb_k199_0 q h) (fun h => (List.mem_append.mp h).elim (fun h => pb_okL_of _ _ pb_k199_1 q h) (fun h => pb_okL_of _ _ pb_k199_2 q h))) h
  | 200, q, h => (fun h => (List.mem_append.mp h).elim (fun h => pb_okL_of _ _ pb_k200_0 q h) (fun h => pb_okL_of _ _ pb_k200_1 q h)) h
  | 201, q, h => pb_okL_of _ _ pb_k201 q h
  | 202, q, h => pb_okL_of _ _ pb_k202 q h
  | 203, q, h => pb_okL_of _ _ pb_k203 q h
  | 204, q, h => pb_okL_of _ _ pb_k204 q h
  | 205, q, h => pb_okL_of _ _ pb_k205 q h
  | 206, q, h => (fun h => (List.mem_append.mp h).elim (fun h => pb_okL_of _ _ pb_k206_0 q h) (fun h => pb_okL_of _ _ pb_k206_1 q h)) h
  | 207, q, h => pb_okL_of _ _ pb_k207 q h
  | 208, q, h => pb_okL_of _ _ pb_k208 q h
  | 209, q, h => pb_okL_of _ _ pb_k209 q h
  | 210, q, h => (fun h => (List.mem_append.mp h).elim (fun h => pb_okL_of _ _ pb_k210_0 q h) (fun h => pb_okL_of _ _ pb_k210_1 q h)) h
  | 211, q, h => pb_okL_of _ _ pb_k211 q h
  | 212, q, h => pb_okL_of _ _ pb_k212 q h
  | 213, q, h => pb_okL_of _ _ pb_k213 q h
  | 214, q, h => pb_okL_of _ _ pb_k214 q h
  | 215, q, h => (fun h => (List.mem_append.mp h).elim (fun h => pb_okL_of _ _ pb_k215_0 q h) (fun h => (List.mem_append.mp h).elim (fun h => pb_okL_of _ _ pb_k215_1 q h) (fun h => (List.mem_append.mp h).elim (fun h => pb_okL_of _ _ pb_k215_2 q h) (fun h => (List.mem_append.mp h).elim (fun h => pb_okL_of _ _ pb_k215_3 q h) (fun h => (List.mem_append.mp h).elim (fun h => pb_okL_of _ _ pb_k215_4 q h) (fun h => pb_okL_of _ _ pb_k215_5 q h)))))) h
  | 216, q, h => (fun h => (List.mem_append.mp h).elim (fun h => pb_okL_of _ _ pb_k216_0 q h) (fun h => (List.mem_append.mp h).elim (fun h => pb_okL_of _ _ pb_k216_1 q h) (fun h => (List.mem_append.mp h).elim (fun h => pb_okL_of _ _ pb_k216_2 q h) (fun h => pb_okL_of _ _ pb_k216_3 q h)))) h
  | 217, q, h => pb_okL_of _ _ pb_k217 q h
  | 218, q, h => (fun h => (List.mem_append.mp h).elim (fun h => pb_okL_of _ _ pb_k218_0 q h) (fun h => pb_okL_of _ _ pb_k218_1 q h)) h
  | 219, q, h => pb_okL_of _ _ pb_k219 q h
  | 220, q, h => pb_okL_of _ _ pb_k220 q h
  | 221, q, h => pb_okL_of _ _ pb_k221 q h
  | 222, q, h => pb_okL_of _ _ pb_k222 q h
  | 223, q, h => pb_okL_of _ _ pb_k223 q h
  | 224, q, h => pb_okL_of _ _ pb_k224 q h
  | 225, q, h => (fun h => (List.mem_append.mp h).elim (fun h => pb_okL_of _ _ pb_k225_0 q h) (fun h => (List.mem_append.mp h).elim (fun h => pb_okL_of _ _ pb_k225_1 q h) (fun h => (List.mem_append.mp h).elim (fun h => pb_okL_of _ _ pb_k225_2 q h) (fun h => (List.mem_append.mp h).elim (fun h => pb_okL_of _ _ pb_k225_3 q h) (fun h => (List.mem_append.mp h).elim (fun h => pb_okL_of _ _ pb_k225_4 q h) (fun h => (List.mem_append.mp h).elim (fun h => pb_okL_of _ _ pb_k225_5 q h) (fun h => (List.mem_append.mp h).elim (fun h => pb_okL_of _ _ pb_k225_6 q h) (fun h => (List.mem_append.mp h).elim (fun h => pb_okL_of _ _ pb_k225_7 q h) (fun h => pb_okL_of _ _ pb_k225_8 q h))))))))) h
  | _ + 226, _, h => absurd h List.not_mem_nil
theorem pb_mok_at : ∀ (c : Nat), c < 225 → ∃ hs, pb_mok (pb_y c) (pb_c c) (pb_ml c) (pb_na c) (pb_rt c) (pb_kd c) (pb_ci c) hs = true
  | 0, _ => ⟨_, pb_m0⟩
  | 1, _ => ⟨_, pb_m1⟩
  | 2, _ => ⟨_, pb_m2⟩
  | 3, _ => ⟨_, pb_m3⟩
  | 4, _ => ⟨_, pb_m4⟩
  | 5, _ => ⟨_, pb_m5⟩
  | 6, _ => ⟨_, pb_m6⟩
  | 7, _ => ⟨_, pb_m7⟩
  | 8, _ => ⟨_, pb_m8⟩
  | 9, _ => ⟨_, pb_m9⟩
  | 10, _ => ⟨_, pb_m10⟩
  | 11, _ => ⟨_, pb_m11⟩
  | 12, _ => ⟨_, pb_m12⟩
  | 13, _ => ⟨_, pb_m13⟩
  | 14, _ => ⟨_, pb_m14⟩
  | 15, _ => ⟨_, pb_m15⟩
  | 16, _ => ⟨_, pb_m16⟩
  | 17, _ => ⟨_, pb_m17⟩
  | 18, _ => ⟨_, pb_m18⟩
  | 19, _ => ⟨_, pb_m19⟩
  | 20, _ => ⟨_, pb_m20⟩
  | 21, _ => ⟨_, pb_m21⟩
  | 22, _ => ⟨_, pb_m22⟩
  | 23, _ => ⟨_, pb_m23⟩
  | 24, _ => ⟨_, pb_m24⟩
  | 25, _ => ⟨_, pb_m25⟩
  | 26, _ => ⟨_, pb_m26⟩
  | 27, _ => ⟨_, pb_m27⟩
  | 28, _ => ⟨_, pb_m28⟩
  | 29, _ => ⟨_, pb_m29⟩
  | 30, _ => ⟨_, pb_m30⟩
  | 31, _ => ⟨_, pb_m31⟩
  | 32, _ => ⟨_, pb_m32⟩
  | 33, _ => ⟨_, pb_m33⟩
  | 34, _ => ⟨_, pb_m34⟩
  | 35, _ => ⟨_, pb_m35⟩
  | 36, _ => ⟨_, pb_m36⟩
  | 37, _ => ⟨_, pb_m37⟩
  | 38, _ => ⟨_, pb_m38⟩
  | 39, _ => ⟨_, pb_m39⟩
  | 40, _ => ⟨_, pb_m40⟩
  | 41, _ => ⟨_, pb_m41⟩
  | 42, _ => ⟨_, pb_m42⟩
  | 43, _ => ⟨_, pb_m43⟩
  | 44, _ => ⟨_, pb_m44⟩
  | 45, _ => ⟨_, pb_m45⟩
  | 46, _ => ⟨_, pb_m46⟩
  | 47, _ => ⟨_, pb_m47⟩
  | 48, _ => ⟨_, pb_m48⟩
  | 49, _ => ⟨_, pb_m49⟩
  | 50, _ => ⟨_, pb_m50⟩
  | 51, _ => ⟨_, pb_m51⟩
  | 52, _ => ⟨_, pb_m52⟩
  | 53, _ => ⟨_, pb_m53⟩
  | 54, _ => ⟨_, pb_m54⟩
  | 55, _ => ⟨_, pb_m55⟩
  | 56, _ => ⟨_, pb_m56⟩
  | 57, _ => ⟨_, pb_m57⟩
  | 58, _ => ⟨_, pb_m58⟩
  | 59, _ => ⟨_, pb_m59⟩
  | 60, _ => ⟨_, pb_m60⟩
  | 61, _ => ⟨_, pb_m61⟩
  | 62, _ => ⟨_, pb_m62⟩
  | 63, _ => ⟨_, pb_m63⟩
  | 64, _ => ⟨_, pb_m64⟩
  | 65, _ => ⟨_, pb_m65⟩
  | 66, _ => ⟨_, pb_m66⟩
  | 67, _ => ⟨_, pb_m67⟩
  | 68, _ => ⟨_, pb_m68⟩
  | 69, _ => ⟨_, pb_m69⟩
  | 70, _ => ⟨_, pb_m70⟩
  | 71, _ => ⟨_, pb_m71⟩
  | 72, _ => ⟨_, pb_m72⟩
  | 73, _ => ⟨_, pb_m73⟩
  | 74, _ => ⟨_, pb_m74⟩
  | 75, _ => ⟨_, pb_m75⟩
  | 76, _ => ⟨_, pb_m76⟩
  | 77, _ => ⟨_, pb_m77⟩
  | 78, _ => ⟨_, pb_m78⟩
  | 79, _ => ⟨_, pb_m79⟩
  | 80, _ => ⟨_, pb_m80⟩
  | 81, _ => ⟨_, pb_m81⟩
  | 82, _ => ⟨_, pb_m82⟩
  | 83, _ => ⟨_, pb_m83⟩
  | 84, _ => ⟨_, pb_m84⟩
  | 85, _ => ⟨_, pb_m85⟩
  | 86, _ => ⟨_, pb_m86⟩
  | 87, _ => ⟨_, pb_m87⟩
  | 88, _ => ⟨_, pb_m88⟩
  | 89, _ => ⟨_, pb_m89⟩
  | 90, _ => ⟨_, pb_m90⟩
  | 91, _ => ⟨_, pb_m91⟩
  | 92, _ => ⟨_, pb_m92⟩
  | 93, _ => ⟨_, pb_m93⟩
  | 94, _ => ⟨_, pb_m94⟩
  | 95, _ => ⟨_, pb_m95⟩
  | 96, _ => ⟨_, pb_m96⟩
  | 97, _ => ⟨_, pb_m97⟩
  | 98, _ => ⟨_, pb_m98⟩
  | 99, _ => ⟨_, pb_m99⟩
  | 100, _ => ⟨_, pb_m100⟩
  | 101, _ => ⟨_, pb_m101⟩
  | 102, _ => ⟨_, pb_m102⟩
  | 103, _ => ⟨_, pb_m103⟩
  | 104, _ => ⟨_, pb_m104⟩
  | 105, _ => ⟨_, pb_m105⟩
  | 106, _ => ⟨_, pb_m106⟩
  | 107, _ => ⟨_, pb_m107⟩
  | 108, _ => ⟨_, pb_m108⟩
  | 109, _ => ⟨_, pb_m109⟩
  | 110, _ => ⟨_, pb_m110⟩
  | 111, _ => ⟨_, pb_m111⟩
  | 112, _ => ⟨_, pb_m112⟩
  | 113, _ => ⟨_, pb_m113⟩
  | 114, _ => ⟨_, pb_m114⟩
  | 115, _ => ⟨_, pb_m115⟩
  | 116, _ => ⟨_, pb_m116⟩
  | 117, _ => ⟨_, pb_m117⟩
  | 118, _ => ⟨_, pb_m118⟩
  | 119, _ => ⟨_, pb_m119⟩
  | 120, _ => ⟨_, pb_m120⟩
  | 121, _ => ⟨_, pb_m121⟩
  | 122, _ => ⟨_, pb_m122⟩
  | 123, _ => ⟨_, pb_m123⟩
  | 124, _ => ⟨_, pb_m124⟩
  | 125, _ => ⟨_, pb_m125⟩
  | 126, _ => ⟨_, pb_m126⟩
  | 127, _ => ⟨_, pb_m127⟩
  | 128, _ => ⟨_, pb_m128⟩
  | 129, _ => ⟨_, pb_m129⟩
  | 130, _ => ⟨_, pb_m130⟩
  | 131, _ => ⟨_, pb_m131⟩
  | 132, _ => ⟨_, pb_m132⟩
  | 133, _ => ⟨_, pb_m133⟩
  | 134, _ => ⟨_, pb_m134⟩
  | 135, _ => ⟨_, pb_m135⟩
  | 136, _ => ⟨_, pb_m136⟩
  | 137, _ => ⟨_, pb_m137⟩
  | 138, _ => ⟨_, pb_m138⟩
  | 139, _ => ⟨_, pb_m139⟩
  | 140, _ => ⟨_, pb_m140⟩
  | 141, _ => ⟨_, pb_m141⟩
  | 142, _ => ⟨_, pb_m142⟩
  | 143, _ => ⟨_, pb_m143⟩
  | 144, _ => ⟨_, pb_m144⟩
  | 145, _ => ⟨_, pb_m145⟩
  | 146, _ => ⟨_, pb_m146⟩
  | 147, _ => ⟨_, pb_m147⟩
  | 148, _ => ⟨_, pb_m148⟩
  | 149, _ => ⟨_, pb_m149⟩
  | 150, _ => ⟨_, pb_m150⟩
  | 151, _ => ⟨_, pb_m151⟩
  | 152, _ => ⟨_, pb_m152⟩
  | 153, _ => ⟨_, pb_m153⟩
  | 154, _ => ⟨_, pb_m154⟩
  | 155, _ => ⟨_, pb_m155⟩
  | 156, _ => ⟨_, pb_m156⟩
  | 157, _ => ⟨_, pb_m157⟩
  | 158, _ => ⟨_, pb_m158⟩
  | 159, _ => ⟨_, pb_m159⟩
  | 160, _ => ⟨_, pb_m160⟩
  | 161, _ => ⟨_, pb_m161⟩
  | 162, _ => ⟨_, pb_m162⟩
  | 163, _ => ⟨_, pb_m163⟩
  | 164, _ => ⟨_, pb_m164⟩
  | 165, _ => ⟨_, pb_m165⟩
  | 166, _ => ⟨_, pb_m166⟩
  | 167, _ => ⟨_, pb_m167⟩
  | 168, _ => ⟨_, pb_m168⟩
  | 169, _ => ⟨_, pb_m169⟩
  | 170, _ => ⟨_, pb_m170⟩
  | 171, _ => ⟨_, pb_m171⟩
  | 172, _ => ⟨_, pb_m172⟩
  | 173, _ => ⟨_, pb_m173⟩
  | 174, _ => ⟨_, pb_m174⟩
  | 175, _ => ⟨_, pb_m175⟩
  | 176, _ => ⟨_, pb_m176⟩
  | 177, _ => ⟨_, pb_m177⟩
  | 178, _ => ⟨_, pb_m178⟩
  | 179, _ => ⟨_, pb_m179⟩
  | 180, _ => ⟨_, pb_m180⟩
  | 181, _ => ⟨_, pb_m181⟩
  | 182, _ => ⟨_, pb_m182⟩
  | 183, _ => ⟨_, pb_m183⟩
  | 184, _ => ⟨_, pb_m184⟩
  | 185, _ => ⟨_, pb_m185⟩
  | 186, _ => ⟨_, pb_m186⟩
  | 187, _ => ⟨_, pb_m187⟩
  | 188, _ => ⟨_, pb_m188⟩
  | 189, _ => ⟨_, pb_m189⟩
  | 190, _ => ⟨_, pb_m190⟩
  | 191, _ => ⟨_, pb_m191⟩
  | 192, _ => ⟨_, pb_m192⟩
  | 193, _ => ⟨_, pb_m193⟩
  | 194, _ => ⟨_, pb_m194⟩
  | 195, _ => ⟨_, pb_m195⟩
  | 196, _ => ⟨_, pb_m196⟩
  | 197, _ => ⟨_, pb_m197⟩
  | 198, _ => ⟨_, pb_m198⟩
  | 199, _ => ⟨_, pb_m199⟩
  | 200, _ => ⟨_, pb_m200⟩
  | 201, _ => ⟨_, pb_m201⟩
  | 202, _ => ⟨_, pb_m202⟩
  | 203, _ => ⟨_, pb_m203⟩
  | 204, _ => ⟨_, pb_m204⟩
  | 205, _ => ⟨_, pb_m205⟩
  | 206, _ => ⟨_, pb_m206⟩
  | 207, _ => ⟨_, pb_m207⟩
  | 208, _ => ⟨_, pb_m208⟩
  | 209, _ => ⟨_, pb_m209⟩
  | 210, _ => ⟨_, pb_m210⟩
  | 211, _ => ⟨_, pb_m211⟩
  | 212, _ => ⟨_, pb_m212⟩
  | 213, _ => ⟨_, pb_m213⟩
  | 214, _ => ⟨_, pb_m214⟩
  | 215, _ => ⟨_, pb_m215⟩
  | 216, _ => ⟨_, pb_m216⟩
  | 217, _ => ⟨_, pb_m217⟩
  | 218, _ => ⟨_, pb_m218⟩
  | 219, _ => ⟨_, pb_m219⟩
  | 220, _ => ⟨_, pb_m220⟩
  | 221, _ => ⟨_, pb_m221⟩
  | 222, _ => ⟨_, pb_m222⟩
  | 223, _ => ⟨_, pb_m223⟩
  | 224, _ => ⟨_, pb_m224⟩
  | k + 225, h => absurd h (by omega)
