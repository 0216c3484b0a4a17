/-! What the tables must say of each entry, as a test that the kernel runs. -/
def pb_W : List Cond := lw_tbl.filter goodWord
def pb_chk (c : Nat) : List Cond := ([k2_sels lw_privs, tables_1_1, tables_1_2, tables_1_3, tables_1_4, tables_1_5, tables_1_6, tables_1_7] : List (List Cond)).getD c []
theorem pb_chk_in : ∀ (c : Nat) (w : Cond), w ∈ pb_chk c → w ∈ lw_tbl
  | 0, _, h => List.mem_append_left _ h
  | 1, _, h => List.mem_append_right _ (List.mem_append_left _ h)
  | 2, _, h => List.mem_append_right _ (List.mem_append_right _ (List.mem_append_left _ h))
  | 3, _, h => List.mem_append_right _ (List.mem_append_right _ (List.mem_append_right _ (List.mem_append_left _ h)))
  | 4, _, h => List.mem_append_right _ (List.mem_append_right _ (List.mem_append_right _ (List.mem_append_right _ (List.mem_append_left _ h))))
  | 5, _, h => List.mem_append_right _ (List.mem_append_right _ (List.mem_append_right _ (List.mem_append_right _ (List.mem_append_right _ (List.mem_append_left _ h)))))
  | 6, _, h => List.mem_append_right _ (List.mem_append_right _ (List.mem_append_right _ (List.mem_append_right _ (List.mem_append_right _ (List.mem_append_right _ (List.mem_append_left _ h))))))
  | 7, _, h => List.mem_append_right _ (List.mem_append_right _ (List.mem_append_right _ (List.mem_append_right _ (List.mem_append_right _ (List.mem_append_right _ (List.mem_append_right _ h))))))
  | _ + 8, _, h => absurd h List.not_mem_nil
def pb_hin (hs : List (Nat × Nat)) (k : Nat) (w : Cond) : Bool := match hs[k]? with
  | some q => decide ((pb_chk q.1)[q.2]? = some w) && goodWord w
  | none => false
theorem pb_hin_of {hs : List (Nat × Nat)} {k : Nat} {w : Cond} (h : pb_hin hs k w = true) : w ∈ pb_W := by
  unfold pb_hin at h
  split at h
  · rename_i q hq
    rw [Bool.and_eq_true, decide_eq_true_eq] at h
    exact List.mem_filter.mpr ⟨pb_chk_in _ _ (List.mem_of_getElem? h.1), h.2⟩
  · cases h
def pb_NW : List Cond := [.methodLinkNest "PlaneBench" 25 ⟨"PlaneBench$TextReader", "<init>", "()V"⟩ "PlaneBench", .methodLinkNest "PlaneBench$Checker" 19 ⟨"PlaneBench$Divider", "<init>", "()V"⟩ "PlaneBench", .methodLinkNest "PlaneBench$Search" 22 ⟨"PlaneBench$Divider", "<init>", "()V"⟩ "PlaneBench", .arrayOver (.object "PlaneBench$Line")]
def pb_len : Instr → Nat
  | .iload _ | .aload _ | .lload _ | .istore _ | .astore _ | .lstore _ | .bipush _ | .ldc _ | .newarray _ => 2
  | .sipush _ | .ldc_w _ | .ldc2_w _ | .iinc _ _ | .goto _ | .if_icmp _ _ | .ifCond _ _ | .ifnull _ | .ifnonnull _ | .getfield _ | .putfield _ | .new _ | .anewarray _ | .invokevirtual _ | .invokestatic _ | .invokespecial _ | .checkcast _ => 3
  | .tableswitch _ _ _ _ | .lookupswitch _ _ => 0
  | _ => 1
def pb_cl3 (ci : Nat) : vw_C := pb_cls.getD ci (RX10, TX10, 0)
def pb_fok (y : MethodName) (i ci k : Nat) (hs : List (Nat × Nat)) : Bool := decide (ci < 13) && decide (k < (pb_cl3 ci).2.2) && decide (((pb_cl3 ci).2.1 k).1 = (pb_cl3 ci).1) && pb_hin hs 0 (.fieldLink y.cls i (pb_cl3 ci).1 ((pb_cl3 ci).2.1 k).2.1 ((pb_cl3 ci).2.1 k).2.2.1)
def pb_pok (y : MethodName) (ci k : Nat) : Bool := !((pb_cl3 ci).2.1 k).2.2.2 || (decide (y.name = "<init>") && decide ((pb_cl3 ci).1 = y.cls))
def pb_sok (nd : Nat × Nat) (m c : Nat) : Bool := decide (c < m) && decide ((pb_nd c).1 + 1 ≤ nd.1) && decide (8 + (pb_ml c + 11) + (pb_nd c).2 ≤ nd.2)
def pb_hok (nd : Nat × Nat) (o : MethodName) (i : Nat) (y : MethodName) (hs : List (Nat × Nat)) : Bool := decide (1 ≤ nd.1) && decide (21 ≤ nd.2) && pb_hin hs 0 (.methodLink o.cls i y) && pb_hin hs 1 (.static y) && pb_hin hs 2 (.initialized "java/lang/Math")
def pb_okb (y : MethodName) (c : ByteArray) (nd : Nat × Nat) (m : Nat) (q : Nat × pb_X) (hs : List (Nat × Nat)) : Bool := decide (decode c q.1 = .ok (q.2.1, q.2.2.1)) && (decide (pb_len q.2.1 = 0) || decide (q.2.2.1 = pb_len q.2.1)) && (match q.2.1 with
  | .getfield i => pb_fok y i q.2.2.2.1 q.2.2.2.2.1 hs
  | .putfield i => pb_fok y i q.2.2.2.1 q.2.2.2.2.1 hs && pb_pok y q.2.2.2.1 q.2.2.2.2.1
  | .new i => decide (q.2.2.2.1 < 13) && pb_hin hs 0 (.classLink y.cls i (pb_cl3 q.2.2.2.1).1) && pb_hin hs 1 (.instantiable (pb_cl3 q.2.2.2.1).1 (pb_cl3 q.2.2.2.1).2.2) && pb_hin hs 2 (.initialized (pb_cl3 q.2.2.2.1).1)
  | .anewarray i => pb_hin hs 0 (.classLink y.cls i RX4)
  | .newarray t => pb_hin hs 0 (.arrayClass (newarray.typeOf t))
  | .ldc i => pb_hin hs 0 (.constant y.cls i (Int32.ofInt q.2.2.2.2.2))
  | .ldc_w i => pb_hin hs 0 (.constant y.cls i (Int32.ofInt q.2.2.2.2.2))
  | .ldc2_w i => pb_hin hs 0 (.constantLong y.cls i (Int64.ofInt q.2.2.2.2.2))
  | .invokestatic i => if q.2.2.2.1 = 1001 then decide (1 ≤ nd.1) && decide (26 ≤ nd.2) && pb_hin hs 0 (.methodLink y.cls i arraycopyName) && pb_hin hs 1 (.native arraycopyName) && pb_hin hs 2 (.static arraycopyName) && pb_hin hs 3 (.initialized "java/lang/System")
    else if q.2.2.2.1 = 1003 then pb_hok nd y i Lib.Math.min.name hs && pb_hin hs 3 (.code Lib.Math.min.name Lib.Math.min.code 2 (some .int))
    else if q.2.2.2.1 = 1004 then pb_hok nd y i Lib.Math.max.name hs && pb_hin hs 3 (.code Lib.Math.max.name Lib.Math.max.code 2 (some .int))
    else if q.2.2.2.1 = 1005 then pb_hok nd y i Lib.Math.abs.name hs && pb_hin hs 3 (.code Lib.Math.abs.name Lib.Math.abs.code 1 (some .int))
    else pb_sok nd m q.2.2.2.1 && decide (pb_kd q.2.2.2.1 = 0) && decide (q.2.2.2.2.1 = pb_na q.2.2.2.1) && pb_hin hs 0 (.methodLink y.cls i (pb_y q.2.2.2.1))
  | .invokespecial i => if q.2.2.2.1 = 1000 then decide (1 ≤ nd.1) && decide (12 ≤ nd.2) && pb_hin hs 0 (.methodLink y.cls i objectInit) && pb_hin hs 1 (.instanceMethod objectInit) && pb_hin hs 2 (.code objectInit ⟨#[0xb1]⟩ 1 none)
    else pb_sok nd m q.2.2.2.1 && decide (pb_kd q.2.2.2.1 = 2) && decide (q.2.2.2.2.1 = pb_na q.2.2.2.1 + 1) && (pb_hin hs 0 (.methodLink y.cls i (pb_y q.2.2.2.1)) || decide (.methodLinkNest y.cls i (pb_y q.2.2.2.1) "PlaneBench" ∈ pb_NW))
  | .invokevirtual i => decide (q.2.2.2.1 = 1002) || (pb_sok nd m q.2.2.2.1 && decide (pb_kd q.2.2.2.1 = 1) && decide (q.2.2.2.2.1 = pb_na q.2.2.2.1 + 1) && pb_hin hs 0 (.methodLink y.cls i (pb_y q.2.2.2.1)))
  | _ => true)
def pb_okL (y : MethodName) (c : ByteArray) (nd : Nat × Nat) (m : Nat) : List (Nat × pb_X) → List (List (Nat × Nat)) → Bool
  | [], [] => true
  | e :: es, g :: gs => pb_okb y c nd m e g && pb_okL y c nd m es gs
  | _, _ => false
theorem pb_okL_of {y : MethodName} {c : ByteArray} {nd : Nat × Nat} {m : Nat} : ∀ (es : List (Nat × pb_X)) (gs : List (List (Nat × Nat))), pb_okL y c nd m es gs = true → ∀ q ∈ es, ∃ g, pb_okb y c nd m q g = true
  | [], _, _, q, h => absurd h List.not_mem_nil
  | e :: es, [], h, _, _ => by cases h
  | e :: es, g :: gs, h, q, hq => by
    unfold pb_okL at h
    rw [Bool.and_eq_true] at h
    rcases List.mem_cons.mp hq with rfl | hq
    · exact ⟨g, h.1⟩
    · exact pb_okL_of es gs h.2 q hq
/-- of a method that is called -/
def pb_mok (y : MethodName) (b : ByteArray) (ml na : Nat) (rt : Option FieldType) (kd : Nat) (ci : Nat) (hs : List (Nat × Nat)) : Bool := decide (y.cls ≠ "java/lang/invoke/MethodHandle") && decide (y.cls ≠ "java/lang/invoke/VarHandle") && plainName y.cls && decide ((parseMethodDescriptor y.desc).map (fun d => d.parameters.length) = some na) && pb_hin hs 0 (.initialized y.cls) && pb_hin hs 1 (.code y b ml rt)
  && (match kd with
    | 0 => pb_hin hs 2 (.static y)
    | 1 => pb_hin hs 2 (.instanceMethod y) && pb_hin hs 3 (.selects y.cls y y) && decide (ci < 13) && decide ((pb_cl3 ci).1 = y.cls)
    | _ => pb_hin hs 2 (.instanceMethod y) && decide (y.name = "<init>") && decide (rt = none))
def pb_uok (C : String) (T : u_T) : Nat → List (Nat × Nat) → Bool
  | _, [] => true
  | k, q :: hs => pb_hin [q] 0 (u_lay C T k) && pb_uok C T (k + 1) hs
theorem pb_u0 : pb_uok RX0 TX0 0 [(1, 157), (1, 159), (1, 161), (1, 163)] = true := by decide +kernel
theorem pb_u1 : pb_uok RX1 TX1 0 [(2, 30), (2, 32), (2, 34), (2, 36), (2, 38), (2, 40), (2, 42), (2, 44), (2, 46)] = true := by decide +kernel
theorem pb_u2 : pb_uok RX2 TX2 0 [(1, 131), (1, 133), (1, 135), (1, 137), (1, 139)] = true := by decide +kernel
theorem pb_u3 : pb_uok RX3 TX3 0 [(1, 210), (1, 212), (1, 214), (1, 216), (1, 218)] = true := by decide +kernel
theorem pb_u4 : pb_uok RX4 TX4 0 [(2, 2), (2, 4), (2, 6), (2, 8), (2, 10), (2, 12), (2, 14), (2, 16), (2, 18)] = true := by decide +kernel
theorem pb_u5 : pb_uok RX5 TX5 0 [(1, 181), (1, 183), (1, 185), (1, 187), (1, 189)] = true := by decide +kernel
theorem pb_u6 : pb_uok RX6 TX6 0 [(2, 123), (2, 125), (2, 127), (2, 129), (2, 131), (2, 133), (2, 135), (2, 137), (2, 139), (2, 141), (2, 143), (2, 145), (2, 147), (2, 149), (2, 151)] = true := by decide +kernel
theorem pb_u7 : pb_uok RX7 TX7 0 [(1, 56), (1, 58), (1, 60), (1, 62), (1, 64), (1, 66)] = true := by decide +kernel
theorem pb_u8 : pb_uok RX8 TX8 0 [(1, 98), (1, 100), (1, 102), (1, 104), (1, 106), (1, 108), (1, 110), (1, 112), (1, 114)] = true := by decide +kernel
theorem pb_u9 : pb_uok RX9 TX9 0 [(2, 82), (2, 84), (2, 86), (2, 88), (2, 90), (2, 92), (2, 94), (2, 96)] = true := by decide +kernel
theorem pb_u10 : pb_uok RX10 TX10 0 [] = true := by decide +kernel
theorem pb_u11 : pb_uok RX11 TX11 0 [(2, 161), (2, 163), (2, 165), (2, 167), (2, 169), (2, 171), (2, 173)] = true := by decide +kernel
theorem pb_u12 : pb_uok RX12 TX12 0 [(5, 79), (5, 81), (5, 83), (5, 85), (5, 87), (5, 89), (5, 91), (5, 93), (5, 95), (5, 97), (5, 99), (5, 101), (5, 103), (5, 105), (5, 107), (5, 109), (5, 111), (5, 113), (5, 115), (5, 117), (5, 119), (5, 121), (5, 123), (5, 125), (5, 127), (5, 129), (5, 131), (5, 133), (5, 135), (5, 137), (5, 139), (5, 141), (5, 143), (5, 145), (5, 147), (5, 149), (5, 151), (5, 153)] = true := by decide +kernel
