/-! A small machine over abstract cells: what an instruction does, as a function. Addresses: 0 is the script; i + 1 is the i-th cell that the law made. -/
abbrev pb_E : Type := (Nat × vp_A) ⊕ (Nat × List Value)
abbrev pb_H : Type := Nat × (Nat → pb_E)
abbrev pb_X : Type := Instr × Nat × Nat × Nat × Int
abbrev pb_L : Type := List (Option Value)
abbrev pb_J : Type := List (Option Int64)
def pb_set (h : pb_H) (a : Nat) (c : pb_E) : pb_H := (h.1, va_up h.2 a c)
def pb_new (h : pb_H) (c : pb_E) : pb_H := (h.1 + 1, va_up h.2 h.1 c)
def pb_ii (f : Int32 → Int32 → Option Int32) (st : List Value) : Option (List Value) := match st with
  | .int y :: .int x :: r => (f x y).map (fun z => .int z :: r)
  | _ => none
def pb_jj (f : Int64 → Int64 → Option Int64) (st : List Value) : Option (List Value) := match st with
  | .long y :: .long x :: r => (f x y).map (fun z => .long z :: r)
  | _ => none
def pb_ji (f : Int64 → Int32 → Int64) (st : List Value) : Option (List Value) := match st with
  | .int y :: .long x :: r => some (.long (f x y) :: r)
  | _ => none
def pb_i1 (f : Int32 → Value) (st : List Value) : Option (List Value) := match st with
  | .int x :: r => some (f x :: r)
  | _ => none
def pb_j1 (f : Int64 → Value) (st : List Value) : Option (List Value) := match st with
  | .long x :: r => some (f x :: r)
  | _ => none
def pb_lc (st : List Value) : Option (List Value) := match st with
  | .long y :: .long x :: r => some (.int (lg_cmp x y) :: r)
  | _ => none
def pb_du (st : List Value) : Option (List Value) := match st with
  | .int x :: r => some (.int x :: .int x :: r)
  | .ref x :: r => some (.ref x :: .ref x :: r)
  | _ => none
def pb_po (st : List Value) : Option (List Value) := match st with
  | .int _ :: r => some r
  | .ref _ :: r => some r
  | _ => none
/-- what touches the operand stack alone -/
def pb_A (x : pb_X) (st : List Value) : Option (List Value) := match x.1 with
  | .aconst_null => some (.null :: st)
  | .iconst n => some (.int (Int32.ofInt n) :: st)
  | .bipush n => some (.int (Int8.ofInt n).toInt32 :: st)
  | .sipush n => some (.int (Int16.ofInt n).toInt32 :: st)
  | .lconst n => some (.long (Int64.ofNat n.val) :: st)
  | .ldc _ => some (.int (Int32.ofInt x.2.2.2.2) :: st)
  | .ldc_w _ => some (.int (Int32.ofInt x.2.2.2.2) :: st)
  | .ldc2_w _ => some (.long (Int64.ofInt x.2.2.2.2) :: st)
  | .iadd => pb_ii (fun x y => some (x + y)) st
  | .isub => pb_ii (fun x y => some (x - y)) st
  | .imul => pb_ii (fun x y => some (x * y)) st
  | .iand => pb_ii (fun x y => some (x &&& y)) st
  | .ior => pb_ii (fun x y => some (x ||| y)) st
  | .ixor => pb_ii (fun x y => some (x ^^^ y)) st
  | .idiv => pb_ii (fun x y => if y = 0 then none else some (x / y)) st
  | .irem => pb_ii (fun x y => if y = 0 then none else some (x - x / y * y)) st
  | .ishl => pb_ii (fun x y => some (x <<< (y &&& 31))) st
  | .ishr => pb_ii (fun x y => some (x >>> (y &&& 31))) st
  | .iushr => pb_ii (fun x y => some (x.toUInt32 >>> (y.toUInt32 &&& Int32.toUInt32 31)).toInt32) st
  | .ineg => pb_i1 (fun x => .int (-x)) st
  | .i2b => pb_i1 (fun x => .int x.toInt8.toInt32) st
  | .i2l => pb_i1 (fun x => .long x.toInt64) st
  | .l2i => pb_j1 (fun x => .int x.toInt32) st
  | .ladd => pb_jj (fun x y => some (x + y)) st
  | .lsub => pb_jj (fun x y => some (x - y)) st
  | .lmul => pb_jj (fun x y => some (x * y)) st
  | .land => pb_jj (fun x y => some (x &&& y)) st
  | .lor => pb_jj (fun x y => some (x ||| y)) st
  | .lxor => pb_jj (fun x y => some (x ^^^ y)) st
  | .ldiv => pb_jj (fun x y => if y = 0 then none else some (x / y)) st
  | .lrem => pb_jj (fun x y => if y = 0 then none else some (x - x / y * y)) st
  | .lshl => pb_ji (fun x y => x <<< (y.toInt64 &&& 63)) st
  | .lshr => pb_ji (fun x y => x >>> (y.toInt64 &&& 63)) st
  | .lushr => pb_ji (fun x y => (x.toUInt64 >>> (y.toInt64.toUInt64 &&& Int64.toUInt64 63)).toInt64) st
  | .lcmp => pb_lc st
  | .dup => pb_du st
  | .pop => pb_po st
  | _ => none
def pb_il (k : Nat) (L : pb_L) (J : pb_J) (st : List Value) : Option (pb_L × pb_J × List Value) := match L[k]? with
  | some (some (.int v)) => some (L, J, .int v :: st)
  | _ => none
def pb_al (k : Nat) (L : pb_L) (J : pb_J) (st : List Value) : Option (pb_L × pb_J × List Value) := match L[k]? with
  | some (some (.ref v)) => some (L, J, .ref v :: st)
  | some (some .null) => some (L, J, .null :: st)
  | _ => none
def pb_ll (k : Nat) (L : pb_L) (J : pb_J) (st : List Value) : Option (pb_L × pb_J × List Value) := match J[k]? with
  | some (some v) => some (L, J, .long v :: st)
  | _ => none
def pb_cl (J : pb_J) (k : Nat) : pb_J := (J.set k none).set (k - 1) none
def pb_is (k : Nat) (L : pb_L) (J : pb_J) (st : List Value) : Option (pb_L × pb_J × List Value) := match st with
  | .int v :: r => if k < L.length then some (L.set k (some (.int v)), pb_cl J k, r) else none
  | _ => none
def pb_as (k : Nat) (L : pb_L) (J : pb_J) (st : List Value) : Option (pb_L × pb_J × List Value) := match st with
  | .ref v :: r => if k < L.length then some (L.set k (some (.ref v)), pb_cl J k, r) else none
  | .null :: r => if k < L.length then some (L.set k (some .null), pb_cl J k, r) else none
  | _ => none
def pb_ls (k : Nat) (L : pb_L) (J : pb_J) (st : List Value) : Option (pb_L × pb_J × List Value) := match st with
  | .long v :: r => if k + 1 < L.length then some ((L.set k none).set (k + 1) none, ((J.set (k + 1) none).set (k - 1) none).set k (some v), r) else none
  | _ => none
def pb_in (k : Nat) (n : Int) (L : pb_L) (J : pb_J) (st : List Value) : Option (pb_L × pb_J × List Value) := match L[k]? with
  | some (some (.int v)) => some (L.set k (some (.int (v + Int32.ofInt n))), pb_cl J k, st)
  | _ => none
/-- what touches the locals -/
def pb_B (x : pb_X) (L : pb_L) (J : pb_J) (st : List Value) : Option (pb_L × pb_J × List Value) := match x.1 with
  | .iload k => pb_il k L J st
  | .iload_n k => pb_il k.val L J st
  | .aload k => pb_al k L J st
  | .aload_n k => pb_al k.val L J st
  | .lload k => pb_ll k L J st
  | .lload_n k => pb_ll k.val L J st
  | .istore k => pb_is k L J st
  | .istore_n k => pb_is k.val L J st
  | .astore k => pb_as k L J st
  | .astore_n k => pb_as k.val L J st
  | .lstore k => pb_ls k L J st
  | .lstore_n k => pb_ls k.val L J st
  | .iinc k n => pb_in k n L J st
  | _ => none
def pb_go (pc : Nat) (off : Int) (st : List Value) : Option (Nat × List Value) := if 0 ≤ (pc : Int) + off then some (((pc : Int) + off).toNat, st) else none
def pb_cc (c : ClassFile.Cond) (x y : Int32) : Bool := match c with
  | .eq => decide (x = y)
  | .ne => !decide (x = y)
  | .lt => decide (x < y)
  | .ge => decide (y ≤ x)
  | .gt => decide (y < x)
  | .le => decide (x ≤ y)
/-- branches -/
def pb_C (x : pb_X) (pc : Nat) (st : List Value) : Option (Nat × List Value) := match x.1 with
  | .goto off => pb_go pc off st
  | .if_icmp c off => match st with
    | .int y :: .int x :: r => if pb_cc c x y = true then pb_go pc off r else some (pc + 3, r)
    | _ => none
  | .ifCond c off => match st with
    | .int x :: r => if pb_cc c x 0 = true then pb_go pc off r else some (pc + 3, r)
    | _ => none
  | .ifnull off => match st with
    | .null :: r => pb_go pc off r
    | .ref _ :: r => some (pc + 3, r)
    | _ => none
  | .ifnonnull off => match st with
    | .ref _ :: r => pb_go pc off r
    | .null :: r => some (pc + 3, r)
    | _ => none
  | .tableswitch d lo hi offs => match st with
    | .int x :: r => if x.toInt < lo ∨ hi < x.toInt then pb_go pc d r else match offs[(x.toInt - lo).toNat]? with
      | some off => pb_go pc off r
      | none => none
    | _ => none
  | .lookupswitch d ps => match st with
    | .int x :: r => if (ps.toList.zip (ps.toList.drop 1)).all (fun (a, next) => a.1 < next.1) = true then pb_go pc (Op.lookupswitch.offset ps.toList d x.toInt) r else none
    | _ => none
  | _ => none
/-- the classes whose objects are made -/
abbrev pb_cls : List vw_C := [(RX0, TX0, 4), (RX1, TX1, 9), (RX2, TX2, 5), (RX3, TX3, 5), (RX4, TX4, 9), (RX5, TX5, 5), (RX6, TX6, 15), (RX7, TX7, 6), (RX8, TX8, 9), (RX9, TX9, 8), (RX0, TX0, 4), (RX11, TX11, 7), (RX12, TX12, 38)]
def pb_tys : List (Nat → FieldType) := [tyX0, tyX1, tyX2, tyX3, tyX4, tyX5, tyX6, tyX7, tyX8, tyX9, tyX0, tyX11, tyX12]
def pb_ty (ci k : Nat) : FieldType := pb_tys.getD ci tyX10 k
def pb_nf (ci : Nat) : Nat := (pb_cls.map (fun q => q.2.2)).getD ci 0
def pb_df (ci : Nat) : List Value := (List.range (pb_nf ci)).map (fun k => defaultValue (pb_ty ci k))
def pb_gf (c : pb_E) (ci k : Nat) : Option Value := match c with
  | .inr (cj, fs) => if cj = ci then fs[k]? else none
  | _ => none
def pb_pf (c : pb_E) (ci k : Nat) (v : Value) : Option pb_E := match c with
  | .inr (cj, fs) => if cj = ci ∧ k < fs.length ∧ narrow (pb_ty ci k) v = v ∧ fits (pb_ty ci k) v = true then some (.inr (ci, fs.set k v)) else none
  | _ => none
def pb_ai (c : pb_E) (i : Int32) : Option Int32 := match c with
  | .inl (k, n, .inl f) => if (k = 0 ∨ k = 3) ∧ ¬ (i < 0 ∨ n ≤ i.toNatClampNeg) then some (f i.toNatClampNeg) else none
  | _ => none
def pb_ab (c : pb_E) (i : Int32) : Option Int32 := match c with
  | .inl (k, n, .inl f) => if k = 1 ∧ ¬ (i < 0 ∨ n ≤ i.toNatClampNeg) then some (f i.toNatClampNeg) else none
  | _ => none
def pb_aa (c : pb_E) (i : Int32) : Option (Option Nat) := match c with
  | .inl (k, n, .inr (.inr (.inr (.inr f)))) => if k = 2 ∧ ¬ (i < 0 ∨ n ≤ i.toNatClampNeg) then some (f i.toNatClampNeg) else none
  | _ => none
def pb_si (c : pb_E) (i x : Int32) : Option pb_E := match c with
  | .inl (k, n, .inl f) => if k = 0 ∧ ¬ (i < 0 ∨ n ≤ i.toNatClampNeg) then some (.inl (k, n, .inl (upd f i.toNatClampNeg x))) else none
  | _ => none
def pb_sb (c : pb_E) (i x : Int32) : Option pb_E := match c with
  | .inl (k, n, .inl f) => if k = 1 ∧ ¬ (i < 0 ∨ n ≤ i.toNatClampNeg) then some (.inl (k, n, .inl (upd f i.toNatClampNeg (vp_nar .byte x)))) else none
  | _ => none
def pb_sa (c : pb_E) (i : Int32) (r : Option Nat) : Option pb_E := match c with
  | .inl (k, n, .inr (.inr (.inr (.inr f)))) => if k = 2 ∧ ¬ (i < 0 ∨ n ≤ i.toNatClampNeg) then some (.inl (k, n, .inr (.inr (.inr (.inr (va_up f i.toNatClampNeg r)))))) else none
  | _ => none
def pb_al2 (c : pb_E) : Option Nat := match c with
  | .inl (k, n, .inl _) => if k = 0 ∨ k = 1 ∨ k = 3 then some n else none
  | .inl (k, n, .inr (.inr (.inr (.inr _)))) => if k = 2 then some n else none
  | _ => none
/-- an object of this class -/
def pb_is0 (c : pb_E) (ci : Nat) : Bool := match c with
  | .inr (cj, _) => decide (cj = ci)
  | _ => false
/-- System.arraycopy of ints or of bytes -/
def pb_cp (c0 c1 : pb_E) (sp dp n : Int32) : Option pb_E := match c0, c1 with
  | .inl (k0, n0, .inl f), .inl (k1, n1, .inl g) =>
    if k0 = k1 ∧ k0 ≤ 1 ∧ ¬ sp < 0 ∧ ¬ dp < 0 ∧ ¬ n < 0 ∧ sp.toNatClampNeg + n.toNatClampNeg ≤ n0 ∧ dp.toNatClampNeg + n.toNatClampNeg ≤ n1 ∧ (k0 = 0 ∨ ∀ i, i < n.toNatClampNeg → fits .byte (.int (f (sp.toNatClampNeg + i))) = true)
    then some (.inl (k1, n1, .inl (va_cpy f g sp.toNatClampNeg dp.toNatClampNeg n.toNatClampNeg))) else none
  | _, _ => none
def pb_cat (st : List Value) : Nat := (st.map fun v => v.category).sum
/-- what touches the cells -/
def pb_D (x : pb_X) (st : List Value) (h : pb_H) : Option (List Value × pb_H) := match x.1 with
  | .getfield _ => match st with
    | .ref a :: r => (pb_gf (h.2 a) x.2.2.1 x.2.2.2.1).map (fun v => (v :: r, h))
    | _ => none
  | .putfield _ => match st with
    | v :: .ref a :: r => (pb_pf (h.2 a) x.2.2.1 x.2.2.2.1 v).map (fun c => (r, pb_set h a c))
    | _ => none
  | .iaload => match st with
    | .int i :: .ref a :: r => (pb_ai (h.2 a) i).map (fun v => (.int v :: r, h))
    | _ => none
  | .baload => match st with
    | .int i :: .ref a :: r => (pb_ab (h.2 a) i).map (fun v => (.int v :: r, h))
    | _ => none
  | .aaload => match st with
    | .int i :: .ref a :: r => (pb_aa (h.2 a) i).map (fun v => (va_rf v :: r, h))
    | _ => none
  | .iastore => match st with
    | .int v :: .int i :: .ref a :: r => (pb_si (h.2 a) i v).map (fun c => (r, pb_set h a c))
    | _ => none
  | .bastore => match st with
    | .int v :: .int i :: .ref a :: r => (pb_sb (h.2 a) i v).map (fun c => (r, pb_set h a c))
    | _ => none
  | .aastore => match st with
    | .null :: .int i :: .ref a :: r => (pb_sa (h.2 a) i none).map (fun c => (r, pb_set h a c))
    | .ref v :: .int i :: .ref a :: r => if pb_is0 (h.2 v) 4 = true then (pb_sa (h.2 a) i (some v)).map (fun c => (r, pb_set h a c)) else none
    | _ => none
  | .arraylength => match st with
    | .ref a :: r => (pb_al2 (h.2 a)).map (fun n => (.int (Int32.ofNat n) :: r, h))
    | _ => none
  | .newarray t => match st with
    | .int n :: r => if ¬ n < 0 ∧ n.toNatClampNeg ≤ 1000000 ∧ (t = .int ∨ t = .byte) then some (.ref h.1 :: r, pb_new h (.inl ((if t = .int then 0 else 1), n.toNatClampNeg, .inl (fun _ => 0)))) else none
    | _ => none
  | .anewarray _ => match st with
    | .int n :: r => if ¬ n < 0 ∧ n.toNatClampNeg ≤ 1000000 then some (.ref h.1 :: r, pb_new h (.inl (2, n.toNatClampNeg, .inr (.inr (.inr (.inr (fun _ => none))))))) else none
    | _ => none
  | .new _ => some (.ref h.1 :: st, pb_new h (.inr (x.2.2.1, pb_df x.2.2.1)))
  | .invokespecial _ => if x.2.2.1 = 1000 then match st with
      | [.ref _] => some ([], h)
      | _ => none
    else none
  | .invokestatic _ => if x.2.2.1 = 1001 then match st with
      | .int n :: .int dp :: .ref a :: .int sp :: .ref b :: r => if pb_cat r ≤ 8 then (pb_cp (h.2 b) (h.2 a) sp dp n).map (fun c => (r, pb_set h a c)) else none
      | _ => none
    else if x.2.2.1 = 1003 then match st with
      | .int y :: .int x :: r => if pb_cat r ≤ 8 then some (.int (if y < x then y else x) :: r, h) else none
      | _ => none
    else if x.2.2.1 = 1004 then match st with
      | .int y :: .int x :: r => if pb_cat r ≤ 8 then some (.int (if x < y then y else x) :: r, h) else none
      | _ => none
    else if x.2.2.1 = 1005 then match st with
      | .int x :: r => if pb_cat r ≤ 8 then some (.int (if 0 ≤ x then x else 0 - x) :: r, h) else none
      | _ => none
    else none
  | _ => none
/-- returns -/
def pb_Rt (t : Option FieldType) (x : pb_X) (st : List Value) : Option (Option Value) := match x.1 with
  | .ireturn => match st, t with
    | [.int v], some ty => if narrow ty (.int v) = .int v then some (some (.int v)) else none
    | _, _ => none
  | .lreturn => match st, t with
    | [.long v], some .long => some (some (.long v))
    | _, _ => none
  | .areturn => match st, t with
    | [.ref a], some _ => some (some (.ref a))
    | [.null], some _ => some (some .null)
    | _, _ => none
  | .return_ => match st, t with
    | [], none => some none
    | _, _ => none
  | _ => none
def pb_el : List Value → pb_L
  | [] => []
  | .long _ :: r => none :: none :: pb_el r
  | v :: r => some v :: pb_el r
def pb_ej : List Value → pb_J
  | [] => []
  | .long v :: r => some v :: none :: pb_ej r
  | _ :: r => none :: pb_ej r
