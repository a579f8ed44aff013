/-! THE SMALL MACHINE: the class, the reference and the law over a fixed set of cells. A state is what the cells hold: ints (booleans too), longs. -/
abbrev am_S : Type := (Nat → Nat → Int32) × (Nat → Nat → Int64)
abbrev am_Q : Type := Option Value → am_S → Prop
def am_upI (σ : am_S) (k i : Nat) (v : Int32) : am_S := (fun k' i' => if k' = k ∧ i' = i then v else σ.1 k' i', σ.2)
def am_upJ (σ : am_S) (k i : Nat) (v : Int64) : am_S := (σ.1, fun k' i' => if k' = k ∧ i' = i then v else σ.2 k' i')
def am_cpI (σ : am_S) (a b sp dp n : Nat) : am_S := (fun k i => if k = b then va_cpy (σ.1 a) (σ.1 b) sp dp n i else σ.1 k i, σ.2)
def am_cpJ (σ : am_S) (a b sp dp n : Nat) : am_S := (σ.1, fun k i => if k = b then va_cpy (σ.2 a) (σ.2 b) sp dp n i else σ.2 k i)
/-- the value of a field -/
def am_av (σ : am_S) (k i : Nat) : Value := if am_fk (am_kind k) i = 2 then .ref (am_link k i) else .int (σ.1 k i)
/-- a field of a class by the entry of a class file -/
def am_isF (own : String) (idx ci i : Nat) : Prop := ∃ q : vw_C, am_cl[ci]? = some q ∧ i < q.2.2 ∧ Cond.fieldLink own idx q.1 (q.2.1 i).2.1 (q.2.1 i).2.2.1 ∈ am_T
def am_mOK (y : MethodName) (n : Nat) : Prop := Cond.initialized y.cls ∈ am_T ∧ y.cls ≠ "java/lang/invoke/MethodHandle" ∧ y.cls ≠ "java/lang/invoke/VarHandle" ∧ (parseMethodDescriptor y.desc).map (fun d => d.parameters.length) = some n
def am_isV (own : String) (idx : Nat) (y : MethodName) (n : Nat) : Prop := Cond.methodLink own idx y ∈ am_T ∧ Cond.instanceMethod y ∈ am_T ∧ Cond.selects y.cls y y ∈ am_T ∧ am_mOK y n
def am_isS (own : String) (idx : Nat) (y : MethodName) (n : Nat) : Prop := (Cond.methodLink own idx y ∈ am_T ∨ ∃ host, Cond.methodLinkNest own idx y host ∈ am_N) ∧ Cond.static y ∈ am_T ∧ am_mOK y n
def am_isA (own : String) (idx : Nat) : Prop := Cond.methodLink own idx arraycopyName ∈ am_T ∧ Cond.native arraycopyName ∈ am_T ∧ Cond.static arraycopyName ∈ am_T ∧ Cond.initialized "java/lang/System" ∈ am_T
/-- the name of an object's class -/
def am_cn (k : Nat) : String := ((am_cl[am_kind k]?).map (fun q => q.1)).getD ""
/-- a place of the locals that a value of one slot can be stored into -/
def am_st1 (vs : List Value) (i : Nat) : Bool := Nat.blt i vs.length && (match i with | 0 => true | j + 1 => (match vs[j]? with | some (.long _) => false | _ => true))
def am_st2 (vs : List Value) (i : Nat) : Bool := Nat.blt (i + 1) vs.length && (match i with | 0 => true | j + 1 => (match vs[j]? with | some (.long _) => false | _ => true))
def am_cmp (c : ClassFile.Cond) (x y : Int32) : Prop := match c with
  | .eq => x = y
  | .ne => ¬ x = y
  | .lt => x < y
  | .ge => y ≤ x
  | .gt => y < x
  | .le => x ≤ y
abbrev am_K : Type := Nat → List Value → List Value → am_S → Prop
abbrev am_C : Type := MethodName → List Value → am_S → am_Q → Prop
/-- the copy of a stretch of one array into another one -/
def am_copy (st : List Value) (σ : am_S) (k : List Value → am_S → Prop) : Prop := match st with
  | .int n :: .int dp :: .ref b :: .int sp :: .ref a :: rest => ¬ sp < 0 ∧ ¬ dp < 0 ∧ ¬ n < 0 ∧ sp.toNatClampNeg + n.toNatClampNeg ≤ am_len a ∧ dp.toNatClampNeg + n.toNatClampNeg ≤ am_len b ∧ (rest.map fun v => v.category).sum ≤ 8 ∧ am_kind a = am_kind b ∧
      ((am_kind a = 11 ∨ (am_kind a = 13 ∧ ∀ i, i < n.toNatClampNeg → σ.1 a (sp.toNatClampNeg + i) = 0 ∨ σ.1 a (sp.toNatClampNeg + i) = 1)) ∧ k rest (am_cpI σ a b sp.toNatClampNeg dp.toNatClampNeg n.toNatClampNeg) ∨ am_kind a = 12 ∧ k rest (am_cpJ σ a b sp.toNatClampNeg dp.toNatClampNeg n.toNatClampNeg))
  | _ => False
/-- one instruction -/
def am_x (C : am_C) (own : String) (ret : Option FieldType) (i : Instr) (len pc : Nat) (vs st : List Value) (σ : am_S) (K : am_K) (Q : am_Q) : Prop := match i, st with
  | .iconst v, st => len = 1 ∧ K (pc + 1) vs (.int (Int32.ofInt v) :: st) σ
  | .bipush v, st => len = 2 ∧ K (pc + 2) vs (.int ((Int8.ofInt v).toInt32) :: st) σ
  | .sipush v, st => len = 3 ∧ K (pc + 3) vs (.int ((Int16.ofInt v).toInt32) :: st) σ
  | .ldc idx, st => len = 2 ∧ ∃ v, Cond.constant own idx v ∈ am_T ∧ K (pc + 2) vs (.int v :: st) σ
  | .ldc_w idx, st => len = 3 ∧ ∃ v, Cond.constant own idx v ∈ am_T ∧ K (pc + 3) vs (.int v :: st) σ
  | .ldc2_w idx, st => len = 3 ∧ ∃ v, Cond.constantLong own idx v ∈ am_T ∧ K (pc + 3) vs (.long v :: st) σ
  | .lconst n, st => len = 1 ∧ K (pc + 1) vs (.long (Int64.ofNat (n : Nat)) :: st) σ
  | .iload_n k, st => len = 1 ∧ ∃ x, vs[(k : Nat)]? = some (.int x) ∧ K (pc + 1) vs (.int x :: st) σ
  | .iload k, st => len = 2 ∧ ∃ x, vs[k]? = some (.int x) ∧ K (pc + 2) vs (.int x :: st) σ
  | .lload_n k, st => len = 1 ∧ ∃ x, vs[(k : Nat)]? = some (.long x) ∧ K (pc + 1) vs (.long x :: st) σ
  | .lload k, st => len = 2 ∧ ∃ x, vs[k]? = some (.long x) ∧ K (pc + 2) vs (.long x :: st) σ
  | .aload_n k, st => len = 1 ∧ ∃ x, vs[(k : Nat)]? = some (.ref x) ∧ K (pc + 1) vs (.ref x :: st) σ
  | .aload k, st => len = 2 ∧ ∃ x, vs[k]? = some (.ref x) ∧ K (pc + 2) vs (.ref x :: st) σ
  | .istore_n k, .int x :: st => len = 1 ∧ am_st1 vs (k : Nat) = true ∧ K (pc + 1) (vs.set (k : Nat) (.int x)) st σ
  | .istore k, .int x :: st => len = 2 ∧ am_st1 vs k = true ∧ K (pc + 2) (vs.set k (.int x)) st σ
  | .lstore k, .long x :: st => len = 2 ∧ am_st2 vs k = true ∧ K (pc + 2) ((vs.set k (.long x)).set (k + 1) .null) st σ
  | .iinc k n, st => len = 3 ∧ am_st1 vs k = true ∧ ∃ x, vs[k]? = some (.int x) ∧ K (pc + 3) (vs.set k (.int (x + Int32.ofInt n))) st σ
  | .iadd, .int y :: .int x :: st => len = 1 ∧ K (pc + 1) vs (.int (x + y) :: st) σ
  | .isub, .int y :: .int x :: st => len = 1 ∧ K (pc + 1) vs (.int (x - y) :: st) σ
  | .imul, .int y :: .int x :: st => len = 1 ∧ K (pc + 1) vs (.int (x * y) :: st) σ
  | .idiv, .int y :: .int x :: st => len = 1 ∧ ¬ y = 0 ∧ K (pc + 1) vs (.int (x / y) :: st) σ
  | .irem, .int y :: .int x :: st => len = 1 ∧ ¬ y = 0 ∧ K (pc + 1) vs (.int (x - x / y * y) :: st) σ
  | .iand, .int y :: .int x :: st => len = 1 ∧ K (pc + 1) vs (.int (x &&& y) :: st) σ
  | .ior, .int y :: .int x :: st => len = 1 ∧ K (pc + 1) vs (.int (x ||| y) :: st) σ
  | .ixor, .int y :: .int x :: st => len = 1 ∧ K (pc + 1) vs (.int (x ^^^ y) :: st) σ
  | .ineg, .int x :: st => len = 1 ∧ K (pc + 1) vs (.int (-x) :: st) σ
  | .ishl, .int y :: .int x :: st => len = 1 ∧ K (pc + 1) vs (.int (x <<< (y &&& 31)) :: st) σ
  | .ishr, .int y :: .int x :: st => len = 1 ∧ K (pc + 1) vs (.int (x >>> (y &&& 31)) :: st) σ
  | .iushr, .int y :: .int x :: st => len = 1 ∧ K (pc + 1) vs (.int ((x.toUInt32 >>> (y.toUInt32 &&& Int32.toUInt32 31)).toInt32) :: st) σ
  | .land, .long y :: .long x :: st => len = 1 ∧ K (pc + 1) vs (.long (x &&& y) :: st) σ
  | .lor, .long y :: .long x :: st => len = 1 ∧ K (pc + 1) vs (.long (x ||| y) :: st) σ
  | .lxor, .long y :: .long x :: st => len = 1 ∧ K (pc + 1) vs (.long (x ^^^ y) :: st) σ
  | .lushr, .int y :: .long x :: st => len = 1 ∧ K (pc + 1) vs (.long ((x.toUInt64 >>> (y.toInt64.toUInt64 &&& Int64.toUInt64 63)).toInt64) :: st) σ
  | .lshl, .int y :: .long x :: st => len = 1 ∧ K (pc + 1) vs (.long (x <<< (y.toInt64 &&& 63)) :: st) σ
  | .lshr, .int y :: .long x :: st => len = 1 ∧ K (pc + 1) vs (.long (x >>> (y.toInt64 &&& 63)) :: st) σ
  | .lcmp, .long y :: .long x :: st => len = 1 ∧ K (pc + 1) vs (.int (lg_cmp x y) :: st) σ
  | .i2l, .int x :: st => len = 1 ∧ K (pc + 1) vs (.long x.toInt64 :: st) σ
  | .dup, v :: st => len = 1 ∧ v.category = 1 ∧ K (pc + 1) vs (v :: v :: st) σ
  | .dup2, v :: w :: st => len = 1 ∧ v.category = 1 ∧ w.category = 1 ∧ K (pc + 1) vs (v :: w :: v :: w :: st) σ
  | .pop, v :: st => len = 1 ∧ v.category = 1 ∧ K (pc + 1) vs st σ
  | .getfield idx, .ref k :: st => len = 3 ∧ ∃ i, am_isF own idx (am_kind k) i ∧ K (pc + 3) vs (am_av σ k i :: st) σ
  | .putfield idx, .int x :: .ref k :: st => len = 3 ∧ ∃ i, am_isF own idx (am_kind k) i ∧ (am_fk (am_kind k) i = 0 ∨ am_fk (am_kind k) i = 1 ∧ (x = 0 ∨ x = 1)) ∧ K (pc + 3) vs st (am_upI σ k i x)
  | .iaload, .int i :: .ref k :: st => len = 1 ∧ ((am_kind k = 11 ∧ vp_in i (am_len k)) ∨ (k = 1000 ∧ vp_in i (σ.1 1001 0).toNatClampNeg)) ∧ K (pc + 1) vs (.int (σ.1 k i.toNatClampNeg) :: st) σ
  | .baload, .int i :: .ref k :: st => len = 1 ∧ (am_kind k = 13 ∧ vp_in i (am_len k)) ∧ K (pc + 1) vs (.int (σ.1 k i.toNatClampNeg) :: st) σ
  | .laload, .int i :: .ref k :: st => len = 1 ∧ (am_kind k = 12 ∧ vp_in i (am_len k)) ∧ K (pc + 1) vs (.long (σ.2 k i.toNatClampNeg) :: st) σ
  | .aaload, .int i :: .ref k :: st => len = 1 ∧ (am_kind k = 14 ∧ vp_in i (am_len k)) ∧ K (pc + 1) vs (.ref (am_link k i.toNatClampNeg) :: st) σ
  | .iastore, .int x :: .int i :: .ref k :: st => len = 1 ∧ (am_kind k = 11 ∧ vp_in i (am_len k)) ∧ K (pc + 1) vs st (am_upI σ k i.toNatClampNeg x)
  | .bastore, .int x :: .int i :: .ref k :: st => len = 1 ∧ (am_kind k = 13 ∧ vp_in i (am_len k)) ∧ (x = 0 ∨ x = 1) ∧ K (pc + 1) vs st (am_upI σ k i.toNatClampNeg x)
  | .lastore, .long x :: .int i :: .ref k :: st => len = 1 ∧ (am_kind k = 12 ∧ vp_in i (am_len k)) ∧ K (pc + 1) vs st (am_upJ σ k i.toNatClampNeg x)
  | .arraylength, .ref k :: st => len = 1 ∧ ((11 ≤ am_kind k ∧ am_kind k ≤ 13 ∧ K (pc + 1) vs (.int (Int32.ofNat (am_len k)) :: st) σ) ∨ (k = 1000 ∧ K (pc + 1) vs (.int (σ.1 1001 0) :: st) σ))
  | .ifCond c off, .int x :: st => len = 3 ∧ ∃ t : Nat, (pc : Int) + off = (t : Int) ∧ (am_cmp c x 0 → K t vs st σ) ∧ (¬ am_cmp c x 0 → K (pc + 3) vs st σ)
  | .if_icmp c off, .int y :: .int x :: st => len = 3 ∧ ∃ t : Nat, (pc : Int) + off = (t : Int) ∧ (am_cmp c x y → K t vs st σ) ∧ (¬ am_cmp c x y → K (pc + 3) vs st σ)
  | .goto off, st => len = 3 ∧ ∃ t : Nat, (pc : Int) + off = (t : Int) ∧ K t vs st σ
  | .tableswitch dflt lo hi offs, .int x :: st => ∃ t : Nat, K t vs st σ ∧ ((x.toInt < lo ∨ hi < x.toInt) ∧ (pc : Int) + dflt = (t : Int) ∨ (¬ x.toInt < lo ∧ ¬ hi < x.toInt) ∧ ∃ off, offs[(x.toInt - lo).toNat]? = some off ∧ (pc : Int) + off = (t : Int))
  | .invokevirtual idx, st => len = 3 ∧ ∃ (y : MethodName) (As : List Value) (k : Nat) (rest : List Value), st = As.reverse ++ .ref k :: rest ∧ am_isV own idx y As.length ∧ am_cn k = y.cls ∧ (rest.map fun v => v.category).sum ≤ 8 ∧ C y (.ref k :: As) σ (fun r σ' => K (pc + 3) vs (r.toList ++ rest) σ')
  | .invokestatic idx, st => len = 3 ∧ ((∃ (y : MethodName) (As : List Value) (rest : List Value), st = As.reverse ++ rest ∧ am_isS own idx y As.length ∧ (rest.map fun v => v.category).sum ≤ 8 ∧ C y As σ (fun r σ' => K (pc + 3) vs (r.toList ++ rest) σ')) ∨ (am_isA own idx ∧ am_copy st σ (fun st' σ' => K (pc + 3) vs st' σ')))
  | .ireturn, [.int x] => len = 1 ∧ (ret = some .int ∨ ret = some .boolean ∧ (x = 0 ∨ x = 1)) ∧ Q (some (.int x)) σ
  | .areturn, [.ref k] => len = 1 ∧ (∃ n, ret = some (.object n)) ∧ Q (some (.ref k)) σ
  | .return_, [] => len = 1 ∧ ret = none ∧ Q none σ
  | _, _ => False
/-- the instruction at a place, with what must hold behind it -/
def am_d (C : am_C) (own : String) (ret : Option FieldType) (cc : ByteArray) (Q : am_Q) (K : am_K) (pc : Nat) (vs st : List Value) (σ : am_S) : Prop := ∃ (i : Instr) (len : Nat), decode cc pc = .ok (i, len) ∧ am_x C own ret i len pc vs st σ K Q
/-- from here the method ends with Q (the least such) -/
def am_r (C : am_C) (own : String) (ret : Option FieldType) (cc : ByteArray) (Q : am_Q) (pc : Nat) (vs st : List Value) (σ : am_S) : Prop := ∀ P : am_K, (∀ (pc : Nat) (vs st : List Value) (σ : am_S), am_d C own ret cc Q P pc vs st σ → P pc vs st σ) → P pc vs st σ
/-- the locals with which a method begins -/
def am_sl : List Value → List Value
  | [] => []
  | .long x :: vs => .long x :: .null :: am_sl vs
  | v :: vs => v :: am_sl vs
def am_ent (As : List Value) (n : Nat) : List Value := am_sl As ++ List.replicate (n - (am_sl As).length) .null
/-- a method, with d calls standing open at most -/
def am_run : Nat → am_C
  | 0 => fun _ _ _ _ => False
  | d + 1 => fun y As σ Q => ∃ (cc : ByteArray) (maxL : Nat) (ret : Option FieldType), Cond.code y cc maxL ret ∈ am_T ∧ plainFor y = true ∧ (am_sl As).length ≤ maxL ∧ maxL ≤ 20 ∧ (∀ v ∈ As, v ≠ .null ∧ ∀ b, v ≠ .double b) ∧ am_r (am_run d) y.cls ret cc Q 0 (am_ent As maxL) [] σ
