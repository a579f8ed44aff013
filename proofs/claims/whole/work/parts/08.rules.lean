/-! RULES OF THE SMALL MACHINE -/
def am_mon (C : am_C) : Prop := ∀ (y : MethodName) (As : List Value) (σ : am_S) (Q Q' : am_Q), (∀ r σ, Q r σ → Q' r σ) → C y As σ Q → C y As σ Q'
theorem am_copy_mono {st : List Value} {σ : am_S} {k k' : List Value → am_S → Prop} (hk : ∀ st σ, k st σ → k' st σ) (h : am_copy st σ k) : am_copy st σ k' := by
  unfold am_copy at h ⊢
  split at h
  · obtain ⟨g1, g2, g3, g4, g5, g6, g7, h⟩ := h
    refine ⟨g1, g2, g3, g4, g5, g6, g7, ?_⟩
    rcases h with ⟨a, h⟩ | ⟨a, h⟩
    · exact Or.inl ⟨a, hk _ _ h⟩
    · exact Or.inr ⟨a, hk _ _ h⟩
  · exact absurd h id
theorem am_x_mono {C : am_C} {own : String} {ret : Option FieldType} {i : Instr} {len pc : Nat} {vs st : List Value} {σ : am_S} {K K' : am_K} {Q Q' : am_Q} (hC : am_mon C) (hK : ∀ pc vs st σ, K pc vs st σ → K' pc vs st σ) (hQ : ∀ r σ, Q r σ → Q' r σ) (h : am_x C own ret i len pc vs st σ K Q) : am_x C own ret i len pc vs st σ K' Q' := by
  unfold am_x at h ⊢
  split at h
  all_goals first
    | exact ⟨h.1, hK _ _ _ _ h.2⟩
    | exact ⟨h.1, h.2.1, hK _ _ _ _ h.2.2⟩
    | exact ⟨h.1, h.2.1, h.2.2.1, hK _ _ _ _ h.2.2.2⟩
    | (obtain ⟨a, v, b, h⟩ := h; exact ⟨a, v, b, hK _ _ _ _ h⟩)
    | (obtain ⟨a, b, v, c, h⟩ := h; exact ⟨a, b, v, c, hK _ _ _ _ h⟩)
    | (obtain ⟨a, v, b, c, h⟩ := h; exact ⟨a, v, b, c, hK _ _ _ _ h⟩)
    | (obtain ⟨a, ⟨b, c, h⟩ | ⟨b, h⟩⟩ := h
       · exact ⟨a, Or.inl ⟨b, c, hK _ _ _ _ h⟩⟩
       · exact ⟨a, Or.inr ⟨b, hK _ _ _ _ h⟩⟩)
    | (obtain ⟨a, t, b, h1, h2⟩ := h; exact ⟨a, t, b, fun z => hK _ _ _ _ (h1 z), fun z => hK _ _ _ _ (h2 z)⟩)
    | (obtain ⟨t, h, b⟩ := h; exact ⟨t, hK _ _ _ _ h, b⟩)
    | (obtain ⟨a, y, As, k, rest, b, c, d, e, h⟩ := h; exact ⟨a, y, As, k, rest, b, c, d, e, hC _ _ _ _ _ (fun r σ' z => hK _ _ _ _ z) h⟩)
    | (obtain ⟨a, ⟨y, As, rest, b, c, d, h⟩ | ⟨b, h⟩⟩ := h
       · exact ⟨a, Or.inl ⟨y, As, rest, b, c, d, hC _ _ _ _ _ (fun r σ' z => hK _ _ _ _ z) h⟩⟩
       · exact ⟨a, Or.inr ⟨b, am_copy_mono (fun st σ z => hK _ _ _ _ z) h⟩⟩)
    | exact ⟨h.1, h.2.1, hQ _ _ h.2.2⟩
    | exact absurd h id
theorem am_in {C : am_C} {own : String} {ret : Option FieldType} {cc : ByteArray} {Q : am_Q} {pc : Nat} {vs st : List Value} {σ : am_S} (hC : am_mon C) {i : Instr} {len : Nat} (hd : decode cc pc = .ok (i, len)) (h : am_x C own ret i len pc vs st σ (am_r C own ret cc Q) Q) : am_r C own ret cc Q pc vs st σ :=
  fun P hP => hP _ _ _ _ ⟨i, len, hd, am_x_mono hC (fun _ _ _ _ h => h P hP) (fun _ _ h => h) h⟩
theorem am_r_mono {C : am_C} {own : String} {ret : Option FieldType} {cc : ByteArray} {Q Q' : am_Q} {pc : Nat} {vs st : List Value} {σ : am_S} (hC : am_mon C) (hQ : ∀ r σ, Q r σ → Q' r σ) (h : am_r C own ret cc Q pc vs st σ) : am_r C own ret cc Q' pc vs st σ :=
  h (am_r C own ret cc Q') (fun pc vs st σ ⟨i, len, hd, hx⟩ => am_in hC hd (am_x_mono hC (fun _ _ _ _ z => z) hQ hx))
theorem am_run_mon : ∀ d, am_mon (am_run d) := by
  intro d
  induction d with
  | zero => intro y As σ Q Q' _ h; exact h
  | succ d ih =>
    intro y As σ Q Q' hQ h
    obtain ⟨cc, maxL, ret, h1, h2, h3, h4, h5, h⟩ := h
    exact ⟨cc, maxL, ret, h1, h2, h3, h4, h5, am_r_mono ih hQ h⟩
/-! what a method answers: an int, nothing, the cell c -/
def am_Ri (k : Int32 → am_S → Prop) : am_Q := fun r σ => ∃ x, r = some (.int x) ∧ k x σ
def am_Rv (k : am_S → Prop) : am_Q := fun r σ => r = none ∧ k σ
def am_Rr (c : Nat) (k : am_S → Prop) : am_Q := fun r σ => r = some (.ref c) ∧ k σ
section AMR
variable {d : Nat} {own : String} {ret : Option FieldType} {cc : ByteArray} {Q : am_Q} {pc : Nat} {vs st : List Value} {σ : am_S}
theorem r_iconst {v : Int} (x : Int32) (hd : decode cc pc = .ok (.iconst v, 1)) (hv : Int32.ofInt v = x) (k : am_r (am_run d) own ret cc Q (pc + 1) vs (.int x :: st) σ) : am_r (am_run d) own ret cc Q pc vs st σ := am_in (am_run_mon d) hd ⟨rfl, hv ▸ k⟩
theorem r_bipush {v : Int} (x : Int32) (hd : decode cc pc = .ok (.bipush v, 2)) (hv : (Int8.ofInt v).toInt32 = x) (k : am_r (am_run d) own ret cc Q (pc + 2) vs (.int x :: st) σ) : am_r (am_run d) own ret cc Q pc vs st σ := am_in (am_run_mon d) hd ⟨rfl, hv ▸ k⟩
theorem r_sipush {v : Int} (x : Int32) (hd : decode cc pc = .ok (.sipush v, 3)) (hv : (Int16.ofInt v).toInt32 = x) (k : am_r (am_run d) own ret cc Q (pc + 3) vs (.int x :: st) σ) : am_r (am_run d) own ret cc Q pc vs st σ := am_in (am_run_mon d) hd ⟨rfl, hv ▸ k⟩
theorem r_ldc {idx : Nat} (x : Int32) (hd : decode cc pc = .ok (.ldc idx, 2)) (hv : Cond.constant own idx x ∈ am_T) (k : am_r (am_run d) own ret cc Q (pc + 2) vs (.int x :: st) σ) : am_r (am_run d) own ret cc Q pc vs st σ := am_in (am_run_mon d) hd ⟨rfl, x, hv, k⟩
theorem r_ldc_w {idx : Nat} (x : Int32) (hd : decode cc pc = .ok (.ldc_w idx, 3)) (hv : Cond.constant own idx x ∈ am_T) (k : am_r (am_run d) own ret cc Q (pc + 3) vs (.int x :: st) σ) : am_r (am_run d) own ret cc Q pc vs st σ := am_in (am_run_mon d) hd ⟨rfl, x, hv, k⟩
theorem r_ldc2_w {idx : Nat} (x : Int64) (hd : decode cc pc = .ok (.ldc2_w idx, 3)) (hv : Cond.constantLong own idx x ∈ am_T) (k : am_r (am_run d) own ret cc Q (pc + 3) vs (.long x :: st) σ) : am_r (am_run d) own ret cc Q pc vs st σ := am_in (am_run_mon d) hd ⟨rfl, x, hv, k⟩
theorem r_lconst {n : Fin 2} (x : Int64) (hd : decode cc pc = .ok (.lconst n, 1)) (hv : Int64.ofNat (n : Nat) = x) (k : am_r (am_run d) own ret cc Q (pc + 1) vs (.long x :: st) σ) : am_r (am_run d) own ret cc Q pc vs st σ := am_in (am_run_mon d) hd ⟨rfl, hv ▸ k⟩
theorem r_iload_n {n : Fin 4} {x : Int32} (hd : decode cc pc = .ok (.iload_n n, 1)) (hv : vs[(n : Nat)]? = some (.int x)) (k : am_r (am_run d) own ret cc Q (pc + 1) vs (.int x :: st) σ) : am_r (am_run d) own ret cc Q pc vs st σ := am_in (am_run_mon d) hd ⟨rfl, x, hv, k⟩
theorem r_iload {n : Nat} {x : Int32} (hd : decode cc pc = .ok (.iload n, 2)) (hv : vs[n]? = some (.int x)) (k : am_r (am_run d) own ret cc Q (pc + 2) vs (.int x :: st) σ) : am_r (am_run d) own ret cc Q pc vs st σ := am_in (am_run_mon d) hd ⟨rfl, x, hv, k⟩
theorem r_lload_n {n : Fin 4} {x : Int64} (hd : decode cc pc = .ok (.lload_n n, 1)) (hv : vs[(n : Nat)]? = some (.long x)) (k : am_r (am_run d) own ret cc Q (pc + 1) vs (.long x :: st) σ) : am_r (am_run d) own ret cc Q pc vs st σ := am_in (am_run_mon d) hd ⟨rfl, x, hv, k⟩
theorem r_lload {n : Nat} {x : Int64} (hd : decode cc pc = .ok (.lload n, 2)) (hv : vs[n]? = some (.long x)) (k : am_r (am_run d) own ret cc Q (pc + 2) vs (.long x :: st) σ) : am_r (am_run d) own ret cc Q pc vs st σ := am_in (am_run_mon d) hd ⟨rfl, x, hv, k⟩
theorem r_aload_n {n : Fin 4} {x : Nat} (hd : decode cc pc = .ok (.aload_n n, 1)) (hv : vs[(n : Nat)]? = some (.ref x)) (k : am_r (am_run d) own ret cc Q (pc + 1) vs (.ref x :: st) σ) : am_r (am_run d) own ret cc Q pc vs st σ := am_in (am_run_mon d) hd ⟨rfl, x, hv, k⟩
theorem r_aload {n : Nat} {x : Nat} (hd : decode cc pc = .ok (.aload n, 2)) (hv : vs[n]? = some (.ref x)) (k : am_r (am_run d) own ret cc Q (pc + 2) vs (.ref x :: st) σ) : am_r (am_run d) own ret cc Q pc vs st σ := am_in (am_run_mon d) hd ⟨rfl, x, hv, k⟩
theorem r_istore_n {n : Fin 4} {x : Int32} {vs' : List Value} (hd : decode cc pc = .ok (.istore_n n, 1)) (h1 : am_st1 vs (n : Nat) = true) (h2 : vs.set (n : Nat) (.int x) = vs') (k : am_r (am_run d) own ret cc Q (pc + 1) vs' st σ) : am_r (am_run d) own ret cc Q pc vs (.int x :: st) σ := am_in (am_run_mon d) hd ⟨rfl, h1, h2 ▸ k⟩
theorem r_istore {n : Nat} {x : Int32} {vs' : List Value} (hd : decode cc pc = .ok (.istore n, 2)) (h1 : am_st1 vs n = true) (h2 : vs.set n (.int x) = vs') (k : am_r (am_run d) own ret cc Q (pc + 2) vs' st σ) : am_r (am_run d) own ret cc Q pc vs (.int x :: st) σ := am_in (am_run_mon d) hd ⟨rfl, h1, h2 ▸ k⟩
theorem r_lstore {n : Nat} {x : Int64} {vs' : List Value} (hd : decode cc pc = .ok (.lstore n, 2)) (h1 : am_st2 vs n = true) (h2 : (vs.set n (.long x)).set (n + 1) .null = vs') (k : am_r (am_run d) own ret cc Q (pc + 2) vs' st σ) : am_r (am_run d) own ret cc Q pc vs (.long x :: st) σ := am_in (am_run_mon d) hd ⟨rfl, h1, h2 ▸ k⟩
theorem r_iinc {n : Nat} {v : Int} {x y : Int32} {vs' : List Value} (hd : decode cc pc = .ok (.iinc n v, 3)) (h1 : am_st1 vs n = true) (hx : vs[n]? = some (.int x)) (hy : x + Int32.ofInt v = y) (h2 : vs.set n (.int y) = vs') (k : am_r (am_run d) own ret cc Q (pc + 3) vs' st σ) : am_r (am_run d) own ret cc Q pc vs st σ := by
  subst hy
  subst h2
  exact am_in (am_run_mon d) hd ⟨rfl, h1, x, hx, k⟩
theorem r_iadd {x y : Int32} (hd : decode cc pc = .ok (.iadd, 1)) (k : am_r (am_run d) own ret cc Q (pc + 1) vs (.int (x + y) :: st) σ) : am_r (am_run d) own ret cc Q pc vs (.int y :: .int x :: st) σ := am_in (am_run_mon d) hd ⟨rfl, k⟩
theorem r_isub {x y : Int32} (hd : decode cc pc = .ok (.isub, 1)) (k : am_r (am_run d) own ret cc Q (pc + 1) vs (.int (x - y) :: st) σ) : am_r (am_run d) own ret cc Q pc vs (.int y :: .int x :: st) σ := am_in (am_run_mon d) hd ⟨rfl, k⟩
theorem r_imul {x y : Int32} (hd : decode cc pc = .ok (.imul, 1)) (k : am_r (am_run d) own ret cc Q (pc + 1) vs (.int (x * y) :: st) σ) : am_r (am_run d) own ret cc Q pc vs (.int y :: .int x :: st) σ := am_in (am_run_mon d) hd ⟨rfl, k⟩
theorem r_idiv {x y : Int32} (hd : decode cc pc = .ok (.idiv, 1)) (k : ¬ y = 0 ∧ am_r (am_run d) own ret cc Q (pc + 1) vs (.int (x / y) :: st) σ) : am_r (am_run d) own ret cc Q pc vs (.int y :: .int x :: st) σ := am_in (am_run_mon d) hd ⟨rfl, k⟩
theorem r_irem {x y : Int32} (hd : decode cc pc = .ok (.irem, 1)) (k : ¬ y = 0 ∧ am_r (am_run d) own ret cc Q (pc + 1) vs (.int (x - x / y * y) :: st) σ) : am_r (am_run d) own ret cc Q pc vs (.int y :: .int x :: st) σ := am_in (am_run_mon d) hd ⟨rfl, k⟩
theorem r_iand {x y : Int32} (hd : decode cc pc = .ok (.iand, 1)) (k : am_r (am_run d) own ret cc Q (pc + 1) vs (.int (x &&& y) :: st) σ) : am_r (am_run d) own ret cc Q pc vs (.int y :: .int x :: st) σ := am_in (am_run_mon d) hd ⟨rfl, k⟩
theorem r_ior {x y : Int32} (hd : decode cc pc = .ok (.ior, 1)) (k : am_r (am_run d) own ret cc Q (pc + 1) vs (.int (x ||| y) :: st) σ) : am_r (am_run d) own ret cc Q pc vs (.int y :: .int x :: st) σ := am_in (am_run_mon d) hd ⟨rfl, k⟩
theorem r_ixor {x y : Int32} (hd : decode cc pc = .ok (.ixor, 1)) (k : am_r (am_run d) own ret cc Q (pc + 1) vs (.int (x ^^^ y) :: st) σ) : am_r (am_run d) own ret cc Q pc vs (.int y :: .int x :: st) σ := am_in (am_run_mon d) hd ⟨rfl, k⟩
theorem r_ineg {x : Int32} (hd : decode cc pc = .ok (.ineg, 1)) (k : am_r (am_run d) own ret cc Q (pc + 1) vs (.int (-x) :: st) σ) : am_r (am_run d) own ret cc Q pc vs (.int x :: st) σ := am_in (am_run_mon d) hd ⟨rfl, k⟩
theorem r_ishl {x y : Int32} (hd : decode cc pc = .ok (.ishl, 1)) (k : am_r (am_run d) own ret cc Q (pc + 1) vs (.int (x <<< (y &&& 31)) :: st) σ) : am_r (am_run d) own ret cc Q pc vs (.int y :: .int x :: st) σ := am_in (am_run_mon d) hd ⟨rfl, k⟩
theorem r_ishr {x y : Int32} (hd : decode cc pc = .ok (.ishr, 1)) (k : am_r (am_run d) own ret cc Q (pc + 1) vs (.int (x >>> (y &&& 31)) :: st) σ) : am_r (am_run d) own ret cc Q pc vs (.int y :: .int x :: st) σ := am_in (am_run_mon d) hd ⟨rfl, k⟩
def am_ushr (x y : Int32) : Int32 := (x.toUInt32 >>> (y.toUInt32 &&& Int32.toUInt32 31)).toInt32
def am_lushr (x : Int64) (y : Int32) : Int64 := (x.toUInt64 >>> (y.toInt64.toUInt64 &&& Int64.toUInt64 63)).toInt64
theorem r_iushr {x y : Int32} (hd : decode cc pc = .ok (.iushr, 1)) (k : am_r (am_run d) own ret cc Q (pc + 1) vs (.int (am_ushr x y) :: st) σ) : am_r (am_run d) own ret cc Q pc vs (.int y :: .int x :: st) σ := am_in (am_run_mon d) hd ⟨rfl, k⟩
theorem r_land {x y : Int64} (hd : decode cc pc = .ok (.land, 1)) (k : am_r (am_run d) own ret cc Q (pc + 1) vs (.long (x &&& y) :: st) σ) : am_r (am_run d) own ret cc Q pc vs (.long y :: .long x :: st) σ := am_in (am_run_mon d) hd ⟨rfl, k⟩
theorem r_lor {x y : Int64} (hd : decode cc pc = .ok (.lor, 1)) (k : am_r (am_run d) own ret cc Q (pc + 1) vs (.long (x ||| y) :: st) σ) : am_r (am_run d) own ret cc Q pc vs (.long y :: .long x :: st) σ := am_in (am_run_mon d) hd ⟨rfl, k⟩
theorem r_lxor {x y : Int64} (hd : decode cc pc = .ok (.lxor, 1)) (k : am_r (am_run d) own ret cc Q (pc + 1) vs (.long (x ^^^ y) :: st) σ) : am_r (am_run d) own ret cc Q pc vs (.long y :: .long x :: st) σ := am_in (am_run_mon d) hd ⟨rfl, k⟩
theorem r_lushr {x : Int64} {y : Int32} (hd : decode cc pc = .ok (.lushr, 1)) (k : am_r (am_run d) own ret cc Q (pc + 1) vs (.long (am_lushr x y) :: st) σ) : am_r (am_run d) own ret cc Q pc vs (.int y :: .long x :: st) σ := am_in (am_run_mon d) hd ⟨rfl, k⟩
theorem r_lshl {x : Int64} {y : Int32} (hd : decode cc pc = .ok (.lshl, 1)) (k : am_r (am_run d) own ret cc Q (pc + 1) vs (.long (x <<< (y.toInt64 &&& 63)) :: st) σ) : am_r (am_run d) own ret cc Q pc vs (.int y :: .long x :: st) σ := am_in (am_run_mon d) hd ⟨rfl, k⟩
theorem r_lshr {x : Int64} {y : Int32} (hd : decode cc pc = .ok (.lshr, 1)) (k : am_r (am_run d) own ret cc Q (pc + 1) vs (.long (x >>> (y.toInt64 &&& 63)) :: st) σ) : am_r (am_run d) own ret cc Q pc vs (.int y :: .long x :: st) σ := am_in (am_run_mon d) hd ⟨rfl, k⟩
theorem r_lcmp {x y : Int64} (hd : decode cc pc = .ok (.lcmp, 1)) (k : am_r (am_run d) own ret cc Q (pc + 1) vs (.int (lg_cmp x y) :: st) σ) : am_r (am_run d) own ret cc Q pc vs (.long y :: .long x :: st) σ := am_in (am_run_mon d) hd ⟨rfl, k⟩
theorem r_i2l {x : Int32} (hd : decode cc pc = .ok (.i2l, 1)) (k : am_r (am_run d) own ret cc Q (pc + 1) vs (.long x.toInt64 :: st) σ) : am_r (am_run d) own ret cc Q pc vs (.int x :: st) σ := am_in (am_run_mon d) hd ⟨rfl, k⟩
theorem r_dup {v : Value} (hd : decode cc pc = .ok (.dup, 1)) (hv : v.category = 1) (k : am_r (am_run d) own ret cc Q (pc + 1) vs (v :: v :: st) σ) : am_r (am_run d) own ret cc Q pc vs (v :: st) σ := am_in (am_run_mon d) hd ⟨rfl, hv, k⟩
theorem r_dup2 {v w : Value} (hd : decode cc pc = .ok (.dup2, 1)) (hv : v.category = 1) (hw : w.category = 1) (k : am_r (am_run d) own ret cc Q (pc + 1) vs (v :: w :: v :: w :: st) σ) : am_r (am_run d) own ret cc Q pc vs (v :: w :: st) σ := am_in (am_run_mon d) hd ⟨rfl, hv, hw, k⟩
theorem r_pop {v : Value} (hd : decode cc pc = .ok (.pop, 1)) (hv : v.category = 1) (k : am_r (am_run d) own ret cc Q (pc + 1) vs st σ) : am_r (am_run d) own ret cc Q pc vs (v :: st) σ := am_in (am_run_mon d) hd ⟨rfl, hv, k⟩
theorem r_getI {idx k ci i : Nat} (hd : decode cc pc = .ok (.getfield idx, 3)) (hF : am_isF own idx ci i) (hk : am_kind k = ci) (hfk : (am_fk ci i == 2) = false) (kk : am_r (am_run d) own ret cc Q (pc + 3) vs (.int (σ.1 k i) :: st) σ) : am_r (am_run d) own ret cc Q pc vs (.ref k :: st) σ := by
  subst hk
  refine am_in (am_run_mon d) hd ⟨rfl, i, hF, ?_⟩
  unfold am_av
  rw [if_neg (by simpa using hfk)]
  exact kk
theorem r_getR {idx k ci i j : Nat} (hd : decode cc pc = .ok (.getfield idx, 3)) (hF : am_isF own idx ci i) (hk : am_kind k = ci) (hfk : (am_fk ci i == 2) = true) (hj : am_link k i = j) (kk : am_r (am_run d) own ret cc Q (pc + 3) vs (.ref j :: st) σ) : am_r (am_run d) own ret cc Q pc vs (.ref k :: st) σ := by
  subst hk
  refine am_in (am_run_mon d) hd ⟨rfl, i, hF, ?_⟩
  unfold am_av
  rw [if_pos (by simpa using hfk), hj]
  exact kk
theorem r_putI {idx k ci i : Nat} {x : Int32} (hd : decode cc pc = .ok (.putfield idx, 3)) (hF : am_isF own idx ci i) (hk : am_kind k = ci) (hfk : (am_fk ci i == 0) = true) (kk : am_r (am_run d) own ret cc Q (pc + 3) vs st (am_upI σ k i x)) : am_r (am_run d) own ret cc Q pc vs (.int x :: .ref k :: st) σ := by
  subst hk
  exact am_in (am_run_mon d) hd ⟨rfl, i, hF, Or.inl (by simpa using hfk), kk⟩
theorem r_putZ {idx k ci i : Nat} {x : Int32} (hd : decode cc pc = .ok (.putfield idx, 3)) (hF : am_isF own idx ci i) (hk : am_kind k = ci) (hfk : (am_fk ci i == 1) = true) (kk : (x = 0 ∨ x = 1) ∧ am_r (am_run d) own ret cc Q (pc + 3) vs st (am_upI σ k i x)) : am_r (am_run d) own ret cc Q pc vs (.int x :: .ref k :: st) σ := by
  subst hk
  exact am_in (am_run_mon d) hd ⟨rfl, i, hF, Or.inr ⟨by simpa using hfk, kk.1⟩, kk.2⟩
theorem r_iald {k n : Nat} {i : Int32} (hd : decode cc pc = .ok (.iaload, 1)) (hk : am_cell k = (11, n)) (kk : vp_in i n ∧ am_r (am_run d) own ret cc Q (pc + 1) vs (.int (σ.1 k i.toNatClampNeg) :: st) σ) : am_r (am_run d) own ret cc Q pc vs (.int i :: .ref k :: st) σ := by
  refine am_in (am_run_mon d) hd ⟨rfl, Or.inl ⟨?_, ?_⟩, kk.2⟩
  · show (am_cell k).1 = 11
    rw [hk]
  · show vp_in i (am_cell k).2
    rw [hk]
    exact kk.1
theorem r_scr {i : Int32} (hd : decode cc pc = .ok (.iaload, 1)) (kk : vp_in i (σ.1 1001 0).toNatClampNeg ∧ am_r (am_run d) own ret cc Q (pc + 1) vs (.int (σ.1 1000 i.toNatClampNeg) :: st) σ) : am_r (am_run d) own ret cc Q pc vs (.int i :: .ref 1000 :: st) σ := am_in (am_run_mon d) hd ⟨rfl, Or.inr ⟨rfl, kk.1⟩, kk.2⟩
theorem r_zald {k n : Nat} {i : Int32} (hd : decode cc pc = .ok (.baload, 1)) (hk : am_cell k = (13, n)) (kk : vp_in i n ∧ am_r (am_run d) own ret cc Q (pc + 1) vs (.int (σ.1 k i.toNatClampNeg) :: st) σ) : am_r (am_run d) own ret cc Q pc vs (.int i :: .ref k :: st) σ := by
  refine am_in (am_run_mon d) hd ⟨rfl, ⟨?_, ?_⟩, kk.2⟩
  · show (am_cell k).1 = 13
    rw [hk]
  · show vp_in i (am_cell k).2
    rw [hk]
    exact kk.1
theorem r_lald {k n : Nat} {i : Int32} (hd : decode cc pc = .ok (.laload, 1)) (hk : am_cell k = (12, n)) (kk : vp_in i n ∧ am_r (am_run d) own ret cc Q (pc + 1) vs (.long (σ.2 k i.toNatClampNeg) :: st) σ) : am_r (am_run d) own ret cc Q pc vs (.int i :: .ref k :: st) σ := by
  refine am_in (am_run_mon d) hd ⟨rfl, ⟨?_, ?_⟩, kk.2⟩
  · show (am_cell k).1 = 12
    rw [hk]
  · show vp_in i (am_cell k).2
    rw [hk]
    exact kk.1
theorem r_aald {i : Int32} (hd : decode cc pc = .ok (.aaload, 1)) (kk : vp_in i 30 ∧ am_r (am_run d) own ret cc Q (pc + 1) vs (.ref (33 + 4 * i.toNatClampNeg) :: st) σ) : am_r (am_run d) own ret cc Q pc vs (.int i :: .ref 8 :: st) σ := am_in (am_run_mon d) hd ⟨rfl, ⟨rfl, kk.1⟩, kk.2⟩
theorem r_iast {k n : Nat} {i x : Int32} (hd : decode cc pc = .ok (.iastore, 1)) (hk : am_cell k = (11, n)) (kk : vp_in i n ∧ am_r (am_run d) own ret cc Q (pc + 1) vs st (am_upI σ k i.toNatClampNeg x)) : am_r (am_run d) own ret cc Q pc vs (.int x :: .int i :: .ref k :: st) σ := by
  refine am_in (am_run_mon d) hd ⟨rfl, ⟨?_, ?_⟩, kk.2⟩
  · show (am_cell k).1 = 11
    rw [hk]
  · show vp_in i (am_cell k).2
    rw [hk]
    exact kk.1
theorem r_zast {k n : Nat} {i x : Int32} (hd : decode cc pc = .ok (.bastore, 1)) (hk : am_cell k = (13, n)) (kk : vp_in i n ∧ (x = 0 ∨ x = 1) ∧ am_r (am_run d) own ret cc Q (pc + 1) vs st (am_upI σ k i.toNatClampNeg x)) : am_r (am_run d) own ret cc Q pc vs (.int x :: .int i :: .ref k :: st) σ := by
  refine am_in (am_run_mon d) hd ⟨rfl, ⟨?_, ?_⟩, kk.2⟩
  · show (am_cell k).1 = 13
    rw [hk]
  · show vp_in i (am_cell k).2
    rw [hk]
    exact kk.1
theorem r_last {k n : Nat} {i : Int32} {x : Int64} (hd : decode cc pc = .ok (.lastore, 1)) (hk : am_cell k = (12, n)) (kk : vp_in i n ∧ am_r (am_run d) own ret cc Q (pc + 1) vs st (am_upJ σ k i.toNatClampNeg x)) : am_r (am_run d) own ret cc Q pc vs (.long x :: .int i :: .ref k :: st) σ := by
  refine am_in (am_run_mon d) hd ⟨rfl, ⟨?_, ?_⟩, kk.2⟩
  · show (am_cell k).1 = 12
    rw [hk]
  · show vp_in i (am_cell k).2
    rw [hk]
    exact kk.1
theorem r_alen {k t n : Nat} (hd : decode cc pc = .ok (.arraylength, 1)) (hk : am_cell k = (t, n)) (ht : (Nat.ble 11 t && Nat.ble t 13) = true) (kk : am_r (am_run d) own ret cc Q (pc + 1) vs (.int (nI n) :: st) σ) : am_r (am_run d) own ret cc Q pc vs (.ref k :: st) σ := by
  simp only [Bool.and_eq_true, Nat.ble_eq] at ht
  refine am_in (am_run_mon d) hd ⟨rfl, Or.inl ⟨?_, ?_, ?_⟩⟩
  · show 11 ≤ (am_cell k).1
    rw [hk]
    exact ht.1
  · show (am_cell k).1 ≤ 13
    rw [hk]
    exact ht.2
  · show am_r _ _ _ _ _ _ _ (.int (Int32.ofNat (am_cell k).2) :: st) σ
    rw [hk]
    exact kk
theorem r_slen (hd : decode cc pc = .ok (.arraylength, 1)) (kk : am_r (am_run d) own ret cc Q (pc + 1) vs (.int (σ.1 1001 0) :: st) σ) : am_r (am_run d) own ret cc Q pc vs (.ref 1000 :: st) σ := am_in (am_run_mon d) hd ⟨rfl, Or.inr ⟨rfl, kk⟩⟩
theorem r_if {c : ClassFile.Cond} {off : Int} {x : Int32} (t : Nat) (P : Prop) [Decidable P] (hd : decode cc pc = .ok (.ifCond c off, 3)) (ht : (pc : Int) + off = (t : Int)) (hP : am_cmp c x 0 = P) (kk : if P then am_r (am_run d) own ret cc Q t vs st σ else am_r (am_run d) own ret cc Q (pc + 3) vs st σ) : am_r (am_run d) own ret cc Q pc vs (.int x :: st) σ := by
  subst hP
  refine am_in (am_run_mon d) hd ⟨rfl, t, ht, fun h => ?_, fun h => ?_⟩
  · rwa [if_pos h] at kk
  · rwa [if_neg h] at kk
theorem r_icmp {c : ClassFile.Cond} {off : Int} {x y : Int32} (t : Nat) (P : Prop) [Decidable P] (hd : decode cc pc = .ok (.if_icmp c off, 3)) (ht : (pc : Int) + off = (t : Int)) (hP : am_cmp c x y = P) (kk : if P then am_r (am_run d) own ret cc Q t vs st σ else am_r (am_run d) own ret cc Q (pc + 3) vs st σ) : am_r (am_run d) own ret cc Q pc vs (.int y :: .int x :: st) σ := by
  subst hP
  refine am_in (am_run_mon d) hd ⟨rfl, t, ht, fun h => ?_, fun h => ?_⟩
  · rwa [if_pos h] at kk
  · rwa [if_neg h] at kk
theorem r_goto {off : Int} (t : Nat) (hd : decode cc pc = .ok (.goto off, 3)) (ht : (pc : Int) + off = (t : Int)) (kk : am_r (am_run d) own ret cc Q t vs st σ) : am_r (am_run d) own ret cc Q pc vs st σ := am_in (am_run_mon d) hd ⟨rfl, t, ht, kk⟩
theorem r_tabOut {dflt lo hi : Int} {offs : Array Int} {len : Nat} {x : Int32} (t : Nat) (hd : decode cc pc = .ok (.tableswitch dflt lo hi offs, len)) (h : x.toInt < lo ∨ hi < x.toInt) (ht : (pc : Int) + dflt = (t : Int)) (kk : am_r (am_run d) own ret cc Q t vs st σ) : am_r (am_run d) own ret cc Q pc vs (.int x :: st) σ := am_in (am_run_mon d) hd ⟨t, kk, Or.inl ⟨h, ht⟩⟩
theorem r_tabIn {dflt lo hi : Int} {offs : Array Int} {len : Nat} {x : Int32} (t : Nat) (off : Int) (hd : decode cc pc = .ok (.tableswitch dflt lo hi offs, len)) (h1 : ¬ x.toInt < lo) (h2 : ¬ hi < x.toInt) (ho : offs[(x.toInt - lo).toNat]? = some off) (ht : (pc : Int) + off = (t : Int)) (kk : am_r (am_run d) own ret cc Q t vs st σ) : am_r (am_run d) own ret cc Q pc vs (.int x :: st) σ := am_in (am_run_mon d) hd ⟨t, kk, Or.inr ⟨⟨h1, h2⟩, off, ho, ht⟩⟩
theorem r_virt {idx k n : Nat} {y : MethodName} (As rest : List Value) {Q1 : am_Q} (hd : decode cc pc = .ok (.invokevirtual idx, 3)) (hV : am_isV own idx y n) (hst : st = As.reverse ++ .ref k :: rest) (hn : As.length = n) (hk : am_cn k = y.cls) (hr : Nat.ble (rest.map fun v => v.category).sum 8 = true) (hM : am_run d y (.ref k :: As) σ Q1) (kk : ∀ r τ, Q1 r τ → am_r (am_run d) own ret cc Q (pc + 3) vs (r.toList ++ rest) τ) : am_r (am_run d) own ret cc Q pc vs st σ :=
  am_in (am_run_mon d) hd ⟨rfl, y, As, k, rest, hst, hn ▸ hV, hk, by simpa using hr, am_run_mon d _ _ _ _ _ kk hM⟩
theorem r_stat {idx n : Nat} {y : MethodName} (As rest : List Value) {Q1 : am_Q} (hd : decode cc pc = .ok (.invokestatic idx, 3)) (hV : am_isS own idx y n) (hst : st = As.reverse ++ rest) (hn : As.length = n) (hr : Nat.ble (rest.map fun v => v.category).sum 8 = true) (hM : am_run d y As σ Q1) (kk : ∀ r τ, Q1 r τ → am_r (am_run d) own ret cc Q (pc + 3) vs (r.toList ++ rest) τ) : am_r (am_run d) own ret cc Q pc vs st σ :=
  am_in (am_run_mon d) hd ⟨rfl, Or.inl ⟨y, As, rest, hst, hn ▸ hV, by simpa using hr, am_run_mon d _ _ _ _ _ kk hM⟩⟩
theorem am_ki {k : Int32 → am_S → Prop} {rest : List Value} {R : List Value → am_S → Prop} (h : ∀ x τ, k x τ → R (.int x :: rest) τ) : ∀ r τ, am_Ri k r τ → R (r.toList ++ rest) τ := fun r τ ⟨x, hx, hk⟩ => by subst hx; exact h x τ hk
theorem am_kv {k : am_S → Prop} {rest : List Value} {R : List Value → am_S → Prop} (h : ∀ τ, k τ → R rest τ) : ∀ r τ, am_Rv k r τ → R (r.toList ++ rest) τ := fun r τ ⟨hx, hk⟩ => by subst hx; exact h τ hk
theorem am_kr {c : Nat} {k : am_S → Prop} {rest : List Value} {R : List Value → am_S → Prop} (h : ∀ τ, k τ → R (.ref c :: rest) τ) : ∀ r τ, am_Rr c k r τ → R (r.toList ++ rest) τ := fun r τ ⟨hx, hk⟩ => by subst hx; exact h τ hk
theorem r_cpI {idx a b n0 n1 : Nat} {n dp sp : Int32} {t : Nat} (hd : decode cc pc = .ok (.invokestatic idx, 3)) (hA : am_isA own idx) (ha : am_cell a = (11, n0)) (hb : am_cell b = (11, n1)) (hr : Nat.ble (st.map fun v => v.category).sum 8 = true)
    (kk : (¬ sp < 0 ∧ ¬ dp < 0 ∧ ¬ n < 0 ∧ sp.toNatClampNeg + n.toNatClampNeg ≤ n0 ∧ dp.toNatClampNeg + n.toNatClampNeg ≤ n1) ∧ am_r (am_run d) own ret cc Q (pc + 3) vs st (am_cpI σ a b sp.toNatClampNeg dp.toNatClampNeg n.toNatClampNeg)) : am_r (am_run d) own ret cc Q pc vs (.int n :: .int dp :: .ref b :: .int sp :: .ref a :: st) σ := by
  obtain ⟨⟨h1, h2, h3, h4, h5⟩, kk⟩ := kk
  have e1 : am_kind a = 11 := by unfold am_kind; rw [ha]
  have e2 : am_kind b = 11 := by unfold am_kind; rw [hb]
  have e3 : am_len a = n0 := by unfold am_len; rw [ha]
  have e4 : am_len b = n1 := by unfold am_len; rw [hb]
  exact am_in (am_run_mon d) hd ⟨rfl, Or.inr ⟨hA, h1, h2, h3, by rw [e3]; exact h4, by rw [e4]; exact h5, by simpa using hr, e1.trans e2.symm, Or.inl ⟨Or.inl e1, kk⟩⟩⟩
theorem r_cpZ {idx a b n0 n1 : Nat} {n dp sp : Int32} {t : Nat} (hd : decode cc pc = .ok (.invokestatic idx, 3)) (hA : am_isA own idx) (ha : am_cell a = (13, n0)) (hb : am_cell b = (13, n1)) (hr : Nat.ble (st.map fun v => v.category).sum 8 = true)
    (kk : (¬ sp < 0 ∧ ¬ dp < 0 ∧ ¬ n < 0 ∧ sp.toNatClampNeg + n.toNatClampNeg ≤ n0 ∧ dp.toNatClampNeg + n.toNatClampNeg ≤ n1) ∧ (∀ i, i < n.toNatClampNeg → σ.1 a (sp.toNatClampNeg + i) = 0 ∨ σ.1 a (sp.toNatClampNeg + i) = 1) ∧ am_r (am_run d) own ret cc Q (pc + 3) vs st (am_cpI σ a b sp.toNatClampNeg dp.toNatClampNeg n.toNatClampNeg)) : am_r (am_run d) own ret cc Q pc vs (.int n :: .int dp :: .ref b :: .int sp :: .ref a :: st) σ := by
  obtain ⟨⟨h1, h2, h3, h4, h5⟩, h6, kk⟩ := kk
  have e1 : am_kind a = 13 := by unfold am_kind; rw [ha]
  have e2 : am_kind b = 13 := by unfold am_kind; rw [hb]
  have e3 : am_len a = n0 := by unfold am_len; rw [ha]
  have e4 : am_len b = n1 := by unfold am_len; rw [hb]
  exact am_in (am_run_mon d) hd ⟨rfl, Or.inr ⟨hA, h1, h2, h3, by rw [e3]; exact h4, by rw [e4]; exact h5, by simpa using hr, e1.trans e2.symm, Or.inl ⟨Or.inr ⟨e1, h6⟩, kk⟩⟩⟩
theorem r_cpJ {idx a b n0 n1 : Nat} {n dp sp : Int32} {t : Nat} (hd : decode cc pc = .ok (.invokestatic idx, 3)) (hA : am_isA own idx) (ha : am_cell a = (12, n0)) (hb : am_cell b = (12, n1)) (hr : Nat.ble (st.map fun v => v.category).sum 8 = true)
    (kk : (¬ sp < 0 ∧ ¬ dp < 0 ∧ ¬ n < 0 ∧ sp.toNatClampNeg + n.toNatClampNeg ≤ n0 ∧ dp.toNatClampNeg + n.toNatClampNeg ≤ n1) ∧ am_r (am_run d) own ret cc Q (pc + 3) vs st (am_cpJ σ a b sp.toNatClampNeg dp.toNatClampNeg n.toNatClampNeg)) : am_r (am_run d) own ret cc Q pc vs (.int n :: .int dp :: .ref b :: .int sp :: .ref a :: st) σ := by
  obtain ⟨⟨h1, h2, h3, h4, h5⟩, kk⟩ := kk
  have e1 : am_kind a = 12 := by unfold am_kind; rw [ha]
  have e2 : am_kind b = 12 := by unfold am_kind; rw [hb]
  have e3 : am_len a = n0 := by unfold am_len; rw [ha]
  have e4 : am_len b = n1 := by unfold am_len; rw [hb]
  exact am_in (am_run_mon d) hd ⟨rfl, Or.inr ⟨hA, h1, h2, h3, by rw [e3]; exact h4, by rw [e4]; exact h5, by simpa using hr, e1.trans e2.symm, Or.inr ⟨e1, kk⟩⟩⟩
theorem r_iret {k : Int32 → am_S → Prop} {x : Int32} (hd : decode cc pc = .ok (.ireturn, 1)) (h : k x σ) : am_r (am_run d) own (some .int) cc (am_Ri k) pc vs [.int x] σ := am_in (am_run_mon d) hd ⟨rfl, Or.inl rfl, x, rfl, h⟩
theorem r_zret {k : Int32 → am_S → Prop} {x : Int32} (hd : decode cc pc = .ok (.ireturn, 1)) (h : (x = 0 ∨ x = 1) ∧ k x σ) : am_r (am_run d) own (some .boolean) cc (am_Ri k) pc vs [.int x] σ := am_in (am_run_mon d) hd ⟨rfl, Or.inr ⟨rfl, h.1⟩, x, rfl, h.2⟩
theorem r_vret {k : am_S → Prop} (hd : decode cc pc = .ok (.return_, 1)) (h : k σ) : am_r (am_run d) own none cc (am_Rv k) pc vs [] σ := am_in (am_run_mon d) hd ⟨rfl, rfl, rfl, h⟩
theorem r_aret {c : Nat} {n : String} {k : am_S → Prop} (hd : decode cc pc = .ok (.areturn, 1)) (h : k σ) : am_r (am_run d) own (some (.object n)) cc (am_Rr c k) pc vs [.ref c] σ := am_in (am_run_mon d) hd ⟨rfl, ⟨n, rfl⟩, rfl, h⟩
end AMR
/-- a method begins -/
theorem am_begin {d maxL : Nat} {y : MethodName} {cc : ByteArray} {ret : Option FieldType} {As vs : List Value} {σ : am_S} {Q : am_Q} (hcode : Cond.code y cc maxL ret ∈ am_T) (hpl : plainFor y = true) (hmx : Nat.ble maxL 20 = true) (hvs : am_ent As maxL = vs) (hlen : Nat.ble (am_sl As).length maxL = true) (hAs : (As.all fun v => match v with | .int _ => true | .long _ => true | .ref _ => true | _ => false) = true) (h : am_r (am_run d) y.cls ret cc Q 0 vs [] σ) : am_run (d + 1) y As σ Q := by
  subst hvs
  refine ⟨cc, maxL, ret, hcode, hpl, by simpa using hlen, by simpa using hmx, fun v hv => ?_, h⟩
  have h1 := List.all_eq_true.mp hAs v hv
  cases v <;> first | (exfalso; simp at h1; done) | exact ⟨by simp, by simp⟩
