/-! CONSTRUCTORS: the history, the class -/
abbrev y_Hist_init : MethodName := ⟨"WheelDisc$History", "<init>", "()V"⟩
theorem c_Hist_init : Cond.code y_Hist_init prog_5_method_1_code 2 none ∈ am_T := am_mem 143 (by decide +kernel) rfl
def rw_Hist_init : List (Nat × Instr × Nat) := [(0, .aload_n 0, 1), (1, .invokespecial 1, 3), (4, .aload_n 0, 1), (5, .bipush 30, 2), (7, .anewarray 9, 3), (10, .putfield 11, 3), (13, .aload_n 0, 1), (14, .iconst 0, 1), (15, .putfield 15, 3), (18, .aload_n 0, 1), (19, .iconst 0, 1), (20, .putfield 19, 3), (23, .iconst 0, 1), (24, .istore_n 1, 1), (25, .iload_n 1, 1), (26, .bipush 30, 2), (28, .if_icmp .ge 22, 3), (31, .aload_n 0, 1), (32, .getfield 11, 3), (35, .iload_n 1, 1), (36, .new 9, 3), (39, .dup, 1), (40, .invokespecial 22, 3), (43, .aastore, 1), (44, .iinc 1 1, 3), (47, .goto (-22), 3), (50, .return_, 1)]
theorem ro_Hist_init : rw_Hist_init.all (fun r => decide (decode prog_5_method_1_code r.1 = .ok r.2)) = true := by decide +kernel
theorem d_Hist_init_0 : decode prog_5_method_1_code 0 = .ok (.aload_n 0, 1) := am_row (r := (0, .aload_n 0, 1)) ro_Hist_init 0 rfl
theorem d_Hist_init_1 : decode prog_5_method_1_code 1 = .ok (.invokespecial 1, 3) := am_row (r := (1, .invokespecial 1, 3)) ro_Hist_init 1 rfl
theorem d_Hist_init_4 : decode prog_5_method_1_code 4 = .ok (.aload_n 0, 1) := am_row (r := (4, .aload_n 0, 1)) ro_Hist_init 2 rfl
theorem d_Hist_init_5 : decode prog_5_method_1_code 5 = .ok (.bipush 30, 2) := am_row (r := (5, .bipush 30, 2)) ro_Hist_init 3 rfl
theorem d_Hist_init_7 : decode prog_5_method_1_code 7 = .ok (.anewarray 9, 3) := am_row (r := (7, .anewarray 9, 3)) ro_Hist_init 4 rfl
theorem d_Hist_init_10 : decode prog_5_method_1_code 10 = .ok (.putfield 11, 3) := am_row (r := (10, .putfield 11, 3)) ro_Hist_init 5 rfl
theorem d_Hist_init_13 : decode prog_5_method_1_code 13 = .ok (.aload_n 0, 1) := am_row (r := (13, .aload_n 0, 1)) ro_Hist_init 6 rfl
theorem d_Hist_init_14 : decode prog_5_method_1_code 14 = .ok (.iconst 0, 1) := am_row (r := (14, .iconst 0, 1)) ro_Hist_init 7 rfl
theorem d_Hist_init_15 : decode prog_5_method_1_code 15 = .ok (.putfield 15, 3) := am_row (r := (15, .putfield 15, 3)) ro_Hist_init 8 rfl
theorem d_Hist_init_18 : decode prog_5_method_1_code 18 = .ok (.aload_n 0, 1) := am_row (r := (18, .aload_n 0, 1)) ro_Hist_init 9 rfl
theorem d_Hist_init_19 : decode prog_5_method_1_code 19 = .ok (.iconst 0, 1) := am_row (r := (19, .iconst 0, 1)) ro_Hist_init 10 rfl
theorem d_Hist_init_20 : decode prog_5_method_1_code 20 = .ok (.putfield 19, 3) := am_row (r := (20, .putfield 19, 3)) ro_Hist_init 11 rfl
theorem d_Hist_init_23 : decode prog_5_method_1_code 23 = .ok (.iconst 0, 1) := am_row (r := (23, .iconst 0, 1)) ro_Hist_init 12 rfl
theorem d_Hist_init_24 : decode prog_5_method_1_code 24 = .ok (.istore_n 1, 1) := am_row (r := (24, .istore_n 1, 1)) ro_Hist_init 13 rfl
theorem d_Hist_init_25 : decode prog_5_method_1_code 25 = .ok (.iload_n 1, 1) := am_row (r := (25, .iload_n 1, 1)) ro_Hist_init 14 rfl
theorem d_Hist_init_26 : decode prog_5_method_1_code 26 = .ok (.bipush 30, 2) := am_row (r := (26, .bipush 30, 2)) ro_Hist_init 15 rfl
theorem d_Hist_init_28 : decode prog_5_method_1_code 28 = .ok (.if_icmp .ge 22, 3) := am_row (r := (28, .if_icmp .ge 22, 3)) ro_Hist_init 16 rfl
theorem d_Hist_init_31 : decode prog_5_method_1_code 31 = .ok (.aload_n 0, 1) := am_row (r := (31, .aload_n 0, 1)) ro_Hist_init 17 rfl
theorem d_Hist_init_32 : decode prog_5_method_1_code 32 = .ok (.getfield 11, 3) := am_row (r := (32, .getfield 11, 3)) ro_Hist_init 18 rfl
theorem d_Hist_init_35 : decode prog_5_method_1_code 35 = .ok (.iload_n 1, 1) := am_row (r := (35, .iload_n 1, 1)) ro_Hist_init 19 rfl
theorem d_Hist_init_36 : decode prog_5_method_1_code 36 = .ok (.new 9, 3) := am_row (r := (36, .new 9, 3)) ro_Hist_init 20 rfl
theorem d_Hist_init_39 : decode prog_5_method_1_code 39 = .ok (.dup, 1) := am_row (r := (39, .dup, 1)) ro_Hist_init 21 rfl
theorem d_Hist_init_40 : decode prog_5_method_1_code 40 = .ok (.invokespecial 22, 3) := am_row (r := (40, .invokespecial 22, 3)) ro_Hist_init 22 rfl
theorem d_Hist_init_43 : decode prog_5_method_1_code 43 = .ok (.aastore, 1) := am_row (r := (43, .aastore, 1)) ro_Hist_init 23 rfl
theorem d_Hist_init_44 : decode prog_5_method_1_code 44 = .ok (.iinc 1 1, 3) := am_row (r := (44, .iinc 1 1, 3)) ro_Hist_init 24 rfl
theorem d_Hist_init_47 : decode prog_5_method_1_code 47 = .ok (.goto (-22), 3) := am_row (r := (47, .goto (-22), 3)) ro_Hist_init 25 rfl
theorem d_Hist_init_50 : decode prog_5_method_1_code 50 = .ok (.return_, 1) := am_row (r := (50, .return_, 1)) ro_Hist_init 26 rfl

def dW (G : am_G) (a b c d : Nat → Nat) (i : Nat) : va_W := [(a i, .inr (0, [.ref (b i), .ref (c i), .ref (d i), .int 1, .int 0, .int 0])), (b i, eJ G.2.1 80), (c i, eI G.2.1 10), (d i, eI G.2.1 10)]
def rgW (G : am_G) (a b c d : Nat → Nat) : Nat → va_W
  | 0 => []
  | i + 1 => rgW G a b c d i ++ dW G a b c d i
def rgF (a : Nat → Nat) (i : Nat) : Nat → Option Nat := fun j => if j < i then some (a j) else none
theorem rgW_congr {G : am_G} {a b c d a' b' c' d' : Nat → Nat} : ∀ i, (∀ j, j < i → a j = a' j ∧ b j = b' j ∧ c j = c' j ∧ d j = d' j) → rgW G a b c d i = rgW G a' b' c' d' i
  | 0, _ => rfl
  | i + 1, h => by
    have h1 := rgW_congr (G := G) i (fun j hj => h j (by omega))
    obtain ⟨e1, e2, e3, e4⟩ := h i (by omega)
    unfold rgW dW
    rw [h1, e1, e2, e3, e4]
def is_Hist (G : am_G) (h0 : Nat) (w : va_W) : Prop := ∃ (q1 : Nat) (a b c d : Nat → Nat), w = (h0, .inr (3, [.ref q1, .int 0, .int 0])) :: ((q1, eQ G.2.1 30 (rgF a 30)) :: rgW G a b c d 30)
def rm_Hist_init : Room := { frames := 2, cells := 121, slots := 3210, locals := 32 }
set_option maxRecDepth 100000 in
theorem k_Hist_init (l : Launch) (G : am_G) : cn_Met l G y_Hist_init prog_5_method_1_code 2 rm_Hist_init 3 [.null, .int 0, .int 0] (is_Hist G) 121 3210 := by
  refine cn_ofW (by decide +kernel) rfl (by decide) (fun p e s m args below meth c h0 A ls X hl hP hD hS fin => ?_)
  -- the loop
  have L : ∀ (q1 : Nat) n i (a b c1 d : Nat → Nat) (H : Heap) (locs : List Loc) (ls : Array Slot), i + n = 30 → lv_has ls 2 [(0, .ref h0), (1, .int (nI i))] → va_P G.1 am_cl ((h0, .inr (3, [.ref q1, .int 0, .int 0])) :: ((q1, eQ G.2.1 30 (rgF a i)) :: rgW G a b c1 d i)) H → va_D A ((h0, .inr (3, [.ref q1, .int 0, .int 0])) :: ((q1, eQ G.2.1 30 (rgF a i)) :: rgW G a b c1 d i)) → va_S A s.heap H locs → W p l e rm_Hist_init s m args below meth c H locs (1 + 4 * i) (30 + 106 * i) (MQ below (cn_Post G h0 3 [.null, .int 0, .int 0] s.heap.size (is_Hist G h0)) args s 121 3210 A) (F0 m 25 ls []) := by
    intro q1 n
    induction n with
    | zero =>
      intro i a b c1 d H locs ls hi hl hP hD hS
      have : i = 30 := by omega
      subst this
      refine lv_iload_n X.1 X.2.1 d_Hist_init_25 rfl (lv_at hl 1 rfl) ?_
      refine lv_bipush (v := nI 30) X.1 X.2.1 d_Hist_init_26 (by decide) ?_
      refine lv_icmp_ge (tgt := 50) X.1 X.2.1 d_Hist_init_28 (by decide) (fun _ => ?_) (fun z => absurd (Int32.le_refl _) z)
      exact fin _ _ _ 50 ls d_Hist_init_50 ⟨q1, a, b, c1, d, rfl⟩ hP hD hS
    | succ n ih =>
      intro i a b c1 d H locs ls hi hl hP hD hS
      refine lv_iload_n X.1 X.2.1 d_Hist_init_25 rfl (lv_at hl 1 rfl) ?_
      refine lv_bipush (v := nI 30) X.1 X.2.1 d_Hist_init_26 (by decide) ?_
      refine lv_icmp_ge (tgt := 50) X.1 X.2.1 d_Hist_init_28 (by decide) (fun z => absurd z (nI_ge (by omega) (by decide))) (fun _ => ?_)
      refine lv_aload_n X.1 X.2.1 d_Hist_init_31 rfl (lv_at hl 0 rfl) ?_
      refine va_get (D := G.1) (ref := "WheelDisc$History") X.1 X.2.1 X.2.2.2.2.1 (am_cl_ok 3 (by decide) _ rfl).1 X.2.2.2.1 X.2.2.2.2.2.1.1 hP 0 rfl rfl 0 (by decide) (X.2.2.2.2.1 _ (am_mem 148 (by decide +kernel) rfl)) (fun x h => h) rfl d_Hist_init_32 ?_
      refine lv_iload_n X.1 X.2.1 d_Hist_init_35 rfl (lv_at hl 1 rfl) ?_
      refine cn_new (ci := 0) (fs := [.null, .null, .null, .int 0, .int 0, .int 0]) X (by decide) rfl (am_mem 145 (by decide +kernel) rfl) (am_mem 106 (by decide +kernel) rfl) (am_mem 64 (by decide +kernel) rfl) (fun j hj => by rcases (show j = 0 ∨ j = 1 ∨ j = 2 ∨ j = 3 ∨ j = 4 ∨ j = 5 by omega) with rfl | rfl | rfl | rfl | rfl | rfl <;> rfl) hP hD hS (by show 1 + 4 * i + 1 ≤ 121; omega) (by show 30 + 106 * i + 6 ≤ 3210; omega) d_Hist_init_36 (fun q H hP hD hS => ?_)
      refine lv_dup X.1 X.2.1 d_Hist_init_39 rfl ?_
      refine cn_callN (host := "WheelDisc") X (k_Disc_init l G) c_Disc_init (am_memN 147 (by decide +kernel) rfl) (am_mem 64 (by decide +kernel) rfl) (am_mem 108 (by decide +kernel) rfl) rfl ⟨by decide, by decide, by decide +kernel⟩ rfl rfl ⟨(Nat.le_of_ble_eq_true rfl), (Nat.le_of_ble_eq_true rfl)⟩ hP hD hS hl.1 (by show 1 + 4 * i + 1 + 3 ≤ 121; omega) (by show 30 + 106 * i + 6 + 100 ≤ 3210; omega) (Nat.le_of_ble_eq_true rfl) d_Hist_init_40 (fun w H locs hw hP hD hS => ?_)
      obtain ⟨r1, r2, r3, rfl⟩ := hw
      have hm : (q, (Sum.inr (0, [.ref r1, .ref r2, .ref r3, .int 1, .int 0, .int 0]) : va_E)) ∈ ((h0, (Sum.inr (3, [.ref q1, .int 0, .int 0]) : va_E)) :: ((q1, eQ G.2.1 30 (rgF a i)) :: rgW G a b c1 d i)) ++ ((q, .inr (0, [.ref r1, .ref r2, .ref r3, .int 1, .int 0, .int 0])) :: ([] ++ [(r1, eJ G.2.1 80)] ++ [(r2, eI G.2.1 10)] ++ [(r3, eI G.2.1 10)])) := List.mem_append_right _ List.mem_cons_self
      obtain ⟨qk, hqk⟩ := List.getElem?_of_mem hm
      refine va_astq (D := G.1) (r := ("WheelDisc$Disc", am_T0, 6)) X.1 X.2.1 X.2.2.2.2.2.1.1 hP hD hS 1 3 qk 0 rfl rfl hqk rfl (pk_in i 30 (by omega)) d_Hist_init_43 (fun H locs hP hD hS => ?_)
      have er : rgW G a b c1 d i = rgW G (va_up a i q) (va_up b i r1) (va_up c1 i r2) (va_up d i r3) i := rgW_congr i (fun j hj => by
        unfold va_up
        rw [if_neg (by omega), if_neg (by omega), if_neg (by omega), if_neg (by omega)]
        exact ⟨rfl, rfl, rfl, rfl⟩)
      have ef : va_up (rgF a i) (Int32.toNatClampNeg (nI i)) (some q) = rgF (va_up a i q) (i + 1) := by
        rw [nI_clamp (by omega)]
        funext j
        unfold va_up rgF
        dsimp only
        by_cases e1 : j = i
        · rw [if_pos e1, if_pos (by omega), if_pos e1]
        · rw [if_neg e1]
          by_cases e2 : j < i
          · rw [if_pos e2, if_pos (by omega), if_neg e1]
          · rw [if_neg e2, if_neg (by omega)]
      have ed : dW G (va_up a i q) (va_up b i r1) (va_up c1 i r2) (va_up d i r3) i = (q, .inr (0, [.ref r1, .ref r2, .ref r3, .int 1, .int 0, .int 0])) :: ([] ++ [(r1, eJ G.2.1 80)] ++ [(r2, eI G.2.1 10)] ++ [(r3, eI G.2.1 10)]) := by
        unfold dW va_up
        rw [if_pos rfl, if_pos rfl, if_pos rfl, if_pos rfl]
        rfl
      have ew : ((h0, (Sum.inr (3, [.ref q1, .int 0, .int 0]) : va_E)) :: ((q1, eQ G.2.1 30 (va_up (rgF a i) (Int32.toNatClampNeg (nI i)) (some q))) :: (rgW G a b c1 d i ++ ((q, .inr (0, [.ref r1, .ref r2, .ref r3, .int 1, .int 0, .int 0])) :: ([] ++ [(r1, eJ G.2.1 80)] ++ [(r2, eI G.2.1 10)] ++ [(r3, eI G.2.1 10)]))))) = ((h0, (Sum.inr (3, [.ref q1, .int 0, .int 0]) : va_E)) :: ((q1, eQ G.2.1 30 (rgF (va_up a i q) (i + 1))) :: rgW G (va_up a i q) (va_up b i r1) (va_up c1 i r2) (va_up d i r3) (i + 1))) := by
        rw [ef, er, ← ed]
        rfl
      have hP : va_P G.1 am_cl ((h0, (Sum.inr (3, [.ref q1, .int 0, .int 0]) : va_E)) :: ((q1, eQ G.2.1 30 (va_up (rgF a i) (Int32.toNatClampNeg (nI i)) (some q))) :: (rgW G a b c1 d i ++ ((q, .inr (0, [.ref r1, .ref r2, .ref r3, .int 1, .int 0, .int 0])) :: ([] ++ [(r1, eJ G.2.1 80)] ++ [(r2, eI G.2.1 10)] ++ [(r3, eI G.2.1 10)]))))) H := hP
      have hD : va_D A ((h0, (Sum.inr (3, [.ref q1, .int 0, .int 0]) : va_E)) :: ((q1, eQ G.2.1 30 (va_up (rgF a i) (Int32.toNatClampNeg (nI i)) (some q))) :: (rgW G a b c1 d i ++ ((q, .inr (0, [.ref r1, .ref r2, .ref r3, .int 1, .int 0, .int 0])) :: ([] ++ [(r1, eJ G.2.1 80)] ++ [(r2, eI G.2.1 10)] ++ [(r3, eI G.2.1 10)]))))) := hD
      rw [ew] at hP hD
      refine lv_iinc (v := nI (i + 1)) (lv' := [(1, .int (nI (i + 1))), (0, .ref h0)]) X.1 X.2.1 d_Hist_init_44 hl (k := 1) rfl (nI_add i 1) (by decide) rfl (fun ls hl => ?_)
      refine lv_goto (tgt := 25) X.1 X.2.1 d_Hist_init_47 (by decide) ?_
      rw [show 1 + 4 * i + 1 + 3 = 1 + 4 * (i + 1) by omega, show 30 + 106 * i + 6 + 100 = 30 + 106 * (i + 1) by omega]
      exact ih (i + 1) _ _ _ _ H locs ls (by omega) (lv_sub hl [1, 0] rfl) hP hD hS
  refine lv_aload_n X.1 X.2.1 d_Hist_init_0 rfl (lv_at hl 0 rfl) ?_
  refine cn_obj X (am_mem 144 (by decide +kernel) rfl) hl.1 (Nat.le_of_ble_eq_true rfl) (Nat.le_of_ble_eq_true rfl) d_Hist_init_1 ?_
  refine lv_aload_n X.1 X.2.1 d_Hist_init_4 rfl (lv_at hl 0 rfl) ?_
  refine lv_bipush (v := nI 30) X.1 X.2.1 d_Hist_init_5 (by decide) ?_
  refine cn_newq X (am_mem 145 (by decide +kernel) rfl) hP hD hS 30 rfl (by decide) (Nat.le_of_ble_eq_true rfl) (Nat.le_of_ble_eq_true rfl) d_Hist_init_7 (fun q1 H hP hD hS => ?_)
  refine cn_put (ci := 3) (k := 0) X (by decide) rfl (by decide) (am_mem 148 (by decide +kernel) rfl) rfl rfl (Nat.le_of_ble_eq_true rfl) hP hD hS d_Hist_init_10 (fun H locs hP hD hS => ?_)
  have hP : va_P G.1 am_cl ((h0, .inr (3, [.ref q1, .int 0, .int 0])) :: ([(q1, eQ G.2.1 30 (fun _ => none))])) H := hP
  have hD : va_D A ((h0, .inr (3, [.ref q1, .int 0, .int 0])) :: ([(q1, eQ G.2.1 30 (fun _ => none))])) := hD
  refine lv_aload_n X.1 X.2.1 d_Hist_init_13 rfl (lv_at hl 0 rfl) ?_
  refine lv_iconst (v := 0) X.1 X.2.1 d_Hist_init_14 (by decide) ?_
  refine cn_put (ci := 3) (k := 1) X (by decide) rfl (by decide) (am_mem 149 (by decide +kernel) rfl) rfl rfl (Nat.le_of_ble_eq_true rfl) hP hD hS d_Hist_init_15 (fun H locs hP hD hS => ?_)
  have hP : va_P G.1 am_cl ((h0, .inr (3, [.ref q1, .int 0, .int 0])) :: ([(q1, eQ G.2.1 30 (fun _ => none))])) H := hP
  have hD : va_D A ((h0, .inr (3, [.ref q1, .int 0, .int 0])) :: ([(q1, eQ G.2.1 30 (fun _ => none))])) := hD
  refine lv_aload_n X.1 X.2.1 d_Hist_init_18 rfl (lv_at hl 0 rfl) ?_
  refine lv_iconst (v := 0) X.1 X.2.1 d_Hist_init_19 (by decide) ?_
  refine cn_put (ci := 3) (k := 2) X (by decide) rfl (by decide) (am_mem 150 (by decide +kernel) rfl) rfl rfl (Nat.le_of_ble_eq_true rfl) hP hD hS d_Hist_init_20 (fun H locs hP hD hS => ?_)
  have e0 : (fun _ => none : Nat → Option Nat) = rgF (fun _ => 0) 0 := by
    funext j
    unfold rgF
    rw [if_neg (by omega)]
  have hP : va_P G.1 am_cl ((h0, .inr (3, [.ref q1, .int 0, .int 0])) :: ((q1, eQ G.2.1 30 (fun _ => none)) :: rgW G (fun _ => 0) (fun _ => 0) (fun _ => 0) (fun _ => 0) 0)) H := hP
  have hD : va_D A ((h0, .inr (3, [.ref q1, .int 0, .int 0])) :: ((q1, eQ G.2.1 30 (fun _ => none)) :: rgW G (fun _ => 0) (fun _ => 0) (fun _ => 0) (fun _ => 0) 0)) := hD
  rw [e0] at hP hD
  refine lv_iconst (v := nI 0) X.1 X.2.1 d_Hist_init_23 (by decide) ?_
  refine lv_istore_n (lv' := [(1, .int (nI 0)), (0, .ref h0)]) X.1 X.2.1 d_Hist_init_24 rfl hl (by decide) rfl (fun ls hl => ?_)
  exact L q1 30 0 _ _ _ _ H locs ls (by omega) (lv_sub hl [1, 0] rfl) hP hD hS
