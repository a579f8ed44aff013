/-! CONSTRUCTORS: the small ones -/
def eS (cl : Nat → ClassId) : va_E := .inl (cl 11, 96, .inl (upd zI 0 1))
abbrev y_Disc_init : MethodName := ⟨"WheelDisc$Disc", "<init>", "()V"⟩
theorem c_Disc_init : Cond.code y_Disc_init prog_2_method_1_code 1 none ∈ am_T := am_mem 109 (by decide +kernel) rfl
def rw_Disc_init : List (Nat × Instr × Nat) := [(0, .aload_n 0, 1), (1, .invokespecial 3, 3), (4, .aload_n 0, 1), (5, .bipush 80, 2), (7, .newarray .long, 2), (9, .putfield 11, 3), (12, .aload_n 0, 1), (13, .bipush 10, 2), (15, .newarray .int, 2), (17, .putfield 15, 3), (20, .aload_n 0, 1), (21, .bipush 10, 2), (23, .newarray .int, 2), (25, .putfield 19, 3), (28, .aload_n 0, 1), (29, .iconst 1, 1), (30, .putfield 22, 3), (33, .aload_n 0, 1), (34, .iconst 0, 1), (35, .putfield 26, 3), (38, .aload_n 0, 1), (39, .iconst 0, 1), (40, .putfield 29, 3), (43, .return_, 1)]
theorem ro_Disc_init : rw_Disc_init.all (fun r => decide (decode prog_2_method_1_code r.1 = .ok r.2)) = true := by decide +kernel
theorem d_Disc_init_0 : decode prog_2_method_1_code 0 = .ok (.aload_n 0, 1) := am_row (r := (0, .aload_n 0, 1)) ro_Disc_init 0 rfl
theorem d_Disc_init_1 : decode prog_2_method_1_code 1 = .ok (.invokespecial 3, 3) := am_row (r := (1, .invokespecial 3, 3)) ro_Disc_init 1 rfl
theorem d_Disc_init_4 : decode prog_2_method_1_code 4 = .ok (.aload_n 0, 1) := am_row (r := (4, .aload_n 0, 1)) ro_Disc_init 2 rfl
theorem d_Disc_init_5 : decode prog_2_method_1_code 5 = .ok (.bipush 80, 2) := am_row (r := (5, .bipush 80, 2)) ro_Disc_init 3 rfl
theorem d_Disc_init_7 : decode prog_2_method_1_code 7 = .ok (.newarray .long, 2) := am_row (r := (7, .newarray .long, 2)) ro_Disc_init 4 rfl
theorem d_Disc_init_9 : decode prog_2_method_1_code 9 = .ok (.putfield 11, 3) := am_row (r := (9, .putfield 11, 3)) ro_Disc_init 5 rfl
theorem d_Disc_init_12 : decode prog_2_method_1_code 12 = .ok (.aload_n 0, 1) := am_row (r := (12, .aload_n 0, 1)) ro_Disc_init 6 rfl
theorem d_Disc_init_13 : decode prog_2_method_1_code 13 = .ok (.bipush 10, 2) := am_row (r := (13, .bipush 10, 2)) ro_Disc_init 7 rfl
theorem d_Disc_init_15 : decode prog_2_method_1_code 15 = .ok (.newarray .int, 2) := am_row (r := (15, .newarray .int, 2)) ro_Disc_init 8 rfl
theorem d_Disc_init_17 : decode prog_2_method_1_code 17 = .ok (.putfield 15, 3) := am_row (r := (17, .putfield 15, 3)) ro_Disc_init 9 rfl
theorem d_Disc_init_20 : decode prog_2_method_1_code 20 = .ok (.aload_n 0, 1) := am_row (r := (20, .aload_n 0, 1)) ro_Disc_init 10 rfl
theorem d_Disc_init_21 : decode prog_2_method_1_code 21 = .ok (.bipush 10, 2) := am_row (r := (21, .bipush 10, 2)) ro_Disc_init 11 rfl
theorem d_Disc_init_23 : decode prog_2_method_1_code 23 = .ok (.newarray .int, 2) := am_row (r := (23, .newarray .int, 2)) ro_Disc_init 12 rfl
theorem d_Disc_init_25 : decode prog_2_method_1_code 25 = .ok (.putfield 19, 3) := am_row (r := (25, .putfield 19, 3)) ro_Disc_init 13 rfl
theorem d_Disc_init_28 : decode prog_2_method_1_code 28 = .ok (.aload_n 0, 1) := am_row (r := (28, .aload_n 0, 1)) ro_Disc_init 14 rfl
theorem d_Disc_init_29 : decode prog_2_method_1_code 29 = .ok (.iconst 1, 1) := am_row (r := (29, .iconst 1, 1)) ro_Disc_init 15 rfl
theorem d_Disc_init_30 : decode prog_2_method_1_code 30 = .ok (.putfield 22, 3) := am_row (r := (30, .putfield 22, 3)) ro_Disc_init 16 rfl
theorem d_Disc_init_33 : decode prog_2_method_1_code 33 = .ok (.aload_n 0, 1) := am_row (r := (33, .aload_n 0, 1)) ro_Disc_init 17 rfl
theorem d_Disc_init_34 : decode prog_2_method_1_code 34 = .ok (.iconst 0, 1) := am_row (r := (34, .iconst 0, 1)) ro_Disc_init 18 rfl
theorem d_Disc_init_35 : decode prog_2_method_1_code 35 = .ok (.putfield 26, 3) := am_row (r := (35, .putfield 26, 3)) ro_Disc_init 19 rfl
theorem d_Disc_init_38 : decode prog_2_method_1_code 38 = .ok (.aload_n 0, 1) := am_row (r := (38, .aload_n 0, 1)) ro_Disc_init 20 rfl
theorem d_Disc_init_39 : decode prog_2_method_1_code 39 = .ok (.iconst 0, 1) := am_row (r := (39, .iconst 0, 1)) ro_Disc_init 21 rfl
theorem d_Disc_init_40 : decode prog_2_method_1_code 40 = .ok (.putfield 29, 3) := am_row (r := (40, .putfield 29, 3)) ro_Disc_init 22 rfl
theorem d_Disc_init_43 : decode prog_2_method_1_code 43 = .ok (.return_, 1) := am_row (r := (43, .return_, 1)) ro_Disc_init 23 rfl
def is_Disc (G : am_G) (h0 : Nat) (w : va_W) : Prop := ∃ q1 q2 q3 : Nat, w = (h0, .inr (0, [.ref q1, .ref q2, .ref q3, .int 1, .int 0, .int 0])) :: ([] ++ [(q1, eJ G.2.1 80)] ++ [(q2, eI G.2.1 10)] ++ [(q3, eI G.2.1 10)])
def rm_Disc_init : Room := { frames := 1, cells := 3, slots := 100, locals := 12 }
set_option maxRecDepth 100000 in
theorem k_Disc_init (l : Launch) (G : am_G) : cn_Met l G y_Disc_init prog_2_method_1_code 1 rm_Disc_init 0 [.null, .null, .null, .int 0, .int 0, .int 0] (is_Disc G) 3 100 := by
  refine cn_ofW (by decide +kernel) rfl (by decide) (fun p e s m args below meth c h0 A ls X hl hP hD hS fin => ?_)
  refine lv_aload_n X.1 X.2.1 d_Disc_init_0 rfl (lv_at hl 0 rfl) ?_
  refine cn_obj X (am_mem 110 (by decide +kernel) rfl) hl.1 (Nat.le_of_ble_eq_true rfl) (Nat.le_of_ble_eq_true rfl) d_Disc_init_1 ?_
  refine lv_aload_n X.1 X.2.1 d_Disc_init_4 rfl (lv_at hl 0 rfl) ?_
  refine lv_bipush (v := nI 80) X.1 X.2.1 d_Disc_init_5 (by decide) ?_
  refine cn_newJ X hP hD hS 80 rfl (by decide) (Nat.le_of_ble_eq_true rfl) (Nat.le_of_ble_eq_true rfl) d_Disc_init_7 (fun q1 H hP hD hS => ?_)
  refine cn_put (ci := 0) (k := 0) X (by decide) rfl (by decide) (am_mem 111 (by decide +kernel) rfl) rfl rfl (Nat.le_of_ble_eq_true rfl) hP hD hS d_Disc_init_9 (fun H locs hP hD hS => ?_)
  have hP : va_P G.1 am_cl ((h0, .inr (0, [.ref q1, .null, .null, .int 0, .int 0, .int 0])) :: ([] ++ [(q1, eJ G.2.1 80)])) H := hP
  have hD : va_D A ((h0, .inr (0, [.ref q1, .null, .null, .int 0, .int 0, .int 0])) :: ([] ++ [(q1, eJ G.2.1 80)])) := hD
  refine lv_aload_n X.1 X.2.1 d_Disc_init_12 rfl (lv_at hl 0 rfl) ?_
  refine lv_bipush (v := nI 10) X.1 X.2.1 d_Disc_init_13 (by decide) ?_
  refine cn_newI X hP hD hS 10 rfl (by decide) (Nat.le_of_ble_eq_true rfl) (Nat.le_of_ble_eq_true rfl) d_Disc_init_15 (fun q2 H hP hD hS => ?_)
  refine cn_put (ci := 0) (k := 1) X (by decide) rfl (by decide) (am_mem 112 (by decide +kernel) rfl) rfl rfl (Nat.le_of_ble_eq_true rfl) hP hD hS d_Disc_init_17 (fun H locs hP hD hS => ?_)
  have hP : va_P G.1 am_cl ((h0, .inr (0, [.ref q1, .ref q2, .null, .int 0, .int 0, .int 0])) :: ([] ++ [(q1, eJ G.2.1 80)] ++ [(q2, eI G.2.1 10)])) H := hP
  have hD : va_D A ((h0, .inr (0, [.ref q1, .ref q2, .null, .int 0, .int 0, .int 0])) :: ([] ++ [(q1, eJ G.2.1 80)] ++ [(q2, eI G.2.1 10)])) := hD
  refine lv_aload_n X.1 X.2.1 d_Disc_init_20 rfl (lv_at hl 0 rfl) ?_
  refine lv_bipush (v := nI 10) X.1 X.2.1 d_Disc_init_21 (by decide) ?_
  refine cn_newI X hP hD hS 10 rfl (by decide) (Nat.le_of_ble_eq_true rfl) (Nat.le_of_ble_eq_true rfl) d_Disc_init_23 (fun q3 H hP hD hS => ?_)
  refine cn_put (ci := 0) (k := 2) X (by decide) rfl (by decide) (am_mem 114 (by decide +kernel) rfl) rfl rfl (Nat.le_of_ble_eq_true rfl) hP hD hS d_Disc_init_25 (fun H locs hP hD hS => ?_)
  have hP : va_P G.1 am_cl ((h0, .inr (0, [.ref q1, .ref q2, .ref q3, .int 0, .int 0, .int 0])) :: ([] ++ [(q1, eJ G.2.1 80)] ++ [(q2, eI G.2.1 10)] ++ [(q3, eI G.2.1 10)])) H := hP
  have hD : va_D A ((h0, .inr (0, [.ref q1, .ref q2, .ref q3, .int 0, .int 0, .int 0])) :: ([] ++ [(q1, eJ G.2.1 80)] ++ [(q2, eI G.2.1 10)] ++ [(q3, eI G.2.1 10)])) := hD
  refine lv_aload_n X.1 X.2.1 d_Disc_init_28 rfl (lv_at hl 0 rfl) ?_
  refine lv_iconst (v := 1) X.1 X.2.1 d_Disc_init_29 (by decide) ?_
  refine cn_put (ci := 0) (k := 3) X (by decide) rfl (by decide) (am_mem 116 (by decide +kernel) rfl) rfl rfl (Nat.le_of_ble_eq_true rfl) hP hD hS d_Disc_init_30 (fun H locs hP hD hS => ?_)
  have hP : va_P G.1 am_cl ((h0, .inr (0, [.ref q1, .ref q2, .ref q3, .int 1, .int 0, .int 0])) :: ([] ++ [(q1, eJ G.2.1 80)] ++ [(q2, eI G.2.1 10)] ++ [(q3, eI G.2.1 10)])) H := hP
  have hD : va_D A ((h0, .inr (0, [.ref q1, .ref q2, .ref q3, .int 1, .int 0, .int 0])) :: ([] ++ [(q1, eJ G.2.1 80)] ++ [(q2, eI G.2.1 10)] ++ [(q3, eI G.2.1 10)])) := hD
  refine lv_aload_n X.1 X.2.1 d_Disc_init_33 rfl (lv_at hl 0 rfl) ?_
  refine lv_iconst (v := 0) X.1 X.2.1 d_Disc_init_34 (by decide) ?_
  refine cn_put (ci := 0) (k := 4) X (by decide) rfl (by decide) (am_mem 119 (by decide +kernel) rfl) rfl rfl (Nat.le_of_ble_eq_true rfl) hP hD hS d_Disc_init_35 (fun H locs hP hD hS => ?_)
  have hP : va_P G.1 am_cl ((h0, .inr (0, [.ref q1, .ref q2, .ref q3, .int 1, .int 0, .int 0])) :: ([] ++ [(q1, eJ G.2.1 80)] ++ [(q2, eI G.2.1 10)] ++ [(q3, eI G.2.1 10)])) H := hP
  have hD : va_D A ((h0, .inr (0, [.ref q1, .ref q2, .ref q3, .int 1, .int 0, .int 0])) :: ([] ++ [(q1, eJ G.2.1 80)] ++ [(q2, eI G.2.1 10)] ++ [(q3, eI G.2.1 10)])) := hD
  refine lv_aload_n X.1 X.2.1 d_Disc_init_38 rfl (lv_at hl 0 rfl) ?_
  refine lv_iconst (v := 0) X.1 X.2.1 d_Disc_init_39 (by decide) ?_
  refine cn_put (ci := 0) (k := 5) X (by decide) rfl (by decide) (am_mem 122 (by decide +kernel) rfl) rfl rfl (Nat.le_of_ble_eq_true rfl) hP hD hS d_Disc_init_40 (fun H locs hP hD hS => ?_)
  have hP : va_P G.1 am_cl ((h0, .inr (0, [.ref q1, .ref q2, .ref q3, .int 1, .int 0, .int 0])) :: ([] ++ [(q1, eJ G.2.1 80)] ++ [(q2, eI G.2.1 10)] ++ [(q3, eI G.2.1 10)])) H := hP
  have hD : va_D A ((h0, .inr (0, [.ref q1, .ref q2, .ref q3, .int 1, .int 0, .int 0])) :: ([] ++ [(q1, eJ G.2.1 80)] ++ [(q2, eI G.2.1 10)] ++ [(q3, eI G.2.1 10)])) := hD
  exact fin _ _ _ 43 ls d_Disc_init_43 ⟨q1, q2, q3, rfl⟩ hP hD hS
abbrev y_Drive_init : MethodName := ⟨"WheelDisc$Drive", "<init>", "()V"⟩
theorem c_Drive_init : Cond.code y_Drive_init prog_3_method_1_code 1 none ∈ am_T := am_mem 265 (by decide +kernel) rfl
def rw_Drive_init : List (Nat × Instr × Nat) := [(0, .aload_n 0, 1), (1, .invokespecial 3, 3), (4, .aload_n 0, 1), (5, .sipush 2000, 3), (8, .newarray .int, 2), (10, .putfield 11, 3), (13, .aload_n 0, 1), (14, .sipush 2000, 3), (17, .newarray .int, 2), (19, .putfield 15, 3), (22, .aload_n 0, 1), (23, .sipush 2000, 3), (26, .newarray .int, 2), (28, .putfield 18, 3), (31, .aload_n 0, 1), (32, .sipush 512, 3), (35, .newarray .boolean, 2), (37, .putfield 21, 3), (40, .aload_n 0, 1), (41, .sipush 512, 3), (44, .newarray .boolean, 2), (46, .putfield 25, 3), (49, .aload_n 0, 1), (50, .iconst 0, 1), (51, .putfield 28, 3), (54, .aload_n 0, 1), (55, .iconst 0, 1), (56, .putfield 32, 3), (59, .aload_n 0, 1), (60, .iconst (-1), 1), (61, .putfield 35, 3), (64, .return_, 1)]
theorem ro_Drive_init : rw_Drive_init.all (fun r => decide (decode prog_3_method_1_code r.1 = .ok r.2)) = true := by decide +kernel
theorem d_Drive_init_0 : decode prog_3_method_1_code 0 = .ok (.aload_n 0, 1) := am_row (r := (0, .aload_n 0, 1)) ro_Drive_init 0 rfl
theorem d_Drive_init_1 : decode prog_3_method_1_code 1 = .ok (.invokespecial 3, 3) := am_row (r := (1, .invokespecial 3, 3)) ro_Drive_init 1 rfl
theorem d_Drive_init_4 : decode prog_3_method_1_code 4 = .ok (.aload_n 0, 1) := am_row (r := (4, .aload_n 0, 1)) ro_Drive_init 2 rfl
theorem d_Drive_init_5 : decode prog_3_method_1_code 5 = .ok (.sipush 2000, 3) := am_row (r := (5, .sipush 2000, 3)) ro_Drive_init 3 rfl
theorem d_Drive_init_8 : decode prog_3_method_1_code 8 = .ok (.newarray .int, 2) := am_row (r := (8, .newarray .int, 2)) ro_Drive_init 4 rfl
theorem d_Drive_init_10 : decode prog_3_method_1_code 10 = .ok (.putfield 11, 3) := am_row (r := (10, .putfield 11, 3)) ro_Drive_init 5 rfl
theorem d_Drive_init_13 : decode prog_3_method_1_code 13 = .ok (.aload_n 0, 1) := am_row (r := (13, .aload_n 0, 1)) ro_Drive_init 6 rfl
theorem d_Drive_init_14 : decode prog_3_method_1_code 14 = .ok (.sipush 2000, 3) := am_row (r := (14, .sipush 2000, 3)) ro_Drive_init 7 rfl
theorem d_Drive_init_17 : decode prog_3_method_1_code 17 = .ok (.newarray .int, 2) := am_row (r := (17, .newarray .int, 2)) ro_Drive_init 8 rfl
theorem d_Drive_init_19 : decode prog_3_method_1_code 19 = .ok (.putfield 15, 3) := am_row (r := (19, .putfield 15, 3)) ro_Drive_init 9 rfl
theorem d_Drive_init_22 : decode prog_3_method_1_code 22 = .ok (.aload_n 0, 1) := am_row (r := (22, .aload_n 0, 1)) ro_Drive_init 10 rfl
theorem d_Drive_init_23 : decode prog_3_method_1_code 23 = .ok (.sipush 2000, 3) := am_row (r := (23, .sipush 2000, 3)) ro_Drive_init 11 rfl
theorem d_Drive_init_26 : decode prog_3_method_1_code 26 = .ok (.newarray .int, 2) := am_row (r := (26, .newarray .int, 2)) ro_Drive_init 12 rfl
theorem d_Drive_init_28 : decode prog_3_method_1_code 28 = .ok (.putfield 18, 3) := am_row (r := (28, .putfield 18, 3)) ro_Drive_init 13 rfl
theorem d_Drive_init_31 : decode prog_3_method_1_code 31 = .ok (.aload_n 0, 1) := am_row (r := (31, .aload_n 0, 1)) ro_Drive_init 14 rfl
theorem d_Drive_init_32 : decode prog_3_method_1_code 32 = .ok (.sipush 512, 3) := am_row (r := (32, .sipush 512, 3)) ro_Drive_init 15 rfl
theorem d_Drive_init_35 : decode prog_3_method_1_code 35 = .ok (.newarray .boolean, 2) := am_row (r := (35, .newarray .boolean, 2)) ro_Drive_init 16 rfl
theorem d_Drive_init_37 : decode prog_3_method_1_code 37 = .ok (.putfield 21, 3) := am_row (r := (37, .putfield 21, 3)) ro_Drive_init 17 rfl
theorem d_Drive_init_40 : decode prog_3_method_1_code 40 = .ok (.aload_n 0, 1) := am_row (r := (40, .aload_n 0, 1)) ro_Drive_init 18 rfl
theorem d_Drive_init_41 : decode prog_3_method_1_code 41 = .ok (.sipush 512, 3) := am_row (r := (41, .sipush 512, 3)) ro_Drive_init 19 rfl
theorem d_Drive_init_44 : decode prog_3_method_1_code 44 = .ok (.newarray .boolean, 2) := am_row (r := (44, .newarray .boolean, 2)) ro_Drive_init 20 rfl
theorem d_Drive_init_46 : decode prog_3_method_1_code 46 = .ok (.putfield 25, 3) := am_row (r := (46, .putfield 25, 3)) ro_Drive_init 21 rfl
theorem d_Drive_init_49 : decode prog_3_method_1_code 49 = .ok (.aload_n 0, 1) := am_row (r := (49, .aload_n 0, 1)) ro_Drive_init 22 rfl
theorem d_Drive_init_50 : decode prog_3_method_1_code 50 = .ok (.iconst 0, 1) := am_row (r := (50, .iconst 0, 1)) ro_Drive_init 23 rfl
theorem d_Drive_init_51 : decode prog_3_method_1_code 51 = .ok (.putfield 28, 3) := am_row (r := (51, .putfield 28, 3)) ro_Drive_init 24 rfl
theorem d_Drive_init_54 : decode prog_3_method_1_code 54 = .ok (.aload_n 0, 1) := am_row (r := (54, .aload_n 0, 1)) ro_Drive_init 25 rfl
theorem d_Drive_init_55 : decode prog_3_method_1_code 55 = .ok (.iconst 0, 1) := am_row (r := (55, .iconst 0, 1)) ro_Drive_init 26 rfl
theorem d_Drive_init_56 : decode prog_3_method_1_code 56 = .ok (.putfield 32, 3) := am_row (r := (56, .putfield 32, 3)) ro_Drive_init 27 rfl
theorem d_Drive_init_59 : decode prog_3_method_1_code 59 = .ok (.aload_n 0, 1) := am_row (r := (59, .aload_n 0, 1)) ro_Drive_init 28 rfl
theorem d_Drive_init_60 : decode prog_3_method_1_code 60 = .ok (.iconst (-1), 1) := am_row (r := (60, .iconst (-1), 1)) ro_Drive_init 29 rfl
theorem d_Drive_init_61 : decode prog_3_method_1_code 61 = .ok (.putfield 35, 3) := am_row (r := (61, .putfield 35, 3)) ro_Drive_init 30 rfl
theorem d_Drive_init_64 : decode prog_3_method_1_code 64 = .ok (.return_, 1) := am_row (r := (64, .return_, 1)) ro_Drive_init 31 rfl
def is_Drive (G : am_G) (h0 : Nat) (w : va_W) : Prop := ∃ q1 q2 q3 q4 q5 : Nat, w = (h0, .inr (1, [.ref q1, .ref q2, .ref q3, .ref q4, .ref q5, .int 0, .int 0, .int (-1)])) :: ([] ++ [(q1, eI G.2.1 2000)] ++ [(q2, eI G.2.1 2000)] ++ [(q3, eI G.2.1 2000)] ++ [(q4, eZ G.2.1 512)] ++ [(q5, eZ G.2.1 512)])
def rm_Drive_init : Room := { frames := 1, cells := 5, slots := 7024, locals := 12 }
set_option maxRecDepth 100000 in
theorem k_Drive_init (l : Launch) (G : am_G) : cn_Met l G y_Drive_init prog_3_method_1_code 1 rm_Drive_init 1 [.null, .null, .null, .null, .null, .int 0, .int 0, .int 0] (is_Drive G) 5 7024 := by
  refine cn_ofW (by decide +kernel) rfl (by decide) (fun p e s m args below meth c h0 A ls X hl hP hD hS fin => ?_)
  refine lv_aload_n X.1 X.2.1 d_Drive_init_0 rfl (lv_at hl 0 rfl) ?_
  refine cn_obj X (am_mem 266 (by decide +kernel) rfl) hl.1 (Nat.le_of_ble_eq_true rfl) (Nat.le_of_ble_eq_true rfl) d_Drive_init_1 ?_
  refine lv_aload_n X.1 X.2.1 d_Drive_init_4 rfl (lv_at hl 0 rfl) ?_
  refine lv_sipush (v := nI 2000) X.1 X.2.1 d_Drive_init_5 (by decide) ?_
  refine cn_newI X hP hD hS 2000 rfl (by decide) (Nat.le_of_ble_eq_true rfl) (Nat.le_of_ble_eq_true rfl) d_Drive_init_8 (fun q1 H hP hD hS => ?_)
  refine cn_put (ci := 1) (k := 0) X (by decide) rfl (by decide) (am_mem 267 (by decide +kernel) rfl) rfl rfl (Nat.le_of_ble_eq_true rfl) hP hD hS d_Drive_init_10 (fun H locs hP hD hS => ?_)
  have hP : va_P G.1 am_cl ((h0, .inr (1, [.ref q1, .null, .null, .null, .null, .int 0, .int 0, .int 0])) :: ([] ++ [(q1, eI G.2.1 2000)])) H := hP
  have hD : va_D A ((h0, .inr (1, [.ref q1, .null, .null, .null, .null, .int 0, .int 0, .int 0])) :: ([] ++ [(q1, eI G.2.1 2000)])) := hD
  refine lv_aload_n X.1 X.2.1 d_Drive_init_13 rfl (lv_at hl 0 rfl) ?_
  refine lv_sipush (v := nI 2000) X.1 X.2.1 d_Drive_init_14 (by decide) ?_
  refine cn_newI X hP hD hS 2000 rfl (by decide) (Nat.le_of_ble_eq_true rfl) (Nat.le_of_ble_eq_true rfl) d_Drive_init_17 (fun q2 H hP hD hS => ?_)
  refine cn_put (ci := 1) (k := 1) X (by decide) rfl (by decide) (am_mem 268 (by decide +kernel) rfl) rfl rfl (Nat.le_of_ble_eq_true rfl) hP hD hS d_Drive_init_19 (fun H locs hP hD hS => ?_)
  have hP : va_P G.1 am_cl ((h0, .inr (1, [.ref q1, .ref q2, .null, .null, .null, .int 0, .int 0, .int 0])) :: ([] ++ [(q1, eI G.2.1 2000)] ++ [(q2, eI G.2.1 2000)])) H := hP
  have hD : va_D A ((h0, .inr (1, [.ref q1, .ref q2, .null, .null, .null, .int 0, .int 0, .int 0])) :: ([] ++ [(q1, eI G.2.1 2000)] ++ [(q2, eI G.2.1 2000)])) := hD
  refine lv_aload_n X.1 X.2.1 d_Drive_init_22 rfl (lv_at hl 0 rfl) ?_
  refine lv_sipush (v := nI 2000) X.1 X.2.1 d_Drive_init_23 (by decide) ?_
  refine cn_newI X hP hD hS 2000 rfl (by decide) (Nat.le_of_ble_eq_true rfl) (Nat.le_of_ble_eq_true rfl) d_Drive_init_26 (fun q3 H hP hD hS => ?_)
  refine cn_put (ci := 1) (k := 2) X (by decide) rfl (by decide) (am_mem 270 (by decide +kernel) rfl) rfl rfl (Nat.le_of_ble_eq_true rfl) hP hD hS d_Drive_init_28 (fun H locs hP hD hS => ?_)
  have hP : va_P G.1 am_cl ((h0, .inr (1, [.ref q1, .ref q2, .ref q3, .null, .null, .int 0, .int 0, .int 0])) :: ([] ++ [(q1, eI G.2.1 2000)] ++ [(q2, eI G.2.1 2000)] ++ [(q3, eI G.2.1 2000)])) H := hP
  have hD : va_D A ((h0, .inr (1, [.ref q1, .ref q2, .ref q3, .null, .null, .int 0, .int 0, .int 0])) :: ([] ++ [(q1, eI G.2.1 2000)] ++ [(q2, eI G.2.1 2000)] ++ [(q3, eI G.2.1 2000)])) := hD
  refine lv_aload_n X.1 X.2.1 d_Drive_init_31 rfl (lv_at hl 0 rfl) ?_
  refine lv_sipush (v := nI 512) X.1 X.2.1 d_Drive_init_32 (by decide) ?_
  refine cn_newZ X hP hD hS 512 rfl (by decide) (Nat.le_of_ble_eq_true rfl) (Nat.le_of_ble_eq_true rfl) d_Drive_init_35 (fun q4 H hP hD hS => ?_)
  refine cn_put (ci := 1) (k := 3) X (by decide) rfl (by decide) (am_mem 272 (by decide +kernel) rfl) rfl rfl (Nat.le_of_ble_eq_true rfl) hP hD hS d_Drive_init_37 (fun H locs hP hD hS => ?_)
  have hP : va_P G.1 am_cl ((h0, .inr (1, [.ref q1, .ref q2, .ref q3, .ref q4, .null, .int 0, .int 0, .int 0])) :: ([] ++ [(q1, eI G.2.1 2000)] ++ [(q2, eI G.2.1 2000)] ++ [(q3, eI G.2.1 2000)] ++ [(q4, eZ G.2.1 512)])) H := hP
  have hD : va_D A ((h0, .inr (1, [.ref q1, .ref q2, .ref q3, .ref q4, .null, .int 0, .int 0, .int 0])) :: ([] ++ [(q1, eI G.2.1 2000)] ++ [(q2, eI G.2.1 2000)] ++ [(q3, eI G.2.1 2000)] ++ [(q4, eZ G.2.1 512)])) := hD
  refine lv_aload_n X.1 X.2.1 d_Drive_init_40 rfl (lv_at hl 0 rfl) ?_
  refine lv_sipush (v := nI 512) X.1 X.2.1 d_Drive_init_41 (by decide) ?_
  refine cn_newZ X hP hD hS 512 rfl (by decide) (Nat.le_of_ble_eq_true rfl) (Nat.le_of_ble_eq_true rfl) d_Drive_init_44 (fun q5 H hP hD hS => ?_)
  refine cn_put (ci := 1) (k := 4) X (by decide) rfl (by decide) (am_mem 273 (by decide +kernel) rfl) rfl rfl (Nat.le_of_ble_eq_true rfl) hP hD hS d_Drive_init_46 (fun H locs hP hD hS => ?_)
  have hP : va_P G.1 am_cl ((h0, .inr (1, [.ref q1, .ref q2, .ref q3, .ref q4, .ref q5, .int 0, .int 0, .int 0])) :: ([] ++ [(q1, eI G.2.1 2000)] ++ [(q2, eI G.2.1 2000)] ++ [(q3, eI G.2.1 2000)] ++ [(q4, eZ G.2.1 512)] ++ [(q5, eZ G.2.1 512)])) H := hP
  have hD : va_D A ((h0, .inr (1, [.ref q1, .ref q2, .ref q3, .ref q4, .ref q5, .int 0, .int 0, .int 0])) :: ([] ++ [(q1, eI G.2.1 2000)] ++ [(q2, eI G.2.1 2000)] ++ [(q3, eI G.2.1 2000)] ++ [(q4, eZ G.2.1 512)] ++ [(q5, eZ G.2.1 512)])) := hD
  refine lv_aload_n X.1 X.2.1 d_Drive_init_49 rfl (lv_at hl 0 rfl) ?_
  refine lv_iconst (v := 0) X.1 X.2.1 d_Drive_init_50 (by decide) ?_
  refine cn_put (ci := 1) (k := 5) X (by decide) rfl (by decide) (am_mem 274 (by decide +kernel) rfl) rfl rfl (Nat.le_of_ble_eq_true rfl) hP hD hS d_Drive_init_51 (fun H locs hP hD hS => ?_)
  have hP : va_P G.1 am_cl ((h0, .inr (1, [.ref q1, .ref q2, .ref q3, .ref q4, .ref q5, .int 0, .int 0, .int 0])) :: ([] ++ [(q1, eI G.2.1 2000)] ++ [(q2, eI G.2.1 2000)] ++ [(q3, eI G.2.1 2000)] ++ [(q4, eZ G.2.1 512)] ++ [(q5, eZ G.2.1 512)])) H := hP
  have hD : va_D A ((h0, .inr (1, [.ref q1, .ref q2, .ref q3, .ref q4, .ref q5, .int 0, .int 0, .int 0])) :: ([] ++ [(q1, eI G.2.1 2000)] ++ [(q2, eI G.2.1 2000)] ++ [(q3, eI G.2.1 2000)] ++ [(q4, eZ G.2.1 512)] ++ [(q5, eZ G.2.1 512)])) := hD
  refine lv_aload_n X.1 X.2.1 d_Drive_init_54 rfl (lv_at hl 0 rfl) ?_
  refine lv_iconst (v := 0) X.1 X.2.1 d_Drive_init_55 (by decide) ?_
  refine cn_put (ci := 1) (k := 6) X (by decide) rfl (by decide) (am_mem 276 (by decide +kernel) rfl) rfl rfl (Nat.le_of_ble_eq_true rfl) hP hD hS d_Drive_init_56 (fun H locs hP hD hS => ?_)
  have hP : va_P G.1 am_cl ((h0, .inr (1, [.ref q1, .ref q2, .ref q3, .ref q4, .ref q5, .int 0, .int 0, .int 0])) :: ([] ++ [(q1, eI G.2.1 2000)] ++ [(q2, eI G.2.1 2000)] ++ [(q3, eI G.2.1 2000)] ++ [(q4, eZ G.2.1 512)] ++ [(q5, eZ G.2.1 512)])) H := hP
  have hD : va_D A ((h0, .inr (1, [.ref q1, .ref q2, .ref q3, .ref q4, .ref q5, .int 0, .int 0, .int 0])) :: ([] ++ [(q1, eI G.2.1 2000)] ++ [(q2, eI G.2.1 2000)] ++ [(q3, eI G.2.1 2000)] ++ [(q4, eZ G.2.1 512)] ++ [(q5, eZ G.2.1 512)])) := hD
  refine lv_aload_n X.1 X.2.1 d_Drive_init_59 rfl (lv_at hl 0 rfl) ?_
  refine lv_iconst (v := (-1)) X.1 X.2.1 d_Drive_init_60 (by decide) ?_
  refine cn_put (ci := 1) (k := 7) X (by decide) rfl (by decide) (am_mem 277 (by decide +kernel) rfl) rfl rfl (Nat.le_of_ble_eq_true rfl) hP hD hS d_Drive_init_61 (fun H locs hP hD hS => ?_)
  have hP : va_P G.1 am_cl ((h0, .inr (1, [.ref q1, .ref q2, .ref q3, .ref q4, .ref q5, .int 0, .int 0, .int (-1)])) :: ([] ++ [(q1, eI G.2.1 2000)] ++ [(q2, eI G.2.1 2000)] ++ [(q3, eI G.2.1 2000)] ++ [(q4, eZ G.2.1 512)] ++ [(q5, eZ G.2.1 512)])) H := hP
  have hD : va_D A ((h0, .inr (1, [.ref q1, .ref q2, .ref q3, .ref q4, .ref q5, .int 0, .int 0, .int (-1)])) :: ([] ++ [(q1, eI G.2.1 2000)] ++ [(q2, eI G.2.1 2000)] ++ [(q3, eI G.2.1 2000)] ++ [(q4, eZ G.2.1 512)] ++ [(q5, eZ G.2.1 512)])) := hD
  exact fin _ _ _ 64 ls d_Drive_init_64 ⟨q1, q2, q3, q4, q5, rfl⟩ hP hD hS
abbrev y_Form_init : MethodName := ⟨"WheelDisc$Form", "<init>", "()V"⟩
theorem c_Form_init : Cond.code y_Form_init prog_4_method_1_code 1 none ∈ am_T := am_mem 202 (by decide +kernel) rfl
def rw_Form_init : List (Nat × Instr × Nat) := [(0, .aload_n 0, 1), (1, .invokespecial 3, 3), (4, .aload_n 0, 1), (5, .sipush 512, 3), (8, .newarray .int, 2), (10, .putfield 9, 3), (13, .aload_n 0, 1), (14, .bipush 10, 2), (16, .newarray .int, 2), (18, .putfield 15, 3), (21, .aload_n 0, 1), (22, .bipush 10, 2), (24, .newarray .boolean, 2), (26, .putfield 18, 3), (29, .aload_n 0, 1), (30, .iconst 0, 1), (31, .putfield 22, 3), (34, .aload_n 0, 1), (35, .iconst 0, 1), (36, .putfield 26, 3), (39, .aload_n 0, 1), (40, .iconst 1, 1), (41, .putfield 29, 3), (44, .return_, 1)]
theorem ro_Form_init : rw_Form_init.all (fun r => decide (decode prog_4_method_1_code r.1 = .ok r.2)) = true := by decide +kernel
theorem d_Form_init_0 : decode prog_4_method_1_code 0 = .ok (.aload_n 0, 1) := am_row (r := (0, .aload_n 0, 1)) ro_Form_init 0 rfl
theorem d_Form_init_1 : decode prog_4_method_1_code 1 = .ok (.invokespecial 3, 3) := am_row (r := (1, .invokespecial 3, 3)) ro_Form_init 1 rfl
theorem d_Form_init_4 : decode prog_4_method_1_code 4 = .ok (.aload_n 0, 1) := am_row (r := (4, .aload_n 0, 1)) ro_Form_init 2 rfl
theorem d_Form_init_5 : decode prog_4_method_1_code 5 = .ok (.sipush 512, 3) := am_row (r := (5, .sipush 512, 3)) ro_Form_init 3 rfl
theorem d_Form_init_8 : decode prog_4_method_1_code 8 = .ok (.newarray .int, 2) := am_row (r := (8, .newarray .int, 2)) ro_Form_init 4 rfl
theorem d_Form_init_10 : decode prog_4_method_1_code 10 = .ok (.putfield 9, 3) := am_row (r := (10, .putfield 9, 3)) ro_Form_init 5 rfl
theorem d_Form_init_13 : decode prog_4_method_1_code 13 = .ok (.aload_n 0, 1) := am_row (r := (13, .aload_n 0, 1)) ro_Form_init 6 rfl
theorem d_Form_init_14 : decode prog_4_method_1_code 14 = .ok (.bipush 10, 2) := am_row (r := (14, .bipush 10, 2)) ro_Form_init 7 rfl
theorem d_Form_init_16 : decode prog_4_method_1_code 16 = .ok (.newarray .int, 2) := am_row (r := (16, .newarray .int, 2)) ro_Form_init 8 rfl
theorem d_Form_init_18 : decode prog_4_method_1_code 18 = .ok (.putfield 15, 3) := am_row (r := (18, .putfield 15, 3)) ro_Form_init 9 rfl
theorem d_Form_init_21 : decode prog_4_method_1_code 21 = .ok (.aload_n 0, 1) := am_row (r := (21, .aload_n 0, 1)) ro_Form_init 10 rfl
theorem d_Form_init_22 : decode prog_4_method_1_code 22 = .ok (.bipush 10, 2) := am_row (r := (22, .bipush 10, 2)) ro_Form_init 11 rfl
theorem d_Form_init_24 : decode prog_4_method_1_code 24 = .ok (.newarray .boolean, 2) := am_row (r := (24, .newarray .boolean, 2)) ro_Form_init 12 rfl
theorem d_Form_init_26 : decode prog_4_method_1_code 26 = .ok (.putfield 18, 3) := am_row (r := (26, .putfield 18, 3)) ro_Form_init 13 rfl
theorem d_Form_init_29 : decode prog_4_method_1_code 29 = .ok (.aload_n 0, 1) := am_row (r := (29, .aload_n 0, 1)) ro_Form_init 14 rfl
theorem d_Form_init_30 : decode prog_4_method_1_code 30 = .ok (.iconst 0, 1) := am_row (r := (30, .iconst 0, 1)) ro_Form_init 15 rfl
theorem d_Form_init_31 : decode prog_4_method_1_code 31 = .ok (.putfield 22, 3) := am_row (r := (31, .putfield 22, 3)) ro_Form_init 16 rfl
theorem d_Form_init_34 : decode prog_4_method_1_code 34 = .ok (.aload_n 0, 1) := am_row (r := (34, .aload_n 0, 1)) ro_Form_init 17 rfl
theorem d_Form_init_35 : decode prog_4_method_1_code 35 = .ok (.iconst 0, 1) := am_row (r := (35, .iconst 0, 1)) ro_Form_init 18 rfl
theorem d_Form_init_36 : decode prog_4_method_1_code 36 = .ok (.putfield 26, 3) := am_row (r := (36, .putfield 26, 3)) ro_Form_init 19 rfl
theorem d_Form_init_39 : decode prog_4_method_1_code 39 = .ok (.aload_n 0, 1) := am_row (r := (39, .aload_n 0, 1)) ro_Form_init 20 rfl
theorem d_Form_init_40 : decode prog_4_method_1_code 40 = .ok (.iconst 1, 1) := am_row (r := (40, .iconst 1, 1)) ro_Form_init 21 rfl
theorem d_Form_init_41 : decode prog_4_method_1_code 41 = .ok (.putfield 29, 3) := am_row (r := (41, .putfield 29, 3)) ro_Form_init 22 rfl
theorem d_Form_init_44 : decode prog_4_method_1_code 44 = .ok (.return_, 1) := am_row (r := (44, .return_, 1)) ro_Form_init 23 rfl
def is_Form (G : am_G) (h0 : Nat) (w : va_W) : Prop := ∃ q1 q2 q3 : Nat, w = (h0, .inr (2, [.ref q1, .ref q2, .ref q3, .int 0, .int 0, .int 1])) :: ([] ++ [(q1, eI G.2.1 512)] ++ [(q2, eI G.2.1 10)] ++ [(q3, eZ G.2.1 10)])
def rm_Form_init : Room := { frames := 1, cells := 3, slots := 532, locals := 12 }
set_option maxRecDepth 100000 in
theorem k_Form_init (l : Launch) (G : am_G) : cn_Met l G y_Form_init prog_4_method_1_code 1 rm_Form_init 2 [.null, .null, .null, .int 0, .int 0, .int 0] (is_Form G) 3 532 := by
  refine cn_ofW (by decide +kernel) rfl (by decide) (fun p e s m args below meth c h0 A ls X hl hP hD hS fin => ?_)
  refine lv_aload_n X.1 X.2.1 d_Form_init_0 rfl (lv_at hl 0 rfl) ?_
  refine cn_obj X (am_mem 203 (by decide +kernel) rfl) hl.1 (Nat.le_of_ble_eq_true rfl) (Nat.le_of_ble_eq_true rfl) d_Form_init_1 ?_
  refine lv_aload_n X.1 X.2.1 d_Form_init_4 rfl (lv_at hl 0 rfl) ?_
  refine lv_sipush (v := nI 512) X.1 X.2.1 d_Form_init_5 (by decide) ?_
  refine cn_newI X hP hD hS 512 rfl (by decide) (Nat.le_of_ble_eq_true rfl) (Nat.le_of_ble_eq_true rfl) d_Form_init_8 (fun q1 H hP hD hS => ?_)
  refine cn_put (ci := 2) (k := 0) X (by decide) rfl (by decide) (am_mem 204 (by decide +kernel) rfl) rfl rfl (Nat.le_of_ble_eq_true rfl) hP hD hS d_Form_init_10 (fun H locs hP hD hS => ?_)
  have hP : va_P G.1 am_cl ((h0, .inr (2, [.ref q1, .null, .null, .int 0, .int 0, .int 0])) :: ([] ++ [(q1, eI G.2.1 512)])) H := hP
  have hD : va_D A ((h0, .inr (2, [.ref q1, .null, .null, .int 0, .int 0, .int 0])) :: ([] ++ [(q1, eI G.2.1 512)])) := hD
  refine lv_aload_n X.1 X.2.1 d_Form_init_13 rfl (lv_at hl 0 rfl) ?_
  refine lv_bipush (v := nI 10) X.1 X.2.1 d_Form_init_14 (by decide) ?_
  refine cn_newI X hP hD hS 10 rfl (by decide) (Nat.le_of_ble_eq_true rfl) (Nat.le_of_ble_eq_true rfl) d_Form_init_16 (fun q2 H hP hD hS => ?_)
  refine cn_put (ci := 2) (k := 1) X (by decide) rfl (by decide) (am_mem 206 (by decide +kernel) rfl) rfl rfl (Nat.le_of_ble_eq_true rfl) hP hD hS d_Form_init_18 (fun H locs hP hD hS => ?_)
  have hP : va_P G.1 am_cl ((h0, .inr (2, [.ref q1, .ref q2, .null, .int 0, .int 0, .int 0])) :: ([] ++ [(q1, eI G.2.1 512)] ++ [(q2, eI G.2.1 10)])) H := hP
  have hD : va_D A ((h0, .inr (2, [.ref q1, .ref q2, .null, .int 0, .int 0, .int 0])) :: ([] ++ [(q1, eI G.2.1 512)] ++ [(q2, eI G.2.1 10)])) := hD
  refine lv_aload_n X.1 X.2.1 d_Form_init_21 rfl (lv_at hl 0 rfl) ?_
  refine lv_bipush (v := nI 10) X.1 X.2.1 d_Form_init_22 (by decide) ?_
  refine cn_newZ X hP hD hS 10 rfl (by decide) (Nat.le_of_ble_eq_true rfl) (Nat.le_of_ble_eq_true rfl) d_Form_init_24 (fun q3 H hP hD hS => ?_)
  refine cn_put (ci := 2) (k := 2) X (by decide) rfl (by decide) (am_mem 207 (by decide +kernel) rfl) rfl rfl (Nat.le_of_ble_eq_true rfl) hP hD hS d_Form_init_26 (fun H locs hP hD hS => ?_)
  have hP : va_P G.1 am_cl ((h0, .inr (2, [.ref q1, .ref q2, .ref q3, .int 0, .int 0, .int 0])) :: ([] ++ [(q1, eI G.2.1 512)] ++ [(q2, eI G.2.1 10)] ++ [(q3, eZ G.2.1 10)])) H := hP
  have hD : va_D A ((h0, .inr (2, [.ref q1, .ref q2, .ref q3, .int 0, .int 0, .int 0])) :: ([] ++ [(q1, eI G.2.1 512)] ++ [(q2, eI G.2.1 10)] ++ [(q3, eZ G.2.1 10)])) := hD
  refine lv_aload_n X.1 X.2.1 d_Form_init_29 rfl (lv_at hl 0 rfl) ?_
  refine lv_iconst (v := 0) X.1 X.2.1 d_Form_init_30 (by decide) ?_
  refine cn_put (ci := 2) (k := 3) X (by decide) rfl (by decide) (am_mem 208 (by decide +kernel) rfl) rfl rfl (Nat.le_of_ble_eq_true rfl) hP hD hS d_Form_init_31 (fun H locs hP hD hS => ?_)
  have hP : va_P G.1 am_cl ((h0, .inr (2, [.ref q1, .ref q2, .ref q3, .int 0, .int 0, .int 0])) :: ([] ++ [(q1, eI G.2.1 512)] ++ [(q2, eI G.2.1 10)] ++ [(q3, eZ G.2.1 10)])) H := hP
  have hD : va_D A ((h0, .inr (2, [.ref q1, .ref q2, .ref q3, .int 0, .int 0, .int 0])) :: ([] ++ [(q1, eI G.2.1 512)] ++ [(q2, eI G.2.1 10)] ++ [(q3, eZ G.2.1 10)])) := hD
  refine lv_aload_n X.1 X.2.1 d_Form_init_34 rfl (lv_at hl 0 rfl) ?_
  refine lv_iconst (v := 0) X.1 X.2.1 d_Form_init_35 (by decide) ?_
  refine cn_put (ci := 2) (k := 4) X (by decide) rfl (by decide) (am_mem 209 (by decide +kernel) rfl) rfl rfl (Nat.le_of_ble_eq_true rfl) hP hD hS d_Form_init_36 (fun H locs hP hD hS => ?_)
  have hP : va_P G.1 am_cl ((h0, .inr (2, [.ref q1, .ref q2, .ref q3, .int 0, .int 0, .int 0])) :: ([] ++ [(q1, eI G.2.1 512)] ++ [(q2, eI G.2.1 10)] ++ [(q3, eZ G.2.1 10)])) H := hP
  have hD : va_D A ((h0, .inr (2, [.ref q1, .ref q2, .ref q3, .int 0, .int 0, .int 0])) :: ([] ++ [(q1, eI G.2.1 512)] ++ [(q2, eI G.2.1 10)] ++ [(q3, eZ G.2.1 10)])) := hD
  refine lv_aload_n X.1 X.2.1 d_Form_init_39 rfl (lv_at hl 0 rfl) ?_
  refine lv_iconst (v := 1) X.1 X.2.1 d_Form_init_40 (by decide) ?_
  refine cn_put (ci := 2) (k := 5) X (by decide) rfl (by decide) (am_mem 210 (by decide +kernel) rfl) rfl rfl (Nat.le_of_ble_eq_true rfl) hP hD hS d_Form_init_41 (fun H locs hP hD hS => ?_)
  have hP : va_P G.1 am_cl ((h0, .inr (2, [.ref q1, .ref q2, .ref q3, .int 0, .int 0, .int 1])) :: ([] ++ [(q1, eI G.2.1 512)] ++ [(q2, eI G.2.1 10)] ++ [(q3, eZ G.2.1 10)])) H := hP
  have hD : va_D A ((h0, .inr (2, [.ref q1, .ref q2, .ref q3, .int 0, .int 0, .int 1])) :: ([] ++ [(q1, eI G.2.1 512)] ++ [(q2, eI G.2.1 10)] ++ [(q3, eZ G.2.1 10)])) := hD
  exact fin _ _ _ 44 ls d_Form_init_44 ⟨q1, q2, q3, rfl⟩ hP hD hS
abbrev y_Marks_init : MethodName := ⟨"WheelDisc$Marks", "<init>", "()V"⟩
theorem c_Marks_init : Cond.code y_Marks_init prog_7_method_1_code 1 none ∈ am_T := am_mem 169 (by decide +kernel) rfl
def rw_Marks_init : List (Nat × Instr × Nat) := [(0, .aload_n 0, 1), (1, .invokespecial 3, 3), (4, .aload_n 0, 1), (5, .bipush 16, 2), (7, .newarray .long, 2), (9, .putfield 9, 3), (12, .return_, 1)]
theorem ro_Marks_init : rw_Marks_init.all (fun r => decide (decode prog_7_method_1_code r.1 = .ok r.2)) = true := by decide +kernel
theorem d_Marks_init_0 : decode prog_7_method_1_code 0 = .ok (.aload_n 0, 1) := am_row (r := (0, .aload_n 0, 1)) ro_Marks_init 0 rfl
theorem d_Marks_init_1 : decode prog_7_method_1_code 1 = .ok (.invokespecial 3, 3) := am_row (r := (1, .invokespecial 3, 3)) ro_Marks_init 1 rfl
theorem d_Marks_init_4 : decode prog_7_method_1_code 4 = .ok (.aload_n 0, 1) := am_row (r := (4, .aload_n 0, 1)) ro_Marks_init 2 rfl
theorem d_Marks_init_5 : decode prog_7_method_1_code 5 = .ok (.bipush 16, 2) := am_row (r := (5, .bipush 16, 2)) ro_Marks_init 3 rfl
theorem d_Marks_init_7 : decode prog_7_method_1_code 7 = .ok (.newarray .long, 2) := am_row (r := (7, .newarray .long, 2)) ro_Marks_init 4 rfl
theorem d_Marks_init_9 : decode prog_7_method_1_code 9 = .ok (.putfield 9, 3) := am_row (r := (9, .putfield 9, 3)) ro_Marks_init 5 rfl
theorem d_Marks_init_12 : decode prog_7_method_1_code 12 = .ok (.return_, 1) := am_row (r := (12, .return_, 1)) ro_Marks_init 6 rfl
def is_Marks (G : am_G) (h0 : Nat) (w : va_W) : Prop := ∃ q1 : Nat, w = (h0, .inr (4, [.ref q1])) :: ([] ++ [(q1, eJ G.2.1 16)])
def rm_Marks_init : Room := { frames := 1, cells := 1, slots := 16, locals := 12 }
set_option maxRecDepth 100000 in
theorem k_Marks_init (l : Launch) (G : am_G) : cn_Met l G y_Marks_init prog_7_method_1_code 1 rm_Marks_init 4 [.null] (is_Marks G) 1 16 := by
  refine cn_ofW (by decide +kernel) rfl (by decide) (fun p e s m args below meth c h0 A ls X hl hP hD hS fin => ?_)
  refine lv_aload_n X.1 X.2.1 d_Marks_init_0 rfl (lv_at hl 0 rfl) ?_
  refine cn_obj X (am_mem 170 (by decide +kernel) rfl) hl.1 (Nat.le_of_ble_eq_true rfl) (Nat.le_of_ble_eq_true rfl) d_Marks_init_1 ?_
  refine lv_aload_n X.1 X.2.1 d_Marks_init_4 rfl (lv_at hl 0 rfl) ?_
  refine lv_bipush (v := nI 16) X.1 X.2.1 d_Marks_init_5 (by decide) ?_
  refine cn_newJ X hP hD hS 16 rfl (by decide) (Nat.le_of_ble_eq_true rfl) (Nat.le_of_ble_eq_true rfl) d_Marks_init_7 (fun q1 H hP hD hS => ?_)
  refine cn_put (ci := 4) (k := 0) X (by decide) rfl (by decide) (am_mem 171 (by decide +kernel) rfl) rfl rfl (Nat.le_of_ble_eq_true rfl) hP hD hS d_Marks_init_9 (fun H locs hP hD hS => ?_)
  have hP : va_P G.1 am_cl ((h0, .inr (4, [.ref q1])) :: ([] ++ [(q1, eJ G.2.1 16)])) H := hP
  have hD : va_D A ((h0, .inr (4, [.ref q1])) :: ([] ++ [(q1, eJ G.2.1 16)])) := hD
  exact fin _ _ _ 12 ls d_Marks_init_12 ⟨q1, rfl⟩ hP hD hS
abbrev y_Rim_init : MethodName := ⟨"WheelDisc$Rim", "<init>", "()V"⟩
theorem c_Rim_init : Cond.code y_Rim_init prog_8_method_1_code 1 none ∈ am_T := am_mem 90 (by decide +kernel) rfl
def rw_Rim_init : List (Nat × Instr × Nat) := [(0, .aload_n 0, 1), (1, .invokespecial 1, 3), (4, .aload_n 0, 1), (5, .bipush 64, 2), (7, .newarray .long, 2), (9, .putfield 9, 3), (12, .aload_n 0, 1), (13, .iconst (-1), 1), (14, .putfield 13, 3), (17, .aload_n 0, 1), (18, .iconst 0, 1), (19, .putfield 17, 3), (22, .return_, 1)]
theorem ro_Rim_init : rw_Rim_init.all (fun r => decide (decode prog_8_method_1_code r.1 = .ok r.2)) = true := by decide +kernel
theorem d_Rim_init_0 : decode prog_8_method_1_code 0 = .ok (.aload_n 0, 1) := am_row (r := (0, .aload_n 0, 1)) ro_Rim_init 0 rfl
theorem d_Rim_init_1 : decode prog_8_method_1_code 1 = .ok (.invokespecial 1, 3) := am_row (r := (1, .invokespecial 1, 3)) ro_Rim_init 1 rfl
theorem d_Rim_init_4 : decode prog_8_method_1_code 4 = .ok (.aload_n 0, 1) := am_row (r := (4, .aload_n 0, 1)) ro_Rim_init 2 rfl
theorem d_Rim_init_5 : decode prog_8_method_1_code 5 = .ok (.bipush 64, 2) := am_row (r := (5, .bipush 64, 2)) ro_Rim_init 3 rfl
theorem d_Rim_init_7 : decode prog_8_method_1_code 7 = .ok (.newarray .long, 2) := am_row (r := (7, .newarray .long, 2)) ro_Rim_init 4 rfl
theorem d_Rim_init_9 : decode prog_8_method_1_code 9 = .ok (.putfield 9, 3) := am_row (r := (9, .putfield 9, 3)) ro_Rim_init 5 rfl
theorem d_Rim_init_12 : decode prog_8_method_1_code 12 = .ok (.aload_n 0, 1) := am_row (r := (12, .aload_n 0, 1)) ro_Rim_init 6 rfl
theorem d_Rim_init_13 : decode prog_8_method_1_code 13 = .ok (.iconst (-1), 1) := am_row (r := (13, .iconst (-1), 1)) ro_Rim_init 7 rfl
theorem d_Rim_init_14 : decode prog_8_method_1_code 14 = .ok (.putfield 13, 3) := am_row (r := (14, .putfield 13, 3)) ro_Rim_init 8 rfl
theorem d_Rim_init_17 : decode prog_8_method_1_code 17 = .ok (.aload_n 0, 1) := am_row (r := (17, .aload_n 0, 1)) ro_Rim_init 9 rfl
theorem d_Rim_init_18 : decode prog_8_method_1_code 18 = .ok (.iconst 0, 1) := am_row (r := (18, .iconst 0, 1)) ro_Rim_init 10 rfl
theorem d_Rim_init_19 : decode prog_8_method_1_code 19 = .ok (.putfield 17, 3) := am_row (r := (19, .putfield 17, 3)) ro_Rim_init 11 rfl
theorem d_Rim_init_22 : decode prog_8_method_1_code 22 = .ok (.return_, 1) := am_row (r := (22, .return_, 1)) ro_Rim_init 12 rfl
def is_Rim (G : am_G) (h0 : Nat) (w : va_W) : Prop := ∃ q1 : Nat, w = (h0, .inr (5, [.ref q1, .int (-1), .int 0])) :: ([] ++ [(q1, eJ G.2.1 64)])
def rm_Rim_init : Room := { frames := 1, cells := 1, slots := 64, locals := 12 }
set_option maxRecDepth 100000 in
theorem k_Rim_init (l : Launch) (G : am_G) : cn_Met l G y_Rim_init prog_8_method_1_code 1 rm_Rim_init 5 [.null, .int 0, .int 0] (is_Rim G) 1 64 := by
  refine cn_ofW (by decide +kernel) rfl (by decide) (fun p e s m args below meth c h0 A ls X hl hP hD hS fin => ?_)
  refine lv_aload_n X.1 X.2.1 d_Rim_init_0 rfl (lv_at hl 0 rfl) ?_
  refine cn_obj X (am_mem 91 (by decide +kernel) rfl) hl.1 (Nat.le_of_ble_eq_true rfl) (Nat.le_of_ble_eq_true rfl) d_Rim_init_1 ?_
  refine lv_aload_n X.1 X.2.1 d_Rim_init_4 rfl (lv_at hl 0 rfl) ?_
  refine lv_bipush (v := nI 64) X.1 X.2.1 d_Rim_init_5 (by decide) ?_
  refine cn_newJ X hP hD hS 64 rfl (by decide) (Nat.le_of_ble_eq_true rfl) (Nat.le_of_ble_eq_true rfl) d_Rim_init_7 (fun q1 H hP hD hS => ?_)
  refine cn_put (ci := 5) (k := 0) X (by decide) rfl (by decide) (am_mem 92 (by decide +kernel) rfl) rfl rfl (Nat.le_of_ble_eq_true rfl) hP hD hS d_Rim_init_9 (fun H locs hP hD hS => ?_)
  have hP : va_P G.1 am_cl ((h0, .inr (5, [.ref q1, .int 0, .int 0])) :: ([] ++ [(q1, eJ G.2.1 64)])) H := hP
  have hD : va_D A ((h0, .inr (5, [.ref q1, .int 0, .int 0])) :: ([] ++ [(q1, eJ G.2.1 64)])) := hD
  refine lv_aload_n X.1 X.2.1 d_Rim_init_12 rfl (lv_at hl 0 rfl) ?_
  refine lv_iconst (v := (-1)) X.1 X.2.1 d_Rim_init_13 (by decide) ?_
  refine cn_put (ci := 5) (k := 1) X (by decide) rfl (by decide) (am_mem 94 (by decide +kernel) rfl) rfl rfl (Nat.le_of_ble_eq_true rfl) hP hD hS d_Rim_init_14 (fun H locs hP hD hS => ?_)
  have hP : va_P G.1 am_cl ((h0, .inr (5, [.ref q1, .int (-1), .int 0])) :: ([] ++ [(q1, eJ G.2.1 64)])) H := hP
  have hD : va_D A ((h0, .inr (5, [.ref q1, .int (-1), .int 0])) :: ([] ++ [(q1, eJ G.2.1 64)])) := hD
  refine lv_aload_n X.1 X.2.1 d_Rim_init_17 rfl (lv_at hl 0 rfl) ?_
  refine lv_iconst (v := 0) X.1 X.2.1 d_Rim_init_18 (by decide) ?_
  refine cn_put (ci := 5) (k := 2) X (by decide) rfl (by decide) (am_mem 95 (by decide +kernel) rfl) rfl rfl (Nat.le_of_ble_eq_true rfl) hP hD hS d_Rim_init_19 (fun H locs hP hD hS => ?_)
  have hP : va_P G.1 am_cl ((h0, .inr (5, [.ref q1, .int (-1), .int 0])) :: ([] ++ [(q1, eJ G.2.1 64)])) H := hP
  have hD : va_D A ((h0, .inr (5, [.ref q1, .int (-1), .int 0])) :: ([] ++ [(q1, eJ G.2.1 64)])) := hD
  exact fin _ _ _ 22 ls d_Rim_init_22 ⟨q1, rfl⟩ hP hD hS
abbrev y_Search_init : MethodName := ⟨"WheelDisc$Search", "<init>", "()V"⟩
theorem c_Search_init : Cond.code y_Search_init prog_9_method_1_code 1 none ∈ am_T := am_mem 230 (by decide +kernel) rfl
def rw_Search_init : List (Nat × Instr × Nat) := [(0, .aload_n 0, 1), (1, .invokespecial 3, 3), (4, .aload_n 0, 1), (5, .iconst 2, 1), (6, .putfield 9, 3), (9, .aload_n 0, 1), (10, .iconst 2, 1), (11, .putfield 15, 3), (14, .aload_n 0, 1), (15, .iconst 1, 1), (16, .putfield 18, 3), (19, .aload_n 0, 1), (20, .iconst 0, 1), (21, .putfield 21, 3), (24, .aload_n 0, 1), (25, .iconst 0, 1), (26, .putfield 24, 3), (29, .aload_n 0, 1), (30, .iconst 0, 1), (31, .putfield 27, 3), (34, .aload_n 0, 1), (35, .iconst 0, 1), (36, .putfield 30, 3), (39, .aload_n 0, 1), (40, .iconst 0, 1), (41, .putfield 33, 3), (44, .aload_n 0, 1), (45, .iconst 0, 1), (46, .putfield 36, 3), (49, .return_, 1)]
theorem ro_Search_init : rw_Search_init.all (fun r => decide (decode prog_9_method_1_code r.1 = .ok r.2)) = true := by decide +kernel
theorem d_Search_init_0 : decode prog_9_method_1_code 0 = .ok (.aload_n 0, 1) := am_row (r := (0, .aload_n 0, 1)) ro_Search_init 0 rfl
theorem d_Search_init_1 : decode prog_9_method_1_code 1 = .ok (.invokespecial 3, 3) := am_row (r := (1, .invokespecial 3, 3)) ro_Search_init 1 rfl
theorem d_Search_init_4 : decode prog_9_method_1_code 4 = .ok (.aload_n 0, 1) := am_row (r := (4, .aload_n 0, 1)) ro_Search_init 2 rfl
theorem d_Search_init_5 : decode prog_9_method_1_code 5 = .ok (.iconst 2, 1) := am_row (r := (5, .iconst 2, 1)) ro_Search_init 3 rfl
theorem d_Search_init_6 : decode prog_9_method_1_code 6 = .ok (.putfield 9, 3) := am_row (r := (6, .putfield 9, 3)) ro_Search_init 4 rfl
theorem d_Search_init_9 : decode prog_9_method_1_code 9 = .ok (.aload_n 0, 1) := am_row (r := (9, .aload_n 0, 1)) ro_Search_init 5 rfl
theorem d_Search_init_10 : decode prog_9_method_1_code 10 = .ok (.iconst 2, 1) := am_row (r := (10, .iconst 2, 1)) ro_Search_init 6 rfl
theorem d_Search_init_11 : decode prog_9_method_1_code 11 = .ok (.putfield 15, 3) := am_row (r := (11, .putfield 15, 3)) ro_Search_init 7 rfl
theorem d_Search_init_14 : decode prog_9_method_1_code 14 = .ok (.aload_n 0, 1) := am_row (r := (14, .aload_n 0, 1)) ro_Search_init 8 rfl
theorem d_Search_init_15 : decode prog_9_method_1_code 15 = .ok (.iconst 1, 1) := am_row (r := (15, .iconst 1, 1)) ro_Search_init 9 rfl
theorem d_Search_init_16 : decode prog_9_method_1_code 16 = .ok (.putfield 18, 3) := am_row (r := (16, .putfield 18, 3)) ro_Search_init 10 rfl
theorem d_Search_init_19 : decode prog_9_method_1_code 19 = .ok (.aload_n 0, 1) := am_row (r := (19, .aload_n 0, 1)) ro_Search_init 11 rfl
theorem d_Search_init_20 : decode prog_9_method_1_code 20 = .ok (.iconst 0, 1) := am_row (r := (20, .iconst 0, 1)) ro_Search_init 12 rfl
theorem d_Search_init_21 : decode prog_9_method_1_code 21 = .ok (.putfield 21, 3) := am_row (r := (21, .putfield 21, 3)) ro_Search_init 13 rfl
theorem d_Search_init_24 : decode prog_9_method_1_code 24 = .ok (.aload_n 0, 1) := am_row (r := (24, .aload_n 0, 1)) ro_Search_init 14 rfl
theorem d_Search_init_25 : decode prog_9_method_1_code 25 = .ok (.iconst 0, 1) := am_row (r := (25, .iconst 0, 1)) ro_Search_init 15 rfl
theorem d_Search_init_26 : decode prog_9_method_1_code 26 = .ok (.putfield 24, 3) := am_row (r := (26, .putfield 24, 3)) ro_Search_init 16 rfl
theorem d_Search_init_29 : decode prog_9_method_1_code 29 = .ok (.aload_n 0, 1) := am_row (r := (29, .aload_n 0, 1)) ro_Search_init 17 rfl
theorem d_Search_init_30 : decode prog_9_method_1_code 30 = .ok (.iconst 0, 1) := am_row (r := (30, .iconst 0, 1)) ro_Search_init 18 rfl
theorem d_Search_init_31 : decode prog_9_method_1_code 31 = .ok (.putfield 27, 3) := am_row (r := (31, .putfield 27, 3)) ro_Search_init 19 rfl
theorem d_Search_init_34 : decode prog_9_method_1_code 34 = .ok (.aload_n 0, 1) := am_row (r := (34, .aload_n 0, 1)) ro_Search_init 20 rfl
theorem d_Search_init_35 : decode prog_9_method_1_code 35 = .ok (.iconst 0, 1) := am_row (r := (35, .iconst 0, 1)) ro_Search_init 21 rfl
theorem d_Search_init_36 : decode prog_9_method_1_code 36 = .ok (.putfield 30, 3) := am_row (r := (36, .putfield 30, 3)) ro_Search_init 22 rfl
theorem d_Search_init_39 : decode prog_9_method_1_code 39 = .ok (.aload_n 0, 1) := am_row (r := (39, .aload_n 0, 1)) ro_Search_init 23 rfl
theorem d_Search_init_40 : decode prog_9_method_1_code 40 = .ok (.iconst 0, 1) := am_row (r := (40, .iconst 0, 1)) ro_Search_init 24 rfl
theorem d_Search_init_41 : decode prog_9_method_1_code 41 = .ok (.putfield 33, 3) := am_row (r := (41, .putfield 33, 3)) ro_Search_init 25 rfl
theorem d_Search_init_44 : decode prog_9_method_1_code 44 = .ok (.aload_n 0, 1) := am_row (r := (44, .aload_n 0, 1)) ro_Search_init 26 rfl
theorem d_Search_init_45 : decode prog_9_method_1_code 45 = .ok (.iconst 0, 1) := am_row (r := (45, .iconst 0, 1)) ro_Search_init 27 rfl
theorem d_Search_init_46 : decode prog_9_method_1_code 46 = .ok (.putfield 36, 3) := am_row (r := (46, .putfield 36, 3)) ro_Search_init 28 rfl
theorem d_Search_init_49 : decode prog_9_method_1_code 49 = .ok (.return_, 1) := am_row (r := (49, .return_, 1)) ro_Search_init 29 rfl
def is_Search (G : am_G) (h0 : Nat) (w : va_W) : Prop := w = (h0, .inr (6, [.int 2, .int 2, .int 1, .int 0, .int 0, .int 0, .int 0, .int 0, .int 0])) :: ([])
def rm_Search_init : Room := { frames := 1, cells := 0, slots := 0, locals := 12 }
set_option maxRecDepth 100000 in
theorem k_Search_init (l : Launch) (G : am_G) : cn_Met l G y_Search_init prog_9_method_1_code 1 rm_Search_init 6 [.int 0, .int 0, .int 0, .int 0, .int 0, .int 0, .int 0, .int 0, .int 0] (is_Search G) 0 0 := by
  refine cn_ofW (by decide +kernel) rfl (by decide) (fun p e s m args below meth c h0 A ls X hl hP hD hS fin => ?_)
  refine lv_aload_n X.1 X.2.1 d_Search_init_0 rfl (lv_at hl 0 rfl) ?_
  refine cn_obj X (am_mem 231 (by decide +kernel) rfl) hl.1 (Nat.le_of_ble_eq_true rfl) (Nat.le_of_ble_eq_true rfl) d_Search_init_1 ?_
  refine lv_aload_n X.1 X.2.1 d_Search_init_4 rfl (lv_at hl 0 rfl) ?_
  refine lv_iconst (v := 2) X.1 X.2.1 d_Search_init_5 (by decide) ?_
  refine cn_put (ci := 6) (k := 0) X (by decide) rfl (by decide) (am_mem 232 (by decide +kernel) rfl) rfl rfl (Nat.le_of_ble_eq_true rfl) hP hD hS d_Search_init_6 (fun H locs hP hD hS => ?_)
  have hP : va_P G.1 am_cl ((h0, .inr (6, [.int 2, .int 0, .int 0, .int 0, .int 0, .int 0, .int 0, .int 0, .int 0])) :: ([])) H := hP
  have hD : va_D A ((h0, .inr (6, [.int 2, .int 0, .int 0, .int 0, .int 0, .int 0, .int 0, .int 0, .int 0])) :: ([])) := hD
  refine lv_aload_n X.1 X.2.1 d_Search_init_9 rfl (lv_at hl 0 rfl) ?_
  refine lv_iconst (v := 2) X.1 X.2.1 d_Search_init_10 (by decide) ?_
  refine cn_put (ci := 6) (k := 1) X (by decide) rfl (by decide) (am_mem 233 (by decide +kernel) rfl) rfl rfl (Nat.le_of_ble_eq_true rfl) hP hD hS d_Search_init_11 (fun H locs hP hD hS => ?_)
  have hP : va_P G.1 am_cl ((h0, .inr (6, [.int 2, .int 2, .int 0, .int 0, .int 0, .int 0, .int 0, .int 0, .int 0])) :: ([])) H := hP
  have hD : va_D A ((h0, .inr (6, [.int 2, .int 2, .int 0, .int 0, .int 0, .int 0, .int 0, .int 0, .int 0])) :: ([])) := hD
  refine lv_aload_n X.1 X.2.1 d_Search_init_14 rfl (lv_at hl 0 rfl) ?_
  refine lv_iconst (v := 1) X.1 X.2.1 d_Search_init_15 (by decide) ?_
  refine cn_put (ci := 6) (k := 2) X (by decide) rfl (by decide) (am_mem 234 (by decide +kernel) rfl) rfl rfl (Nat.le_of_ble_eq_true rfl) hP hD hS d_Search_init_16 (fun H locs hP hD hS => ?_)
  have hP : va_P G.1 am_cl ((h0, .inr (6, [.int 2, .int 2, .int 1, .int 0, .int 0, .int 0, .int 0, .int 0, .int 0])) :: ([])) H := hP
  have hD : va_D A ((h0, .inr (6, [.int 2, .int 2, .int 1, .int 0, .int 0, .int 0, .int 0, .int 0, .int 0])) :: ([])) := hD
  refine lv_aload_n X.1 X.2.1 d_Search_init_19 rfl (lv_at hl 0 rfl) ?_
  refine lv_iconst (v := 0) X.1 X.2.1 d_Search_init_20 (by decide) ?_
  refine cn_put (ci := 6) (k := 3) X (by decide) rfl (by decide) (am_mem 235 (by decide +kernel) rfl) rfl rfl (Nat.le_of_ble_eq_true rfl) hP hD hS d_Search_init_21 (fun H locs hP hD hS => ?_)
  have hP : va_P G.1 am_cl ((h0, .inr (6, [.int 2, .int 2, .int 1, .int 0, .int 0, .int 0, .int 0, .int 0, .int 0])) :: ([])) H := hP
  have hD : va_D A ((h0, .inr (6, [.int 2, .int 2, .int 1, .int 0, .int 0, .int 0, .int 0, .int 0, .int 0])) :: ([])) := hD
  refine lv_aload_n X.1 X.2.1 d_Search_init_24 rfl (lv_at hl 0 rfl) ?_
  refine lv_iconst (v := 0) X.1 X.2.1 d_Search_init_25 (by decide) ?_
  refine cn_put (ci := 6) (k := 4) X (by decide) rfl (by decide) (am_mem 236 (by decide +kernel) rfl) rfl rfl (Nat.le_of_ble_eq_true rfl) hP hD hS d_Search_init_26 (fun H locs hP hD hS => ?_)
  have hP : va_P G.1 am_cl ((h0, .inr (6, [.int 2, .int 2, .int 1, .int 0, .int 0, .int 0, .int 0, .int 0, .int 0])) :: ([])) H := hP
  have hD : va_D A ((h0, .inr (6, [.int 2, .int 2, .int 1, .int 0, .int 0, .int 0, .int 0, .int 0, .int 0])) :: ([])) := hD
  refine lv_aload_n X.1 X.2.1 d_Search_init_29 rfl (lv_at hl 0 rfl) ?_
  refine lv_iconst (v := 0) X.1 X.2.1 d_Search_init_30 (by decide) ?_
  refine cn_put (ci := 6) (k := 5) X (by decide) rfl (by decide) (am_mem 237 (by decide +kernel) rfl) rfl rfl (Nat.le_of_ble_eq_true rfl) hP hD hS d_Search_init_31 (fun H locs hP hD hS => ?_)
  have hP : va_P G.1 am_cl ((h0, .inr (6, [.int 2, .int 2, .int 1, .int 0, .int 0, .int 0, .int 0, .int 0, .int 0])) :: ([])) H := hP
  have hD : va_D A ((h0, .inr (6, [.int 2, .int 2, .int 1, .int 0, .int 0, .int 0, .int 0, .int 0, .int 0])) :: ([])) := hD
  refine lv_aload_n X.1 X.2.1 d_Search_init_34 rfl (lv_at hl 0 rfl) ?_
  refine lv_iconst (v := 0) X.1 X.2.1 d_Search_init_35 (by decide) ?_
  refine cn_put (ci := 6) (k := 6) X (by decide) rfl (by decide) (am_mem 238 (by decide +kernel) rfl) rfl rfl (Nat.le_of_ble_eq_true rfl) hP hD hS d_Search_init_36 (fun H locs hP hD hS => ?_)
  have hP : va_P G.1 am_cl ((h0, .inr (6, [.int 2, .int 2, .int 1, .int 0, .int 0, .int 0, .int 0, .int 0, .int 0])) :: ([])) H := hP
  have hD : va_D A ((h0, .inr (6, [.int 2, .int 2, .int 1, .int 0, .int 0, .int 0, .int 0, .int 0, .int 0])) :: ([])) := hD
  refine lv_aload_n X.1 X.2.1 d_Search_init_39 rfl (lv_at hl 0 rfl) ?_
  refine lv_iconst (v := 0) X.1 X.2.1 d_Search_init_40 (by decide) ?_
  refine cn_put (ci := 6) (k := 7) X (by decide) rfl (by decide) (am_mem 239 (by decide +kernel) rfl) rfl rfl (Nat.le_of_ble_eq_true rfl) hP hD hS d_Search_init_41 (fun H locs hP hD hS => ?_)
  have hP : va_P G.1 am_cl ((h0, .inr (6, [.int 2, .int 2, .int 1, .int 0, .int 0, .int 0, .int 0, .int 0, .int 0])) :: ([])) H := hP
  have hD : va_D A ((h0, .inr (6, [.int 2, .int 2, .int 1, .int 0, .int 0, .int 0, .int 0, .int 0, .int 0])) :: ([])) := hD
  refine lv_aload_n X.1 X.2.1 d_Search_init_44 rfl (lv_at hl 0 rfl) ?_
  refine lv_iconst (v := 0) X.1 X.2.1 d_Search_init_45 (by decide) ?_
  refine cn_put (ci := 6) (k := 8) X (by decide) rfl (by decide) (am_mem 240 (by decide +kernel) rfl) rfl rfl (Nat.le_of_ble_eq_true rfl) hP hD hS d_Search_init_46 (fun H locs hP hD hS => ?_)
  have hP : va_P G.1 am_cl ((h0, .inr (6, [.int 2, .int 2, .int 1, .int 0, .int 0, .int 0, .int 0, .int 0, .int 0])) :: ([])) H := hP
  have hD : va_D A ((h0, .inr (6, [.int 2, .int 2, .int 1, .int 0, .int 0, .int 0, .int 0, .int 0, .int 0])) :: ([])) := hD
  exact fin _ _ _ 49 ls d_Search_init_49 rfl hP hD hS
abbrev y_WL_init : MethodName := ⟨"WheelDisc$WordList", "<init>", "()V"⟩
theorem c_WL_init : Cond.code y_WL_init prog_11_method_1_code 1 none ∈ am_T := am_mem 300 (by decide +kernel) rfl
def rw_WL_init : List (Nat × Instr × Nat) := [(0, .aload_n 0, 1), (1, .invokespecial 3, 3), (4, .aload_n 0, 1), (5, .sipush 512, 3), (8, .newarray .int, 2), (10, .putfield 11, 3), (13, .aload_n 0, 1), (14, .iconst 0, 1), (15, .putfield 15, 3), (18, .return_, 1)]
theorem ro_WL_init : rw_WL_init.all (fun r => decide (decode prog_11_method_1_code r.1 = .ok r.2)) = true := by decide +kernel
theorem d_WL_init_0 : decode prog_11_method_1_code 0 = .ok (.aload_n 0, 1) := am_row (r := (0, .aload_n 0, 1)) ro_WL_init 0 rfl
theorem d_WL_init_1 : decode prog_11_method_1_code 1 = .ok (.invokespecial 3, 3) := am_row (r := (1, .invokespecial 3, 3)) ro_WL_init 1 rfl
theorem d_WL_init_4 : decode prog_11_method_1_code 4 = .ok (.aload_n 0, 1) := am_row (r := (4, .aload_n 0, 1)) ro_WL_init 2 rfl
theorem d_WL_init_5 : decode prog_11_method_1_code 5 = .ok (.sipush 512, 3) := am_row (r := (5, .sipush 512, 3)) ro_WL_init 3 rfl
theorem d_WL_init_8 : decode prog_11_method_1_code 8 = .ok (.newarray .int, 2) := am_row (r := (8, .newarray .int, 2)) ro_WL_init 4 rfl
theorem d_WL_init_10 : decode prog_11_method_1_code 10 = .ok (.putfield 11, 3) := am_row (r := (10, .putfield 11, 3)) ro_WL_init 5 rfl
theorem d_WL_init_13 : decode prog_11_method_1_code 13 = .ok (.aload_n 0, 1) := am_row (r := (13, .aload_n 0, 1)) ro_WL_init 6 rfl
theorem d_WL_init_14 : decode prog_11_method_1_code 14 = .ok (.iconst 0, 1) := am_row (r := (14, .iconst 0, 1)) ro_WL_init 7 rfl
theorem d_WL_init_15 : decode prog_11_method_1_code 15 = .ok (.putfield 15, 3) := am_row (r := (15, .putfield 15, 3)) ro_WL_init 8 rfl
theorem d_WL_init_18 : decode prog_11_method_1_code 18 = .ok (.return_, 1) := am_row (r := (18, .return_, 1)) ro_WL_init 9 rfl
def is_WL (G : am_G) (h0 : Nat) (w : va_W) : Prop := ∃ q1 : Nat, w = (h0, .inr (8, [.ref q1, .int 0])) :: ([] ++ [(q1, eI G.2.1 512)])
def rm_WL_init : Room := { frames := 1, cells := 1, slots := 512, locals := 12 }
set_option maxRecDepth 100000 in
theorem k_WL_init (l : Launch) (G : am_G) : cn_Met l G y_WL_init prog_11_method_1_code 1 rm_WL_init 8 [.null, .int 0] (is_WL G) 1 512 := by
  refine cn_ofW (by decide +kernel) rfl (by decide) (fun p e s m args below meth c h0 A ls X hl hP hD hS fin => ?_)
  refine lv_aload_n X.1 X.2.1 d_WL_init_0 rfl (lv_at hl 0 rfl) ?_
  refine cn_obj X (am_mem 301 (by decide +kernel) rfl) hl.1 (Nat.le_of_ble_eq_true rfl) (Nat.le_of_ble_eq_true rfl) d_WL_init_1 ?_
  refine lv_aload_n X.1 X.2.1 d_WL_init_4 rfl (lv_at hl 0 rfl) ?_
  refine lv_sipush (v := nI 512) X.1 X.2.1 d_WL_init_5 (by decide) ?_
  refine cn_newI X hP hD hS 512 rfl (by decide) (Nat.le_of_ble_eq_true rfl) (Nat.le_of_ble_eq_true rfl) d_WL_init_8 (fun q1 H hP hD hS => ?_)
  refine cn_put (ci := 8) (k := 0) X (by decide) rfl (by decide) (am_mem 302 (by decide +kernel) rfl) rfl rfl (Nat.le_of_ble_eq_true rfl) hP hD hS d_WL_init_10 (fun H locs hP hD hS => ?_)
  have hP : va_P G.1 am_cl ((h0, .inr (8, [.ref q1, .int 0])) :: ([] ++ [(q1, eI G.2.1 512)])) H := hP
  have hD : va_D A ((h0, .inr (8, [.ref q1, .int 0])) :: ([] ++ [(q1, eI G.2.1 512)])) := hD
  refine lv_aload_n X.1 X.2.1 d_WL_init_13 rfl (lv_at hl 0 rfl) ?_
  refine lv_iconst (v := 0) X.1 X.2.1 d_WL_init_14 (by decide) ?_
  refine cn_put (ci := 8) (k := 1) X (by decide) rfl (by decide) (am_mem 304 (by decide +kernel) rfl) rfl rfl (Nat.le_of_ble_eq_true rfl) hP hD hS d_WL_init_15 (fun H locs hP hD hS => ?_)
  have hP : va_P G.1 am_cl ((h0, .inr (8, [.ref q1, .int 0])) :: ([] ++ [(q1, eI G.2.1 512)])) H := hP
  have hD : va_D A ((h0, .inr (8, [.ref q1, .int 0])) :: ([] ++ [(q1, eI G.2.1 512)])) := hD
  exact fin _ _ _ 18 ls d_WL_init_18 ⟨q1, rfl⟩ hP hD hS
abbrev y_View_init : MethodName := ⟨"WheelDisc$View", "<init>", "()V"⟩
theorem c_View_init : Cond.code y_View_init prog_10_method_1_code 1 none ∈ am_T := am_mem 163 (by decide +kernel) rfl
def rw_View_init : List (Nat × Instr × Nat) := [(0, .aload_n 0, 1), (1, .invokespecial 3, 3), (4, .aload_n 0, 1), (5, .sipush 512, 3), (8, .newarray .int, 2), (10, .putfield 9, 3), (13, .aload_n 0, 1), (14, .new 15, 3), (17, .dup, 1), (18, .invokespecial 17, 3), (21, .putfield 18, 3), (24, .aload_n 0, 1), (25, .iconst 1, 1), (26, .putfield 22, 3), (29, .aload_n 0, 1), (30, .iconst 0, 1), (31, .putfield 26, 3), (34, .aload_n 0, 1), (35, .iconst 1, 1), (36, .putfield 29, 3), (39, .return_, 1)]
theorem ro_View_init : rw_View_init.all (fun r => decide (decode prog_10_method_1_code r.1 = .ok r.2)) = true := by decide +kernel
theorem d_View_init_0 : decode prog_10_method_1_code 0 = .ok (.aload_n 0, 1) := am_row (r := (0, .aload_n 0, 1)) ro_View_init 0 rfl
theorem d_View_init_1 : decode prog_10_method_1_code 1 = .ok (.invokespecial 3, 3) := am_row (r := (1, .invokespecial 3, 3)) ro_View_init 1 rfl
theorem d_View_init_4 : decode prog_10_method_1_code 4 = .ok (.aload_n 0, 1) := am_row (r := (4, .aload_n 0, 1)) ro_View_init 2 rfl
theorem d_View_init_5 : decode prog_10_method_1_code 5 = .ok (.sipush 512, 3) := am_row (r := (5, .sipush 512, 3)) ro_View_init 3 rfl
theorem d_View_init_8 : decode prog_10_method_1_code 8 = .ok (.newarray .int, 2) := am_row (r := (8, .newarray .int, 2)) ro_View_init 4 rfl
theorem d_View_init_10 : decode prog_10_method_1_code 10 = .ok (.putfield 9, 3) := am_row (r := (10, .putfield 9, 3)) ro_View_init 5 rfl
theorem d_View_init_13 : decode prog_10_method_1_code 13 = .ok (.aload_n 0, 1) := am_row (r := (13, .aload_n 0, 1)) ro_View_init 6 rfl
theorem d_View_init_14 : decode prog_10_method_1_code 14 = .ok (.new 15, 3) := am_row (r := (14, .new 15, 3)) ro_View_init 7 rfl
theorem d_View_init_17 : decode prog_10_method_1_code 17 = .ok (.dup, 1) := am_row (r := (17, .dup, 1)) ro_View_init 8 rfl
theorem d_View_init_18 : decode prog_10_method_1_code 18 = .ok (.invokespecial 17, 3) := am_row (r := (18, .invokespecial 17, 3)) ro_View_init 9 rfl
theorem d_View_init_21 : decode prog_10_method_1_code 21 = .ok (.putfield 18, 3) := am_row (r := (21, .putfield 18, 3)) ro_View_init 10 rfl
theorem d_View_init_24 : decode prog_10_method_1_code 24 = .ok (.aload_n 0, 1) := am_row (r := (24, .aload_n 0, 1)) ro_View_init 11 rfl
theorem d_View_init_25 : decode prog_10_method_1_code 25 = .ok (.iconst 1, 1) := am_row (r := (25, .iconst 1, 1)) ro_View_init 12 rfl
theorem d_View_init_26 : decode prog_10_method_1_code 26 = .ok (.putfield 22, 3) := am_row (r := (26, .putfield 22, 3)) ro_View_init 13 rfl
theorem d_View_init_29 : decode prog_10_method_1_code 29 = .ok (.aload_n 0, 1) := am_row (r := (29, .aload_n 0, 1)) ro_View_init 14 rfl
theorem d_View_init_30 : decode prog_10_method_1_code 30 = .ok (.iconst 0, 1) := am_row (r := (30, .iconst 0, 1)) ro_View_init 15 rfl
theorem d_View_init_31 : decode prog_10_method_1_code 31 = .ok (.putfield 26, 3) := am_row (r := (31, .putfield 26, 3)) ro_View_init 16 rfl
theorem d_View_init_34 : decode prog_10_method_1_code 34 = .ok (.aload_n 0, 1) := am_row (r := (34, .aload_n 0, 1)) ro_View_init 17 rfl
theorem d_View_init_35 : decode prog_10_method_1_code 35 = .ok (.iconst 1, 1) := am_row (r := (35, .iconst 1, 1)) ro_View_init 18 rfl
theorem d_View_init_36 : decode prog_10_method_1_code 36 = .ok (.putfield 29, 3) := am_row (r := (36, .putfield 29, 3)) ro_View_init 19 rfl
theorem d_View_init_39 : decode prog_10_method_1_code 39 = .ok (.return_, 1) := am_row (r := (39, .return_, 1)) ro_View_init 20 rfl
def is_View (G : am_G) (h0 : Nat) (w : va_W) : Prop := ∃ q1 q2 : Nat, ∃ w1 : va_W, is_Marks G q2 w1 ∧ w = (h0, .inr (7, [.ref q1, .ref q2, .int 1, .int 0, .int 1])) :: ([] ++ [(q1, eI G.2.1 512)] ++ w1)
def rm_View_init : Room := { frames := 2, cells := 3, slots := 529, locals := 32 }
set_option maxRecDepth 100000 in
theorem k_View_init (l : Launch) (G : am_G) : cn_Met l G y_View_init prog_10_method_1_code 1 rm_View_init 7 [.null, .null, .int 0, .int 0, .int 0] (is_View G) 3 529 := by
  refine cn_ofW (by decide +kernel) rfl (by decide) (fun p e s m args below meth c h0 A ls X hl hP hD hS fin => ?_)
  refine lv_aload_n X.1 X.2.1 d_View_init_0 rfl (lv_at hl 0 rfl) ?_
  refine cn_obj X (am_mem 164 (by decide +kernel) rfl) hl.1 (Nat.le_of_ble_eq_true rfl) (Nat.le_of_ble_eq_true rfl) d_View_init_1 ?_
  refine lv_aload_n X.1 X.2.1 d_View_init_4 rfl (lv_at hl 0 rfl) ?_
  refine lv_sipush (v := nI 512) X.1 X.2.1 d_View_init_5 (by decide) ?_
  refine cn_newI X hP hD hS 512 rfl (by decide) (Nat.le_of_ble_eq_true rfl) (Nat.le_of_ble_eq_true rfl) d_View_init_8 (fun q1 H hP hD hS => ?_)
  refine cn_put (ci := 7) (k := 0) X (by decide) rfl (by decide) (am_mem 175 (by decide +kernel) rfl) rfl rfl (Nat.le_of_ble_eq_true rfl) hP hD hS d_View_init_10 (fun H locs hP hD hS => ?_)
  have hP : va_P G.1 am_cl ((h0, .inr (7, [.ref q1, .null, .int 0, .int 0, .int 0])) :: ([] ++ [(q1, eI G.2.1 512)])) H := hP
  have hD : va_D A ((h0, .inr (7, [.ref q1, .null, .int 0, .int 0, .int 0])) :: ([] ++ [(q1, eI G.2.1 512)])) := hD
  refine lv_aload_n X.1 X.2.1 d_View_init_13 rfl (lv_at hl 0 rfl) ?_
  refine cn_new (ci := 4) (fs := [.null]) X (by decide) rfl (am_mem 165 (by decide +kernel) rfl) (am_mem 166 (by decide +kernel) rfl) (am_mem 67 (by decide +kernel) rfl) (fun j hj => by rcases (show j = 0 by omega) with rfl <;> rfl) hP hD hS (Nat.le_of_ble_eq_true rfl) (Nat.le_of_ble_eq_true rfl) d_View_init_14 (fun q2 H hP hD hS => ?_)
  refine lv_dup X.1 X.2.1 d_View_init_17 rfl ?_
  refine cn_callN (host := "WheelDisc") X (k_Marks_init l G) c_Marks_init (am_memN 167 (by decide +kernel) rfl) (am_mem 67 (by decide +kernel) rfl) (am_mem 168 (by decide +kernel) rfl) rfl ⟨by decide, by decide, by decide +kernel⟩ rfl rfl ⟨(Nat.le_of_ble_eq_true rfl), (Nat.le_of_ble_eq_true rfl)⟩ hP hD hS hl.1 (Nat.le_of_ble_eq_true rfl) (Nat.le_of_ble_eq_true rfl) (Nat.le_of_ble_eq_true rfl) d_View_init_18 (fun w1 H locs hw1 hP hD hS => ?_)
  refine cn_put (ci := 7) (k := 1) X (by decide) rfl (by decide) (am_mem 179 (by decide +kernel) rfl) rfl rfl (Nat.le_of_ble_eq_true rfl) hP hD hS d_View_init_21 (fun H locs hP hD hS => ?_)
  have hP : va_P G.1 am_cl ((h0, .inr (7, [.ref q1, .ref q2, .int 0, .int 0, .int 0])) :: ([] ++ [(q1, eI G.2.1 512)] ++ w1)) H := hP
  have hD : va_D A ((h0, .inr (7, [.ref q1, .ref q2, .int 0, .int 0, .int 0])) :: ([] ++ [(q1, eI G.2.1 512)] ++ w1)) := hD
  refine lv_aload_n X.1 X.2.1 d_View_init_24 rfl (lv_at hl 0 rfl) ?_
  refine lv_iconst (v := 1) X.1 X.2.1 d_View_init_25 (by decide) ?_
  refine cn_put (ci := 7) (k := 2) X (by decide) rfl (by decide) (am_mem 180 (by decide +kernel) rfl) rfl rfl (Nat.le_of_ble_eq_true rfl) hP hD hS d_View_init_26 (fun H locs hP hD hS => ?_)
  have hP : va_P G.1 am_cl ((h0, .inr (7, [.ref q1, .ref q2, .int 1, .int 0, .int 0])) :: ([] ++ [(q1, eI G.2.1 512)] ++ w1)) H := hP
  have hD : va_D A ((h0, .inr (7, [.ref q1, .ref q2, .int 1, .int 0, .int 0])) :: ([] ++ [(q1, eI G.2.1 512)] ++ w1)) := hD
  refine lv_aload_n X.1 X.2.1 d_View_init_29 rfl (lv_at hl 0 rfl) ?_
  refine lv_iconst (v := 0) X.1 X.2.1 d_View_init_30 (by decide) ?_
  refine cn_put (ci := 7) (k := 3) X (by decide) rfl (by decide) (am_mem 183 (by decide +kernel) rfl) rfl rfl (Nat.le_of_ble_eq_true rfl) hP hD hS d_View_init_31 (fun H locs hP hD hS => ?_)
  have hP : va_P G.1 am_cl ((h0, .inr (7, [.ref q1, .ref q2, .int 1, .int 0, .int 0])) :: ([] ++ [(q1, eI G.2.1 512)] ++ w1)) H := hP
  have hD : va_D A ((h0, .inr (7, [.ref q1, .ref q2, .int 1, .int 0, .int 0])) :: ([] ++ [(q1, eI G.2.1 512)] ++ w1)) := hD
  refine lv_aload_n X.1 X.2.1 d_View_init_34 rfl (lv_at hl 0 rfl) ?_
  refine lv_iconst (v := 1) X.1 X.2.1 d_View_init_35 (by decide) ?_
  refine cn_put (ci := 7) (k := 4) X (by decide) rfl (by decide) (am_mem 185 (by decide +kernel) rfl) rfl rfl (Nat.le_of_ble_eq_true rfl) hP hD hS d_View_init_36 (fun H locs hP hD hS => ?_)
  have hP : va_P G.1 am_cl ((h0, .inr (7, [.ref q1, .ref q2, .int 1, .int 0, .int 1])) :: ([] ++ [(q1, eI G.2.1 512)] ++ w1)) H := hP
  have hD : va_D A ((h0, .inr (7, [.ref q1, .ref q2, .int 1, .int 0, .int 1])) :: ([] ++ [(q1, eI G.2.1 512)] ++ w1)) := hD
  exact fin _ _ _ 39 ls d_View_init_39 ⟨q1, q2, w1, hw1, rfl⟩ hP hD hS
abbrev y_Mod_init : MethodName := ⟨"WheelDiscModel", "<init>", "()V"⟩
theorem c_Mod_init : Cond.code y_Mod_init prog_13_method_1_code 1 none ∈ am_T := am_mem 935 (by decide +kernel) rfl
def rw_Mod_init : List (Nat × Instr × Nat) := [(0, .aload_n 0, 1), (1, .invokespecial 3, 3), (4, .aload_n 0, 1), (5, .bipush 96, 2), (7, .newarray .int, 2), (9, .putfield 9, 3), (12, .aload_n 0, 1), (13, .sipush 320, 3), (16, .newarray .int, 2), (18, .putfield 13, 3), (21, .aload_n 0, 1), (22, .sipush 320, 3), (25, .newarray .int, 2), (27, .putfield 16, 3), (30, .aload_n 0, 1), (31, .ldc 19, 2), (33, .newarray .boolean, 2), (35, .putfield 20, 3), (38, .aload_n 0, 1), (39, .iconst (-1), 1), (40, .putfield 24, 3), (43, .aload_n 0, 1), (44, .bipush 64, 2), (46, .newarray .long, 2), (48, .putfield 28, 3), (51, .aload_n 0, 1), (52, .sipush 2000, 3), (55, .newarray .int, 2), (57, .putfield 32, 3), (60, .aload_n 0, 1), (61, .sipush 512, 3), (64, .newarray .int, 2), (66, .putfield 35, 3), (69, .aload_n 0, 1), (70, .sipush 512, 3), (73, .newarray .int, 2), (75, .putfield 38, 3), (78, .aload_n 0, 1), (79, .sipush 512, 3), (82, .newarray .int, 2), (84, .putfield 41, 3), (87, .aload_n 0, 1), (88, .sipush 512, 3), (91, .newarray .int, 2), (93, .putfield 44, 3), (96, .aload_n 0, 1), (97, .bipush 10, 2), (99, .newarray .int, 2), (101, .putfield 47, 3), (104, .aload_n 0, 1), (105, .sipush 512, 3), (108, .newarray .boolean, 2), (110, .putfield 50, 3), (113, .aload_n 0, 1), (114, .sipush 512, 3), (117, .newarray .boolean, 2), (119, .putfield 53, 3), (122, .aload_n 0, 1), (123, .sipush 512, 3), (126, .newarray .int, 2), (128, .putfield 56, 3), (131, .aload_n 0, 1), (132, .bipush 16, 2), (134, .newarray .int, 2), (136, .putfield 59, 3), (139, .aload_n 0, 1), (140, .getfield 9, 3), (143, .iconst 0, 1), (144, .iconst 1, 1), (145, .iastore, 1), (146, .return_, 1)]
theorem ro_Mod_init : rw_Mod_init.all (fun r => decide (decode prog_13_method_1_code r.1 = .ok r.2)) = true := by decide +kernel
theorem d_Mod_init_0 : decode prog_13_method_1_code 0 = .ok (.aload_n 0, 1) := am_row (r := (0, .aload_n 0, 1)) ro_Mod_init 0 rfl
theorem d_Mod_init_1 : decode prog_13_method_1_code 1 = .ok (.invokespecial 3, 3) := am_row (r := (1, .invokespecial 3, 3)) ro_Mod_init 1 rfl
theorem d_Mod_init_4 : decode prog_13_method_1_code 4 = .ok (.aload_n 0, 1) := am_row (r := (4, .aload_n 0, 1)) ro_Mod_init 2 rfl
theorem d_Mod_init_5 : decode prog_13_method_1_code 5 = .ok (.bipush 96, 2) := am_row (r := (5, .bipush 96, 2)) ro_Mod_init 3 rfl
theorem d_Mod_init_7 : decode prog_13_method_1_code 7 = .ok (.newarray .int, 2) := am_row (r := (7, .newarray .int, 2)) ro_Mod_init 4 rfl
theorem d_Mod_init_9 : decode prog_13_method_1_code 9 = .ok (.putfield 9, 3) := am_row (r := (9, .putfield 9, 3)) ro_Mod_init 5 rfl
theorem d_Mod_init_12 : decode prog_13_method_1_code 12 = .ok (.aload_n 0, 1) := am_row (r := (12, .aload_n 0, 1)) ro_Mod_init 6 rfl
theorem d_Mod_init_13 : decode prog_13_method_1_code 13 = .ok (.sipush 320, 3) := am_row (r := (13, .sipush 320, 3)) ro_Mod_init 7 rfl
theorem d_Mod_init_16 : decode prog_13_method_1_code 16 = .ok (.newarray .int, 2) := am_row (r := (16, .newarray .int, 2)) ro_Mod_init 8 rfl
theorem d_Mod_init_18 : decode prog_13_method_1_code 18 = .ok (.putfield 13, 3) := am_row (r := (18, .putfield 13, 3)) ro_Mod_init 9 rfl
theorem d_Mod_init_21 : decode prog_13_method_1_code 21 = .ok (.aload_n 0, 1) := am_row (r := (21, .aload_n 0, 1)) ro_Mod_init 10 rfl
theorem d_Mod_init_22 : decode prog_13_method_1_code 22 = .ok (.sipush 320, 3) := am_row (r := (22, .sipush 320, 3)) ro_Mod_init 11 rfl
theorem d_Mod_init_25 : decode prog_13_method_1_code 25 = .ok (.newarray .int, 2) := am_row (r := (25, .newarray .int, 2)) ro_Mod_init 12 rfl
theorem d_Mod_init_27 : decode prog_13_method_1_code 27 = .ok (.putfield 16, 3) := am_row (r := (27, .putfield 16, 3)) ro_Mod_init 13 rfl
theorem d_Mod_init_30 : decode prog_13_method_1_code 30 = .ok (.aload_n 0, 1) := am_row (r := (30, .aload_n 0, 1)) ro_Mod_init 14 rfl
theorem d_Mod_init_31 : decode prog_13_method_1_code 31 = .ok (.ldc 19, 2) := am_row (r := (31, .ldc 19, 2)) ro_Mod_init 15 rfl
theorem d_Mod_init_33 : decode prog_13_method_1_code 33 = .ok (.newarray .boolean, 2) := am_row (r := (33, .newarray .boolean, 2)) ro_Mod_init 16 rfl
theorem d_Mod_init_35 : decode prog_13_method_1_code 35 = .ok (.putfield 20, 3) := am_row (r := (35, .putfield 20, 3)) ro_Mod_init 17 rfl
theorem d_Mod_init_38 : decode prog_13_method_1_code 38 = .ok (.aload_n 0, 1) := am_row (r := (38, .aload_n 0, 1)) ro_Mod_init 18 rfl
theorem d_Mod_init_39 : decode prog_13_method_1_code 39 = .ok (.iconst (-1), 1) := am_row (r := (39, .iconst (-1), 1)) ro_Mod_init 19 rfl
theorem d_Mod_init_40 : decode prog_13_method_1_code 40 = .ok (.putfield 24, 3) := am_row (r := (40, .putfield 24, 3)) ro_Mod_init 20 rfl
theorem d_Mod_init_43 : decode prog_13_method_1_code 43 = .ok (.aload_n 0, 1) := am_row (r := (43, .aload_n 0, 1)) ro_Mod_init 21 rfl
theorem d_Mod_init_44 : decode prog_13_method_1_code 44 = .ok (.bipush 64, 2) := am_row (r := (44, .bipush 64, 2)) ro_Mod_init 22 rfl
theorem d_Mod_init_46 : decode prog_13_method_1_code 46 = .ok (.newarray .long, 2) := am_row (r := (46, .newarray .long, 2)) ro_Mod_init 23 rfl
theorem d_Mod_init_48 : decode prog_13_method_1_code 48 = .ok (.putfield 28, 3) := am_row (r := (48, .putfield 28, 3)) ro_Mod_init 24 rfl
theorem d_Mod_init_51 : decode prog_13_method_1_code 51 = .ok (.aload_n 0, 1) := am_row (r := (51, .aload_n 0, 1)) ro_Mod_init 25 rfl
theorem d_Mod_init_52 : decode prog_13_method_1_code 52 = .ok (.sipush 2000, 3) := am_row (r := (52, .sipush 2000, 3)) ro_Mod_init 26 rfl
theorem d_Mod_init_55 : decode prog_13_method_1_code 55 = .ok (.newarray .int, 2) := am_row (r := (55, .newarray .int, 2)) ro_Mod_init 27 rfl
theorem d_Mod_init_57 : decode prog_13_method_1_code 57 = .ok (.putfield 32, 3) := am_row (r := (57, .putfield 32, 3)) ro_Mod_init 28 rfl
theorem d_Mod_init_60 : decode prog_13_method_1_code 60 = .ok (.aload_n 0, 1) := am_row (r := (60, .aload_n 0, 1)) ro_Mod_init 29 rfl
theorem d_Mod_init_61 : decode prog_13_method_1_code 61 = .ok (.sipush 512, 3) := am_row (r := (61, .sipush 512, 3)) ro_Mod_init 30 rfl
theorem d_Mod_init_64 : decode prog_13_method_1_code 64 = .ok (.newarray .int, 2) := am_row (r := (64, .newarray .int, 2)) ro_Mod_init 31 rfl
theorem d_Mod_init_66 : decode prog_13_method_1_code 66 = .ok (.putfield 35, 3) := am_row (r := (66, .putfield 35, 3)) ro_Mod_init 32 rfl
theorem d_Mod_init_69 : decode prog_13_method_1_code 69 = .ok (.aload_n 0, 1) := am_row (r := (69, .aload_n 0, 1)) ro_Mod_init 33 rfl
theorem d_Mod_init_70 : decode prog_13_method_1_code 70 = .ok (.sipush 512, 3) := am_row (r := (70, .sipush 512, 3)) ro_Mod_init 34 rfl
theorem d_Mod_init_73 : decode prog_13_method_1_code 73 = .ok (.newarray .int, 2) := am_row (r := (73, .newarray .int, 2)) ro_Mod_init 35 rfl
theorem d_Mod_init_75 : decode prog_13_method_1_code 75 = .ok (.putfield 38, 3) := am_row (r := (75, .putfield 38, 3)) ro_Mod_init 36 rfl
theorem d_Mod_init_78 : decode prog_13_method_1_code 78 = .ok (.aload_n 0, 1) := am_row (r := (78, .aload_n 0, 1)) ro_Mod_init 37 rfl
theorem d_Mod_init_79 : decode prog_13_method_1_code 79 = .ok (.sipush 512, 3) := am_row (r := (79, .sipush 512, 3)) ro_Mod_init 38 rfl
theorem d_Mod_init_82 : decode prog_13_method_1_code 82 = .ok (.newarray .int, 2) := am_row (r := (82, .newarray .int, 2)) ro_Mod_init 39 rfl
theorem d_Mod_init_84 : decode prog_13_method_1_code 84 = .ok (.putfield 41, 3) := am_row (r := (84, .putfield 41, 3)) ro_Mod_init 40 rfl
theorem d_Mod_init_87 : decode prog_13_method_1_code 87 = .ok (.aload_n 0, 1) := am_row (r := (87, .aload_n 0, 1)) ro_Mod_init 41 rfl
theorem d_Mod_init_88 : decode prog_13_method_1_code 88 = .ok (.sipush 512, 3) := am_row (r := (88, .sipush 512, 3)) ro_Mod_init 42 rfl
theorem d_Mod_init_91 : decode prog_13_method_1_code 91 = .ok (.newarray .int, 2) := am_row (r := (91, .newarray .int, 2)) ro_Mod_init 43 rfl
theorem d_Mod_init_93 : decode prog_13_method_1_code 93 = .ok (.putfield 44, 3) := am_row (r := (93, .putfield 44, 3)) ro_Mod_init 44 rfl
theorem d_Mod_init_96 : decode prog_13_method_1_code 96 = .ok (.aload_n 0, 1) := am_row (r := (96, .aload_n 0, 1)) ro_Mod_init 45 rfl
theorem d_Mod_init_97 : decode prog_13_method_1_code 97 = .ok (.bipush 10, 2) := am_row (r := (97, .bipush 10, 2)) ro_Mod_init 46 rfl
theorem d_Mod_init_99 : decode prog_13_method_1_code 99 = .ok (.newarray .int, 2) := am_row (r := (99, .newarray .int, 2)) ro_Mod_init 47 rfl
theorem d_Mod_init_101 : decode prog_13_method_1_code 101 = .ok (.putfield 47, 3) := am_row (r := (101, .putfield 47, 3)) ro_Mod_init 48 rfl
theorem d_Mod_init_104 : decode prog_13_method_1_code 104 = .ok (.aload_n 0, 1) := am_row (r := (104, .aload_n 0, 1)) ro_Mod_init 49 rfl
theorem d_Mod_init_105 : decode prog_13_method_1_code 105 = .ok (.sipush 512, 3) := am_row (r := (105, .sipush 512, 3)) ro_Mod_init 50 rfl
theorem d_Mod_init_108 : decode prog_13_method_1_code 108 = .ok (.newarray .boolean, 2) := am_row (r := (108, .newarray .boolean, 2)) ro_Mod_init 51 rfl
theorem d_Mod_init_110 : decode prog_13_method_1_code 110 = .ok (.putfield 50, 3) := am_row (r := (110, .putfield 50, 3)) ro_Mod_init 52 rfl
theorem d_Mod_init_113 : decode prog_13_method_1_code 113 = .ok (.aload_n 0, 1) := am_row (r := (113, .aload_n 0, 1)) ro_Mod_init 53 rfl
theorem d_Mod_init_114 : decode prog_13_method_1_code 114 = .ok (.sipush 512, 3) := am_row (r := (114, .sipush 512, 3)) ro_Mod_init 54 rfl
theorem d_Mod_init_117 : decode prog_13_method_1_code 117 = .ok (.newarray .boolean, 2) := am_row (r := (117, .newarray .boolean, 2)) ro_Mod_init 55 rfl
theorem d_Mod_init_119 : decode prog_13_method_1_code 119 = .ok (.putfield 53, 3) := am_row (r := (119, .putfield 53, 3)) ro_Mod_init 56 rfl
theorem d_Mod_init_122 : decode prog_13_method_1_code 122 = .ok (.aload_n 0, 1) := am_row (r := (122, .aload_n 0, 1)) ro_Mod_init 57 rfl
theorem d_Mod_init_123 : decode prog_13_method_1_code 123 = .ok (.sipush 512, 3) := am_row (r := (123, .sipush 512, 3)) ro_Mod_init 58 rfl
theorem d_Mod_init_126 : decode prog_13_method_1_code 126 = .ok (.newarray .int, 2) := am_row (r := (126, .newarray .int, 2)) ro_Mod_init 59 rfl
theorem d_Mod_init_128 : decode prog_13_method_1_code 128 = .ok (.putfield 56, 3) := am_row (r := (128, .putfield 56, 3)) ro_Mod_init 60 rfl
theorem d_Mod_init_131 : decode prog_13_method_1_code 131 = .ok (.aload_n 0, 1) := am_row (r := (131, .aload_n 0, 1)) ro_Mod_init 61 rfl
theorem d_Mod_init_132 : decode prog_13_method_1_code 132 = .ok (.bipush 16, 2) := am_row (r := (132, .bipush 16, 2)) ro_Mod_init 62 rfl
theorem d_Mod_init_134 : decode prog_13_method_1_code 134 = .ok (.newarray .int, 2) := am_row (r := (134, .newarray .int, 2)) ro_Mod_init 63 rfl
theorem d_Mod_init_136 : decode prog_13_method_1_code 136 = .ok (.putfield 59, 3) := am_row (r := (136, .putfield 59, 3)) ro_Mod_init 64 rfl
theorem d_Mod_init_139 : decode prog_13_method_1_code 139 = .ok (.aload_n 0, 1) := am_row (r := (139, .aload_n 0, 1)) ro_Mod_init 65 rfl
theorem d_Mod_init_140 : decode prog_13_method_1_code 140 = .ok (.getfield 9, 3) := am_row (r := (140, .getfield 9, 3)) ro_Mod_init 66 rfl
theorem d_Mod_init_143 : decode prog_13_method_1_code 143 = .ok (.iconst 0, 1) := am_row (r := (143, .iconst 0, 1)) ro_Mod_init 67 rfl
theorem d_Mod_init_144 : decode prog_13_method_1_code 144 = .ok (.iconst 1, 1) := am_row (r := (144, .iconst 1, 1)) ro_Mod_init 68 rfl
theorem d_Mod_init_145 : decode prog_13_method_1_code 145 = .ok (.iastore, 1) := am_row (r := (145, .iastore, 1)) ro_Mod_init 69 rfl
theorem d_Mod_init_146 : decode prog_13_method_1_code 146 = .ok (.return_, 1) := am_row (r := (146, .return_, 1)) ro_Mod_init 70 rfl
def is_Mod (G : am_G) (h0 : Nat) (w : va_W) : Prop := ∃ q1 q2 q3 q4 q5 q6 q7 q8 q9 q10 q11 q12 q13 q14 q15 : Nat, w = (h0, .inr (10, [.ref q1, .ref q2, .ref q3, .ref q4, .int 0, .int 0, .int 0, .int (-1), .int 0, .ref q5, .ref q6, .int 0, .ref q7, .int 0, .int 0, .int 0, .int 0, .int 0, .int 0, .ref q8, .ref q9, .ref q10, .ref q11, .ref q12, .ref q13, .int 0, .int 0, .ref q14, .ref q15, .int 0, .int 0])) :: ([(q1, eS G.2.1), (q2, eI G.2.1 320), (q3, eI G.2.1 320), (q4, eZ G.2.1 163840), (q5, eJ G.2.1 64), (q6, eI G.2.1 2000), (q7, eI G.2.1 512), (q8, eI G.2.1 512), (q9, eI G.2.1 512), (q10, eI G.2.1 512), (q11, eI G.2.1 10), (q12, eZ G.2.1 512), (q13, eZ G.2.1 512), (q14, eI G.2.1 512), (q15, eI G.2.1 16)])
def rm_Mod_init : Room := { frames := 1, cells := 15, slots := 170250, locals := 12 }
set_option maxRecDepth 100000 in
theorem k_Mod_init (l : Launch) (G : am_G) : cn_Met l G y_Mod_init prog_13_method_1_code 1 rm_Mod_init 10 [.null, .null, .null, .null, .int 0, .int 0, .int 0, .int 0, .int 0, .null, .null, .int 0, .null, .int 0, .int 0, .int 0, .int 0, .int 0, .int 0, .null, .null, .null, .null, .null, .null, .int 0, .int 0, .null, .null, .int 0, .int 0] (is_Mod G) 15 170250 := by
  refine cn_ofW (by decide +kernel) rfl (by decide) (fun p e s m args below meth c h0 A ls X hl hP hD hS fin => ?_)
  refine lv_aload_n X.1 X.2.1 d_Mod_init_0 rfl (lv_at hl 0 rfl) ?_
  refine cn_obj X (am_mem 936 (by decide +kernel) rfl) hl.1 (Nat.le_of_ble_eq_true rfl) (Nat.le_of_ble_eq_true rfl) d_Mod_init_1 ?_
  refine lv_aload_n X.1 X.2.1 d_Mod_init_4 rfl (lv_at hl 0 rfl) ?_
  refine lv_bipush (v := nI 96) X.1 X.2.1 d_Mod_init_5 (by decide) ?_
  refine cn_newI X hP hD hS 96 rfl (by decide) (Nat.le_of_ble_eq_true rfl) (Nat.le_of_ble_eq_true rfl) d_Mod_init_7 (fun q1 H hP hD hS => ?_)
  refine cn_put (ci := 10) (k := 0) X (by decide) rfl (by decide) (am_mem 938 (by decide +kernel) rfl) rfl rfl (Nat.le_of_ble_eq_true rfl) hP hD hS d_Mod_init_9 (fun H locs hP hD hS => ?_)
  have hP : va_P G.1 am_cl ((h0, .inr (10, [.ref q1, .null, .null, .null, .int 0, .int 0, .int 0, .int 0, .int 0, .null, .null, .int 0, .null, .int 0, .int 0, .int 0, .int 0, .int 0, .int 0, .null, .null, .null, .null, .null, .null, .int 0, .int 0, .null, .null, .int 0, .int 0])) :: ([] ++ [(q1, eI G.2.1 96)])) H := hP
  have hD : va_D A ((h0, .inr (10, [.ref q1, .null, .null, .null, .int 0, .int 0, .int 0, .int 0, .int 0, .null, .null, .int 0, .null, .int 0, .int 0, .int 0, .int 0, .int 0, .int 0, .null, .null, .null, .null, .null, .null, .int 0, .int 0, .null, .null, .int 0, .int 0])) :: ([] ++ [(q1, eI G.2.1 96)])) := hD
  refine lv_aload_n X.1 X.2.1 d_Mod_init_12 rfl (lv_at hl 0 rfl) ?_
  refine lv_sipush (v := nI 320) X.1 X.2.1 d_Mod_init_13 (by decide) ?_
  refine cn_newI X hP hD hS 320 rfl (by decide) (Nat.le_of_ble_eq_true rfl) (Nat.le_of_ble_eq_true rfl) d_Mod_init_16 (fun q2 H hP hD hS => ?_)
  refine cn_put (ci := 10) (k := 1) X (by decide) rfl (by decide) (am_mem 939 (by decide +kernel) rfl) rfl rfl (Nat.le_of_ble_eq_true rfl) hP hD hS d_Mod_init_18 (fun H locs hP hD hS => ?_)
  have hP : va_P G.1 am_cl ((h0, .inr (10, [.ref q1, .ref q2, .null, .null, .int 0, .int 0, .int 0, .int 0, .int 0, .null, .null, .int 0, .null, .int 0, .int 0, .int 0, .int 0, .int 0, .int 0, .null, .null, .null, .null, .null, .null, .int 0, .int 0, .null, .null, .int 0, .int 0])) :: ([] ++ [(q1, eI G.2.1 96)] ++ [(q2, eI G.2.1 320)])) H := hP
  have hD : va_D A ((h0, .inr (10, [.ref q1, .ref q2, .null, .null, .int 0, .int 0, .int 0, .int 0, .int 0, .null, .null, .int 0, .null, .int 0, .int 0, .int 0, .int 0, .int 0, .int 0, .null, .null, .null, .null, .null, .null, .int 0, .int 0, .null, .null, .int 0, .int 0])) :: ([] ++ [(q1, eI G.2.1 96)] ++ [(q2, eI G.2.1 320)])) := hD
  refine lv_aload_n X.1 X.2.1 d_Mod_init_21 rfl (lv_at hl 0 rfl) ?_
  refine lv_sipush (v := nI 320) X.1 X.2.1 d_Mod_init_22 (by decide) ?_
  refine cn_newI X hP hD hS 320 rfl (by decide) (Nat.le_of_ble_eq_true rfl) (Nat.le_of_ble_eq_true rfl) d_Mod_init_25 (fun q3 H hP hD hS => ?_)
  refine cn_put (ci := 10) (k := 2) X (by decide) rfl (by decide) (am_mem 940 (by decide +kernel) rfl) rfl rfl (Nat.le_of_ble_eq_true rfl) hP hD hS d_Mod_init_27 (fun H locs hP hD hS => ?_)
  have hP : va_P G.1 am_cl ((h0, .inr (10, [.ref q1, .ref q2, .ref q3, .null, .int 0, .int 0, .int 0, .int 0, .int 0, .null, .null, .int 0, .null, .int 0, .int 0, .int 0, .int 0, .int 0, .int 0, .null, .null, .null, .null, .null, .null, .int 0, .int 0, .null, .null, .int 0, .int 0])) :: ([] ++ [(q1, eI G.2.1 96)] ++ [(q2, eI G.2.1 320)] ++ [(q3, eI G.2.1 320)])) H := hP
  have hD : va_D A ((h0, .inr (10, [.ref q1, .ref q2, .ref q3, .null, .int 0, .int 0, .int 0, .int 0, .int 0, .null, .null, .int 0, .null, .int 0, .int 0, .int 0, .int 0, .int 0, .int 0, .null, .null, .null, .null, .null, .null, .int 0, .int 0, .null, .null, .int 0, .int 0])) :: ([] ++ [(q1, eI G.2.1 96)] ++ [(q2, eI G.2.1 320)] ++ [(q3, eI G.2.1 320)])) := hD
  refine lv_aload_n X.1 X.2.1 d_Mod_init_30 rfl (lv_at hl 0 rfl) ?_
  refine lv_ldc (v := nI 163840) X.1 X.2.1 X.2.2.2.1 (X.2.2.2.2.1 _ (am_mem 937 (by decide +kernel) rfl)) d_Mod_init_31 ?_
  refine cn_newZ X hP hD hS 163840 rfl (by decide) (Nat.le_of_ble_eq_true rfl) (Nat.le_of_ble_eq_true rfl) d_Mod_init_33 (fun q4 H hP hD hS => ?_)
  refine cn_put (ci := 10) (k := 3) X (by decide) rfl (by decide) (am_mem 941 (by decide +kernel) rfl) rfl rfl (Nat.le_of_ble_eq_true rfl) hP hD hS d_Mod_init_35 (fun H locs hP hD hS => ?_)
  have hP : va_P G.1 am_cl ((h0, .inr (10, [.ref q1, .ref q2, .ref q3, .ref q4, .int 0, .int 0, .int 0, .int 0, .int 0, .null, .null, .int 0, .null, .int 0, .int 0, .int 0, .int 0, .int 0, .int 0, .null, .null, .null, .null, .null, .null, .int 0, .int 0, .null, .null, .int 0, .int 0])) :: ([] ++ [(q1, eI G.2.1 96)] ++ [(q2, eI G.2.1 320)] ++ [(q3, eI G.2.1 320)] ++ [(q4, eZ G.2.1 163840)])) H := hP
  have hD : va_D A ((h0, .inr (10, [.ref q1, .ref q2, .ref q3, .ref q4, .int 0, .int 0, .int 0, .int 0, .int 0, .null, .null, .int 0, .null, .int 0, .int 0, .int 0, .int 0, .int 0, .int 0, .null, .null, .null, .null, .null, .null, .int 0, .int 0, .null, .null, .int 0, .int 0])) :: ([] ++ [(q1, eI G.2.1 96)] ++ [(q2, eI G.2.1 320)] ++ [(q3, eI G.2.1 320)] ++ [(q4, eZ G.2.1 163840)])) := hD
  refine lv_aload_n X.1 X.2.1 d_Mod_init_38 rfl (lv_at hl 0 rfl) ?_
  refine lv_iconst (v := (-1)) X.1 X.2.1 d_Mod_init_39 (by decide) ?_
  refine cn_put (ci := 10) (k := 7) X (by decide) rfl (by decide) (am_mem 945 (by decide +kernel) rfl) rfl rfl (Nat.le_of_ble_eq_true rfl) hP hD hS d_Mod_init_40 (fun H locs hP hD hS => ?_)
  have hP : va_P G.1 am_cl ((h0, .inr (10, [.ref q1, .ref q2, .ref q3, .ref q4, .int 0, .int 0, .int 0, .int (-1), .int 0, .null, .null, .int 0, .null, .int 0, .int 0, .int 0, .int 0, .int 0, .int 0, .null, .null, .null, .null, .null, .null, .int 0, .int 0, .null, .null, .int 0, .int 0])) :: ([] ++ [(q1, eI G.2.1 96)] ++ [(q2, eI G.2.1 320)] ++ [(q3, eI G.2.1 320)] ++ [(q4, eZ G.2.1 163840)])) H := hP
  have hD : va_D A ((h0, .inr (10, [.ref q1, .ref q2, .ref q3, .ref q4, .int 0, .int 0, .int 0, .int (-1), .int 0, .null, .null, .int 0, .null, .int 0, .int 0, .int 0, .int 0, .int 0, .int 0, .null, .null, .null, .null, .null, .null, .int 0, .int 0, .null, .null, .int 0, .int 0])) :: ([] ++ [(q1, eI G.2.1 96)] ++ [(q2, eI G.2.1 320)] ++ [(q3, eI G.2.1 320)] ++ [(q4, eZ G.2.1 163840)])) := hD
  refine lv_aload_n X.1 X.2.1 d_Mod_init_43 rfl (lv_at hl 0 rfl) ?_
  refine lv_bipush (v := nI 64) X.1 X.2.1 d_Mod_init_44 (by decide) ?_
  refine cn_newJ X hP hD hS 64 rfl (by decide) (Nat.le_of_ble_eq_true rfl) (Nat.le_of_ble_eq_true rfl) d_Mod_init_46 (fun q5 H hP hD hS => ?_)
  refine cn_put (ci := 10) (k := 9) X (by decide) rfl (by decide) (am_mem 947 (by decide +kernel) rfl) rfl rfl (Nat.le_of_ble_eq_true rfl) hP hD hS d_Mod_init_48 (fun H locs hP hD hS => ?_)
  have hP : va_P G.1 am_cl ((h0, .inr (10, [.ref q1, .ref q2, .ref q3, .ref q4, .int 0, .int 0, .int 0, .int (-1), .int 0, .ref q5, .null, .int 0, .null, .int 0, .int 0, .int 0, .int 0, .int 0, .int 0, .null, .null, .null, .null, .null, .null, .int 0, .int 0, .null, .null, .int 0, .int 0])) :: ([] ++ [(q1, eI G.2.1 96)] ++ [(q2, eI G.2.1 320)] ++ [(q3, eI G.2.1 320)] ++ [(q4, eZ G.2.1 163840)] ++ [(q5, eJ G.2.1 64)])) H := hP
  have hD : va_D A ((h0, .inr (10, [.ref q1, .ref q2, .ref q3, .ref q4, .int 0, .int 0, .int 0, .int (-1), .int 0, .ref q5, .null, .int 0, .null, .int 0, .int 0, .int 0, .int 0, .int 0, .int 0, .null, .null, .null, .null, .null, .null, .int 0, .int 0, .null, .null, .int 0, .int 0])) :: ([] ++ [(q1, eI G.2.1 96)] ++ [(q2, eI G.2.1 320)] ++ [(q3, eI G.2.1 320)] ++ [(q4, eZ G.2.1 163840)] ++ [(q5, eJ G.2.1 64)])) := hD
  refine lv_aload_n X.1 X.2.1 d_Mod_init_51 rfl (lv_at hl 0 rfl) ?_
  refine lv_sipush (v := nI 2000) X.1 X.2.1 d_Mod_init_52 (by decide) ?_
  refine cn_newI X hP hD hS 2000 rfl (by decide) (Nat.le_of_ble_eq_true rfl) (Nat.le_of_ble_eq_true rfl) d_Mod_init_55 (fun q6 H hP hD hS => ?_)
  refine cn_put (ci := 10) (k := 10) X (by decide) rfl (by decide) (am_mem 948 (by decide +kernel) rfl) rfl rfl (Nat.le_of_ble_eq_true rfl) hP hD hS d_Mod_init_57 (fun H locs hP hD hS => ?_)
  have hP : va_P G.1 am_cl ((h0, .inr (10, [.ref q1, .ref q2, .ref q3, .ref q4, .int 0, .int 0, .int 0, .int (-1), .int 0, .ref q5, .ref q6, .int 0, .null, .int 0, .int 0, .int 0, .int 0, .int 0, .int 0, .null, .null, .null, .null, .null, .null, .int 0, .int 0, .null, .null, .int 0, .int 0])) :: ([] ++ [(q1, eI G.2.1 96)] ++ [(q2, eI G.2.1 320)] ++ [(q3, eI G.2.1 320)] ++ [(q4, eZ G.2.1 163840)] ++ [(q5, eJ G.2.1 64)] ++ [(q6, eI G.2.1 2000)])) H := hP
  have hD : va_D A ((h0, .inr (10, [.ref q1, .ref q2, .ref q3, .ref q4, .int 0, .int 0, .int 0, .int (-1), .int 0, .ref q5, .ref q6, .int 0, .null, .int 0, .int 0, .int 0, .int 0, .int 0, .int 0, .null, .null, .null, .null, .null, .null, .int 0, .int 0, .null, .null, .int 0, .int 0])) :: ([] ++ [(q1, eI G.2.1 96)] ++ [(q2, eI G.2.1 320)] ++ [(q3, eI G.2.1 320)] ++ [(q4, eZ G.2.1 163840)] ++ [(q5, eJ G.2.1 64)] ++ [(q6, eI G.2.1 2000)])) := hD
  refine lv_aload_n X.1 X.2.1 d_Mod_init_60 rfl (lv_at hl 0 rfl) ?_
  refine lv_sipush (v := nI 512) X.1 X.2.1 d_Mod_init_61 (by decide) ?_
  refine cn_newI X hP hD hS 512 rfl (by decide) (Nat.le_of_ble_eq_true rfl) (Nat.le_of_ble_eq_true rfl) d_Mod_init_64 (fun q7 H hP hD hS => ?_)
  refine cn_put (ci := 10) (k := 12) X (by decide) rfl (by decide) (am_mem 950 (by decide +kernel) rfl) rfl rfl (Nat.le_of_ble_eq_true rfl) hP hD hS d_Mod_init_66 (fun H locs hP hD hS => ?_)
  have hP : va_P G.1 am_cl ((h0, .inr (10, [.ref q1, .ref q2, .ref q3, .ref q4, .int 0, .int 0, .int 0, .int (-1), .int 0, .ref q5, .ref q6, .int 0, .ref q7, .int 0, .int 0, .int 0, .int 0, .int 0, .int 0, .null, .null, .null, .null, .null, .null, .int 0, .int 0, .null, .null, .int 0, .int 0])) :: ([] ++ [(q1, eI G.2.1 96)] ++ [(q2, eI G.2.1 320)] ++ [(q3, eI G.2.1 320)] ++ [(q4, eZ G.2.1 163840)] ++ [(q5, eJ G.2.1 64)] ++ [(q6, eI G.2.1 2000)] ++ [(q7, eI G.2.1 512)])) H := hP
  have hD : va_D A ((h0, .inr (10, [.ref q1, .ref q2, .ref q3, .ref q4, .int 0, .int 0, .int 0, .int (-1), .int 0, .ref q5, .ref q6, .int 0, .ref q7, .int 0, .int 0, .int 0, .int 0, .int 0, .int 0, .null, .null, .null, .null, .null, .null, .int 0, .int 0, .null, .null, .int 0, .int 0])) :: ([] ++ [(q1, eI G.2.1 96)] ++ [(q2, eI G.2.1 320)] ++ [(q3, eI G.2.1 320)] ++ [(q4, eZ G.2.1 163840)] ++ [(q5, eJ G.2.1 64)] ++ [(q6, eI G.2.1 2000)] ++ [(q7, eI G.2.1 512)])) := hD
  refine lv_aload_n X.1 X.2.1 d_Mod_init_69 rfl (lv_at hl 0 rfl) ?_
  refine lv_sipush (v := nI 512) X.1 X.2.1 d_Mod_init_70 (by decide) ?_
  refine cn_newI X hP hD hS 512 rfl (by decide) (Nat.le_of_ble_eq_true rfl) (Nat.le_of_ble_eq_true rfl) d_Mod_init_73 (fun q8 H hP hD hS => ?_)
  refine cn_put (ci := 10) (k := 19) X (by decide) rfl (by decide) (am_mem 957 (by decide +kernel) rfl) rfl rfl (Nat.le_of_ble_eq_true rfl) hP hD hS d_Mod_init_75 (fun H locs hP hD hS => ?_)
  have hP : va_P G.1 am_cl ((h0, .inr (10, [.ref q1, .ref q2, .ref q3, .ref q4, .int 0, .int 0, .int 0, .int (-1), .int 0, .ref q5, .ref q6, .int 0, .ref q7, .int 0, .int 0, .int 0, .int 0, .int 0, .int 0, .ref q8, .null, .null, .null, .null, .null, .int 0, .int 0, .null, .null, .int 0, .int 0])) :: ([] ++ [(q1, eI G.2.1 96)] ++ [(q2, eI G.2.1 320)] ++ [(q3, eI G.2.1 320)] ++ [(q4, eZ G.2.1 163840)] ++ [(q5, eJ G.2.1 64)] ++ [(q6, eI G.2.1 2000)] ++ [(q7, eI G.2.1 512)] ++ [(q8, eI G.2.1 512)])) H := hP
  have hD : va_D A ((h0, .inr (10, [.ref q1, .ref q2, .ref q3, .ref q4, .int 0, .int 0, .int 0, .int (-1), .int 0, .ref q5, .ref q6, .int 0, .ref q7, .int 0, .int 0, .int 0, .int 0, .int 0, .int 0, .ref q8, .null, .null, .null, .null, .null, .int 0, .int 0, .null, .null, .int 0, .int 0])) :: ([] ++ [(q1, eI G.2.1 96)] ++ [(q2, eI G.2.1 320)] ++ [(q3, eI G.2.1 320)] ++ [(q4, eZ G.2.1 163840)] ++ [(q5, eJ G.2.1 64)] ++ [(q6, eI G.2.1 2000)] ++ [(q7, eI G.2.1 512)] ++ [(q8, eI G.2.1 512)])) := hD
  refine lv_aload_n X.1 X.2.1 d_Mod_init_78 rfl (lv_at hl 0 rfl) ?_
  refine lv_sipush (v := nI 512) X.1 X.2.1 d_Mod_init_79 (by decide) ?_
  refine cn_newI X hP hD hS 512 rfl (by decide) (Nat.le_of_ble_eq_true rfl) (Nat.le_of_ble_eq_true rfl) d_Mod_init_82 (fun q9 H hP hD hS => ?_)
  refine cn_put (ci := 10) (k := 20) X (by decide) rfl (by decide) (am_mem 958 (by decide +kernel) rfl) rfl rfl (Nat.le_of_ble_eq_true rfl) hP hD hS d_Mod_init_84 (fun H locs hP hD hS => ?_)
  have hP : va_P G.1 am_cl ((h0, .inr (10, [.ref q1, .ref q2, .ref q3, .ref q4, .int 0, .int 0, .int 0, .int (-1), .int 0, .ref q5, .ref q6, .int 0, .ref q7, .int 0, .int 0, .int 0, .int 0, .int 0, .int 0, .ref q8, .ref q9, .null, .null, .null, .null, .int 0, .int 0, .null, .null, .int 0, .int 0])) :: ([] ++ [(q1, eI G.2.1 96)] ++ [(q2, eI G.2.1 320)] ++ [(q3, eI G.2.1 320)] ++ [(q4, eZ G.2.1 163840)] ++ [(q5, eJ G.2.1 64)] ++ [(q6, eI G.2.1 2000)] ++ [(q7, eI G.2.1 512)] ++ [(q8, eI G.2.1 512)] ++ [(q9, eI G.2.1 512)])) H := hP
  have hD : va_D A ((h0, .inr (10, [.ref q1, .ref q2, .ref q3, .ref q4, .int 0, .int 0, .int 0, .int (-1), .int 0, .ref q5, .ref q6, .int 0, .ref q7, .int 0, .int 0, .int 0, .int 0, .int 0, .int 0, .ref q8, .ref q9, .null, .null, .null, .null, .int 0, .int 0, .null, .null, .int 0, .int 0])) :: ([] ++ [(q1, eI G.2.1 96)] ++ [(q2, eI G.2.1 320)] ++ [(q3, eI G.2.1 320)] ++ [(q4, eZ G.2.1 163840)] ++ [(q5, eJ G.2.1 64)] ++ [(q6, eI G.2.1 2000)] ++ [(q7, eI G.2.1 512)] ++ [(q8, eI G.2.1 512)] ++ [(q9, eI G.2.1 512)])) := hD
  refine lv_aload_n X.1 X.2.1 d_Mod_init_87 rfl (lv_at hl 0 rfl) ?_
  refine lv_sipush (v := nI 512) X.1 X.2.1 d_Mod_init_88 (by decide) ?_
  refine cn_newI X hP hD hS 512 rfl (by decide) (Nat.le_of_ble_eq_true rfl) (Nat.le_of_ble_eq_true rfl) d_Mod_init_91 (fun q10 H hP hD hS => ?_)
  refine cn_put (ci := 10) (k := 21) X (by decide) rfl (by decide) (am_mem 959 (by decide +kernel) rfl) rfl rfl (Nat.le_of_ble_eq_true rfl) hP hD hS d_Mod_init_93 (fun H locs hP hD hS => ?_)
  have hP : va_P G.1 am_cl ((h0, .inr (10, [.ref q1, .ref q2, .ref q3, .ref q4, .int 0, .int 0, .int 0, .int (-1), .int 0, .ref q5, .ref q6, .int 0, .ref q7, .int 0, .int 0, .int 0, .int 0, .int 0, .int 0, .ref q8, .ref q9, .ref q10, .null, .null, .null, .int 0, .int 0, .null, .null, .int 0, .int 0])) :: ([] ++ [(q1, eI G.2.1 96)] ++ [(q2, eI G.2.1 320)] ++ [(q3, eI G.2.1 320)] ++ [(q4, eZ G.2.1 163840)] ++ [(q5, eJ G.2.1 64)] ++ [(q6, eI G.2.1 2000)] ++ [(q7, eI G.2.1 512)] ++ [(q8, eI G.2.1 512)] ++ [(q9, eI G.2.1 512)] ++ [(q10, eI G.2.1 512)])) H := hP
  have hD : va_D A ((h0, .inr (10, [.ref q1, .ref q2, .ref q3, .ref q4, .int 0, .int 0, .int 0, .int (-1), .int 0, .ref q5, .ref q6, .int 0, .ref q7, .int 0, .int 0, .int 0, .int 0, .int 0, .int 0, .ref q8, .ref q9, .ref q10, .null, .null, .null, .int 0, .int 0, .null, .null, .int 0, .int 0])) :: ([] ++ [(q1, eI G.2.1 96)] ++ [(q2, eI G.2.1 320)] ++ [(q3, eI G.2.1 320)] ++ [(q4, eZ G.2.1 163840)] ++ [(q5, eJ G.2.1 64)] ++ [(q6, eI G.2.1 2000)] ++ [(q7, eI G.2.1 512)] ++ [(q8, eI G.2.1 512)] ++ [(q9, eI G.2.1 512)] ++ [(q10, eI G.2.1 512)])) := hD
  refine lv_aload_n X.1 X.2.1 d_Mod_init_96 rfl (lv_at hl 0 rfl) ?_
  refine lv_bipush (v := nI 10) X.1 X.2.1 d_Mod_init_97 (by decide) ?_
  refine cn_newI X hP hD hS 10 rfl (by decide) (Nat.le_of_ble_eq_true rfl) (Nat.le_of_ble_eq_true rfl) d_Mod_init_99 (fun q11 H hP hD hS => ?_)
  refine cn_put (ci := 10) (k := 22) X (by decide) rfl (by decide) (am_mem 960 (by decide +kernel) rfl) rfl rfl (Nat.le_of_ble_eq_true rfl) hP hD hS d_Mod_init_101 (fun H locs hP hD hS => ?_)
  have hP : va_P G.1 am_cl ((h0, .inr (10, [.ref q1, .ref q2, .ref q3, .ref q4, .int 0, .int 0, .int 0, .int (-1), .int 0, .ref q5, .ref q6, .int 0, .ref q7, .int 0, .int 0, .int 0, .int 0, .int 0, .int 0, .ref q8, .ref q9, .ref q10, .ref q11, .null, .null, .int 0, .int 0, .null, .null, .int 0, .int 0])) :: ([] ++ [(q1, eI G.2.1 96)] ++ [(q2, eI G.2.1 320)] ++ [(q3, eI G.2.1 320)] ++ [(q4, eZ G.2.1 163840)] ++ [(q5, eJ G.2.1 64)] ++ [(q6, eI G.2.1 2000)] ++ [(q7, eI G.2.1 512)] ++ [(q8, eI G.2.1 512)] ++ [(q9, eI G.2.1 512)] ++ [(q10, eI G.2.1 512)] ++ [(q11, eI G.2.1 10)])) H := hP
  have hD : va_D A ((h0, .inr (10, [.ref q1, .ref q2, .ref q3, .ref q4, .int 0, .int 0, .int 0, .int (-1), .int 0, .ref q5, .ref q6, .int 0, .ref q7, .int 0, .int 0, .int 0, .int 0, .int 0, .int 0, .ref q8, .ref q9, .ref q10, .ref q11, .null, .null, .int 0, .int 0, .null, .null, .int 0, .int 0])) :: ([] ++ [(q1, eI G.2.1 96)] ++ [(q2, eI G.2.1 320)] ++ [(q3, eI G.2.1 320)] ++ [(q4, eZ G.2.1 163840)] ++ [(q5, eJ G.2.1 64)] ++ [(q6, eI G.2.1 2000)] ++ [(q7, eI G.2.1 512)] ++ [(q8, eI G.2.1 512)] ++ [(q9, eI G.2.1 512)] ++ [(q10, eI G.2.1 512)] ++ [(q11, eI G.2.1 10)])) := hD
  refine lv_aload_n X.1 X.2.1 d_Mod_init_104 rfl (lv_at hl 0 rfl) ?_
  refine lv_sipush (v := nI 512) X.1 X.2.1 d_Mod_init_105 (by decide) ?_
  refine cn_newZ X hP hD hS 512 rfl (by decide) (Nat.le_of_ble_eq_true rfl) (Nat.le_of_ble_eq_true rfl) d_Mod_init_108 (fun q12 H hP hD hS => ?_)
  refine cn_put (ci := 10) (k := 23) X (by decide) rfl (by decide) (am_mem 961 (by decide +kernel) rfl) rfl rfl (Nat.le_of_ble_eq_true rfl) hP hD hS d_Mod_init_110 (fun H locs hP hD hS => ?_)
  have hP : va_P G.1 am_cl ((h0, .inr (10, [.ref q1, .ref q2, .ref q3, .ref q4, .int 0, .int 0, .int 0, .int (-1), .int 0, .ref q5, .ref q6, .int 0, .ref q7, .int 0, .int 0, .int 0, .int 0, .int 0, .int 0, .ref q8, .ref q9, .ref q10, .ref q11, .ref q12, .null, .int 0, .int 0, .null, .null, .int 0, .int 0])) :: ([] ++ [(q1, eI G.2.1 96)] ++ [(q2, eI G.2.1 320)] ++ [(q3, eI G.2.1 320)] ++ [(q4, eZ G.2.1 163840)] ++ [(q5, eJ G.2.1 64)] ++ [(q6, eI G.2.1 2000)] ++ [(q7, eI G.2.1 512)] ++ [(q8, eI G.2.1 512)] ++ [(q9, eI G.2.1 512)] ++ [(q10, eI G.2.1 512)] ++ [(q11, eI G.2.1 10)] ++ [(q12, eZ G.2.1 512)])) H := hP
  have hD : va_D A ((h0, .inr (10, [.ref q1, .ref q2, .ref q3, .ref q4, .int 0, .int 0, .int 0, .int (-1), .int 0, .ref q5, .ref q6, .int 0, .ref q7, .int 0, .int 0, .int 0, .int 0, .int 0, .int 0, .ref q8, .ref q9, .ref q10, .ref q11, .ref q12, .null, .int 0, .int 0, .null, .null, .int 0, .int 0])) :: ([] ++ [(q1, eI G.2.1 96)] ++ [(q2, eI G.2.1 320)] ++ [(q3, eI G.2.1 320)] ++ [(q4, eZ G.2.1 163840)] ++ [(q5, eJ G.2.1 64)] ++ [(q6, eI G.2.1 2000)] ++ [(q7, eI G.2.1 512)] ++ [(q8, eI G.2.1 512)] ++ [(q9, eI G.2.1 512)] ++ [(q10, eI G.2.1 512)] ++ [(q11, eI G.2.1 10)] ++ [(q12, eZ G.2.1 512)])) := hD
  refine lv_aload_n X.1 X.2.1 d_Mod_init_113 rfl (lv_at hl 0 rfl) ?_
  refine lv_sipush (v := nI 512) X.1 X.2.1 d_Mod_init_114 (by decide) ?_
  refine cn_newZ X hP hD hS 512 rfl (by decide) (Nat.le_of_ble_eq_true rfl) (Nat.le_of_ble_eq_true rfl) d_Mod_init_117 (fun q13 H hP hD hS => ?_)
  refine cn_put (ci := 10) (k := 24) X (by decide) rfl (by decide) (am_mem 962 (by decide +kernel) rfl) rfl rfl (Nat.le_of_ble_eq_true rfl) hP hD hS d_Mod_init_119 (fun H locs hP hD hS => ?_)
  have hP : va_P G.1 am_cl ((h0, .inr (10, [.ref q1, .ref q2, .ref q3, .ref q4, .int 0, .int 0, .int 0, .int (-1), .int 0, .ref q5, .ref q6, .int 0, .ref q7, .int 0, .int 0, .int 0, .int 0, .int 0, .int 0, .ref q8, .ref q9, .ref q10, .ref q11, .ref q12, .ref q13, .int 0, .int 0, .null, .null, .int 0, .int 0])) :: ([] ++ [(q1, eI G.2.1 96)] ++ [(q2, eI G.2.1 320)] ++ [(q3, eI G.2.1 320)] ++ [(q4, eZ G.2.1 163840)] ++ [(q5, eJ G.2.1 64)] ++ [(q6, eI G.2.1 2000)] ++ [(q7, eI G.2.1 512)] ++ [(q8, eI G.2.1 512)] ++ [(q9, eI G.2.1 512)] ++ [(q10, eI G.2.1 512)] ++ [(q11, eI G.2.1 10)] ++ [(q12, eZ G.2.1 512)] ++ [(q13, eZ G.2.1 512)])) H := hP
  have hD : va_D A ((h0, .inr (10, [.ref q1, .ref q2, .ref q3, .ref q4, .int 0, .int 0, .int 0, .int (-1), .int 0, .ref q5, .ref q6, .int 0, .ref q7, .int 0, .int 0, .int 0, .int 0, .int 0, .int 0, .ref q8, .ref q9, .ref q10, .ref q11, .ref q12, .ref q13, .int 0, .int 0, .null, .null, .int 0, .int 0])) :: ([] ++ [(q1, eI G.2.1 96)] ++ [(q2, eI G.2.1 320)] ++ [(q3, eI G.2.1 320)] ++ [(q4, eZ G.2.1 163840)] ++ [(q5, eJ G.2.1 64)] ++ [(q6, eI G.2.1 2000)] ++ [(q7, eI G.2.1 512)] ++ [(q8, eI G.2.1 512)] ++ [(q9, eI G.2.1 512)] ++ [(q10, eI G.2.1 512)] ++ [(q11, eI G.2.1 10)] ++ [(q12, eZ G.2.1 512)] ++ [(q13, eZ G.2.1 512)])) := hD
  refine lv_aload_n X.1 X.2.1 d_Mod_init_122 rfl (lv_at hl 0 rfl) ?_
  refine lv_sipush (v := nI 512) X.1 X.2.1 d_Mod_init_123 (by decide) ?_
  refine cn_newI X hP hD hS 512 rfl (by decide) (Nat.le_of_ble_eq_true rfl) (Nat.le_of_ble_eq_true rfl) d_Mod_init_126 (fun q14 H hP hD hS => ?_)
  refine cn_put (ci := 10) (k := 27) X (by decide) rfl (by decide) (am_mem 965 (by decide +kernel) rfl) rfl rfl (Nat.le_of_ble_eq_true rfl) hP hD hS d_Mod_init_128 (fun H locs hP hD hS => ?_)
  have hP : va_P G.1 am_cl ((h0, .inr (10, [.ref q1, .ref q2, .ref q3, .ref q4, .int 0, .int 0, .int 0, .int (-1), .int 0, .ref q5, .ref q6, .int 0, .ref q7, .int 0, .int 0, .int 0, .int 0, .int 0, .int 0, .ref q8, .ref q9, .ref q10, .ref q11, .ref q12, .ref q13, .int 0, .int 0, .ref q14, .null, .int 0, .int 0])) :: ([] ++ [(q1, eI G.2.1 96)] ++ [(q2, eI G.2.1 320)] ++ [(q3, eI G.2.1 320)] ++ [(q4, eZ G.2.1 163840)] ++ [(q5, eJ G.2.1 64)] ++ [(q6, eI G.2.1 2000)] ++ [(q7, eI G.2.1 512)] ++ [(q8, eI G.2.1 512)] ++ [(q9, eI G.2.1 512)] ++ [(q10, eI G.2.1 512)] ++ [(q11, eI G.2.1 10)] ++ [(q12, eZ G.2.1 512)] ++ [(q13, eZ G.2.1 512)] ++ [(q14, eI G.2.1 512)])) H := hP
  have hD : va_D A ((h0, .inr (10, [.ref q1, .ref q2, .ref q3, .ref q4, .int 0, .int 0, .int 0, .int (-1), .int 0, .ref q5, .ref q6, .int 0, .ref q7, .int 0, .int 0, .int 0, .int 0, .int 0, .int 0, .ref q8, .ref q9, .ref q10, .ref q11, .ref q12, .ref q13, .int 0, .int 0, .ref q14, .null, .int 0, .int 0])) :: ([] ++ [(q1, eI G.2.1 96)] ++ [(q2, eI G.2.1 320)] ++ [(q3, eI G.2.1 320)] ++ [(q4, eZ G.2.1 163840)] ++ [(q5, eJ G.2.1 64)] ++ [(q6, eI G.2.1 2000)] ++ [(q7, eI G.2.1 512)] ++ [(q8, eI G.2.1 512)] ++ [(q9, eI G.2.1 512)] ++ [(q10, eI G.2.1 512)] ++ [(q11, eI G.2.1 10)] ++ [(q12, eZ G.2.1 512)] ++ [(q13, eZ G.2.1 512)] ++ [(q14, eI G.2.1 512)])) := hD
  refine lv_aload_n X.1 X.2.1 d_Mod_init_131 rfl (lv_at hl 0 rfl) ?_
  refine lv_bipush (v := nI 16) X.1 X.2.1 d_Mod_init_132 (by decide) ?_
  refine cn_newI X hP hD hS 16 rfl (by decide) (Nat.le_of_ble_eq_true rfl) (Nat.le_of_ble_eq_true rfl) d_Mod_init_134 (fun q15 H hP hD hS => ?_)
  refine cn_put (ci := 10) (k := 28) X (by decide) rfl (by decide) (am_mem 966 (by decide +kernel) rfl) rfl rfl (Nat.le_of_ble_eq_true rfl) hP hD hS d_Mod_init_136 (fun H locs hP hD hS => ?_)
  have hP : va_P G.1 am_cl ((h0, .inr (10, [.ref q1, .ref q2, .ref q3, .ref q4, .int 0, .int 0, .int 0, .int (-1), .int 0, .ref q5, .ref q6, .int 0, .ref q7, .int 0, .int 0, .int 0, .int 0, .int 0, .int 0, .ref q8, .ref q9, .ref q10, .ref q11, .ref q12, .ref q13, .int 0, .int 0, .ref q14, .ref q15, .int 0, .int 0])) :: ([] ++ [(q1, eI G.2.1 96)] ++ [(q2, eI G.2.1 320)] ++ [(q3, eI G.2.1 320)] ++ [(q4, eZ G.2.1 163840)] ++ [(q5, eJ G.2.1 64)] ++ [(q6, eI G.2.1 2000)] ++ [(q7, eI G.2.1 512)] ++ [(q8, eI G.2.1 512)] ++ [(q9, eI G.2.1 512)] ++ [(q10, eI G.2.1 512)] ++ [(q11, eI G.2.1 10)] ++ [(q12, eZ G.2.1 512)] ++ [(q13, eZ G.2.1 512)] ++ [(q14, eI G.2.1 512)] ++ [(q15, eI G.2.1 16)])) H := hP
  have hD : va_D A ((h0, .inr (10, [.ref q1, .ref q2, .ref q3, .ref q4, .int 0, .int 0, .int 0, .int (-1), .int 0, .ref q5, .ref q6, .int 0, .ref q7, .int 0, .int 0, .int 0, .int 0, .int 0, .int 0, .ref q8, .ref q9, .ref q10, .ref q11, .ref q12, .ref q13, .int 0, .int 0, .ref q14, .ref q15, .int 0, .int 0])) :: ([] ++ [(q1, eI G.2.1 96)] ++ [(q2, eI G.2.1 320)] ++ [(q3, eI G.2.1 320)] ++ [(q4, eZ G.2.1 163840)] ++ [(q5, eJ G.2.1 64)] ++ [(q6, eI G.2.1 2000)] ++ [(q7, eI G.2.1 512)] ++ [(q8, eI G.2.1 512)] ++ [(q9, eI G.2.1 512)] ++ [(q10, eI G.2.1 512)] ++ [(q11, eI G.2.1 10)] ++ [(q12, eZ G.2.1 512)] ++ [(q13, eZ G.2.1 512)] ++ [(q14, eI G.2.1 512)] ++ [(q15, eI G.2.1 16)])) := hD
  refine lv_aload_n X.1 X.2.1 d_Mod_init_139 rfl (lv_at hl 0 rfl) ?_
  refine va_get (D := G.1) (ref := "WheelDiscModel") X.1 X.2.1 X.2.2.2.2.1 (am_cl_ok 10 (by decide) _ rfl).1 X.2.2.2.1 X.2.2.2.2.2.1.1 hP 0 rfl rfl 0 (by decide) (X.2.2.2.2.1 _ (am_mem 938 (by decide +kernel) rfl)) (fun x h => h) rfl d_Mod_init_140 ?_
  refine lv_iconst (v := 0) X.1 X.2.1 d_Mod_init_143 (by decide) ?_
  refine lv_iconst (v := 1) X.1 X.2.1 d_Mod_init_144 (by decide) ?_
  refine va_iast (D := G.1) X.1 X.2.1 X.2.2.2.2.2.1.1 hP hD hS 1 0 rfl rfl (pk_in 0 96 (by decide)) d_Mod_init_145 (fun H locs hP hD hS => ?_)
  have hP : va_P G.1 am_cl ((h0, .inr (10, [.ref q1, .ref q2, .ref q3, .ref q4, .int 0, .int 0, .int 0, .int (-1), .int 0, .ref q5, .ref q6, .int 0, .ref q7, .int 0, .int 0, .int 0, .int 0, .int 0, .int 0, .ref q8, .ref q9, .ref q10, .ref q11, .ref q12, .ref q13, .int 0, .int 0, .ref q14, .ref q15, .int 0, .int 0])) :: ([(q1, eS G.2.1), (q2, eI G.2.1 320), (q3, eI G.2.1 320), (q4, eZ G.2.1 163840), (q5, eJ G.2.1 64), (q6, eI G.2.1 2000), (q7, eI G.2.1 512), (q8, eI G.2.1 512), (q9, eI G.2.1 512), (q10, eI G.2.1 512), (q11, eI G.2.1 10), (q12, eZ G.2.1 512), (q13, eZ G.2.1 512), (q14, eI G.2.1 512), (q15, eI G.2.1 16)])) H := hP
  have hD : va_D A ((h0, .inr (10, [.ref q1, .ref q2, .ref q3, .ref q4, .int 0, .int 0, .int 0, .int (-1), .int 0, .ref q5, .ref q6, .int 0, .ref q7, .int 0, .int 0, .int 0, .int 0, .int 0, .int 0, .ref q8, .ref q9, .ref q10, .ref q11, .ref q12, .ref q13, .int 0, .int 0, .ref q14, .ref q15, .int 0, .int 0])) :: ([(q1, eS G.2.1), (q2, eI G.2.1 320), (q3, eI G.2.1 320), (q4, eZ G.2.1 163840), (q5, eJ G.2.1 64), (q6, eI G.2.1 2000), (q7, eI G.2.1 512), (q8, eI G.2.1 512), (q9, eI G.2.1 512), (q10, eI G.2.1 512), (q11, eI G.2.1 10), (q12, eZ G.2.1 512), (q13, eZ G.2.1 512), (q14, eI G.2.1 512), (q15, eI G.2.1 16)])) := hD
  exact fin _ _ _ 146 ls d_Mod_init_146 ⟨q1, q2, q3, q4, q5, q6, q7, q8, q9, q10, q11, q12, q13, q14, q15, rfl⟩ hP hD hS
