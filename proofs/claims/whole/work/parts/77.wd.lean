/-! CONSTRUCTORS: the class -/
abbrev y_WD_init : MethodName := ⟨"WheelDisc", "<init>", "()V"⟩
theorem c_WD_init : Cond.code y_WD_init prog_1_method_1_code 1 none ∈ am_T := am_mem 82 (by decide +kernel) rfl
def rw_WD_init : List (Nat × Instr × Nat) := [(0, .aload_n 0, 1), (1, .invokespecial 1, 3), (4, .aload_n 0, 1), (5, .new 7, 3), (8, .dup, 1), (9, .invokespecial 9, 3), (12, .putfield 10, 3), (15, .aload_n 0, 1), (16, .new 16, 3), (19, .dup, 1), (20, .invokespecial 18, 3), (23, .putfield 19, 3), (26, .aload_n 0, 1), (27, .new 23, 3), (30, .dup, 1), (31, .invokespecial 25, 3), (34, .putfield 26, 3), (37, .aload_n 0, 1), (38, .new 30, 3), (41, .dup, 1), (42, .invokespecial 32, 3), (45, .putfield 33, 3), (48, .aload_n 0, 1), (49, .new 37, 3), (52, .dup, 1), (53, .invokespecial 39, 3), (56, .putfield 40, 3), (59, .aload_n 0, 1), (60, .new 37, 3), (63, .dup, 1), (64, .invokespecial 39, 3), (67, .putfield 44, 3), (70, .aload_n 0, 1), (71, .new 47, 3), (74, .dup, 1), (75, .invokespecial 49, 3), (78, .putfield 50, 3), (81, .aload_n 0, 1), (82, .new 54, 3), (85, .dup, 1), (86, .invokespecial 56, 3), (89, .putfield 57, 3), (92, .aload_n 0, 1), (93, .new 61, 3), (96, .dup, 1), (97, .invokespecial 63, 3), (100, .putfield 64, 3), (103, .aload_n 0, 1), (104, .new 68, 3), (107, .dup, 1), (108, .invokespecial 70, 3), (111, .putfield 71, 3), (114, .aload_n 0, 1), (115, .bipush 8, 2), (117, .newarray .long, 2), (119, .putfield 75, 3), (122, .aload_n 0, 1), (123, .iconst 0, 1), (124, .putfield 79, 3), (127, .aload_n 0, 1), (128, .iconst 0, 1), (129, .putfield 83, 3), (132, .return_, 1)]
theorem ro_WD_init : rw_WD_init.all (fun r => decide (decode prog_1_method_1_code r.1 = .ok r.2)) = true := by decide +kernel
theorem d_WD_init_0 : decode prog_1_method_1_code 0 = .ok (.aload_n 0, 1) := am_row (r := (0, .aload_n 0, 1)) ro_WD_init 0 rfl
theorem d_WD_init_1 : decode prog_1_method_1_code 1 = .ok (.invokespecial 1, 3) := am_row (r := (1, .invokespecial 1, 3)) ro_WD_init 1 rfl
theorem d_WD_init_4 : decode prog_1_method_1_code 4 = .ok (.aload_n 0, 1) := am_row (r := (4, .aload_n 0, 1)) ro_WD_init 2 rfl
theorem d_WD_init_5 : decode prog_1_method_1_code 5 = .ok (.new 7, 3) := am_row (r := (5, .new 7, 3)) ro_WD_init 3 rfl
theorem d_WD_init_8 : decode prog_1_method_1_code 8 = .ok (.dup, 1) := am_row (r := (8, .dup, 1)) ro_WD_init 4 rfl
theorem d_WD_init_9 : decode prog_1_method_1_code 9 = .ok (.invokespecial 9, 3) := am_row (r := (9, .invokespecial 9, 3)) ro_WD_init 5 rfl
theorem d_WD_init_12 : decode prog_1_method_1_code 12 = .ok (.putfield 10, 3) := am_row (r := (12, .putfield 10, 3)) ro_WD_init 6 rfl
theorem d_WD_init_15 : decode prog_1_method_1_code 15 = .ok (.aload_n 0, 1) := am_row (r := (15, .aload_n 0, 1)) ro_WD_init 7 rfl
theorem d_WD_init_16 : decode prog_1_method_1_code 16 = .ok (.new 16, 3) := am_row (r := (16, .new 16, 3)) ro_WD_init 8 rfl
theorem d_WD_init_19 : decode prog_1_method_1_code 19 = .ok (.dup, 1) := am_row (r := (19, .dup, 1)) ro_WD_init 9 rfl
theorem d_WD_init_20 : decode prog_1_method_1_code 20 = .ok (.invokespecial 18, 3) := am_row (r := (20, .invokespecial 18, 3)) ro_WD_init 10 rfl
theorem d_WD_init_23 : decode prog_1_method_1_code 23 = .ok (.putfield 19, 3) := am_row (r := (23, .putfield 19, 3)) ro_WD_init 11 rfl
theorem d_WD_init_26 : decode prog_1_method_1_code 26 = .ok (.aload_n 0, 1) := am_row (r := (26, .aload_n 0, 1)) ro_WD_init 12 rfl
theorem d_WD_init_27 : decode prog_1_method_1_code 27 = .ok (.new 23, 3) := am_row (r := (27, .new 23, 3)) ro_WD_init 13 rfl
theorem d_WD_init_30 : decode prog_1_method_1_code 30 = .ok (.dup, 1) := am_row (r := (30, .dup, 1)) ro_WD_init 14 rfl
theorem d_WD_init_31 : decode prog_1_method_1_code 31 = .ok (.invokespecial 25, 3) := am_row (r := (31, .invokespecial 25, 3)) ro_WD_init 15 rfl
theorem d_WD_init_34 : decode prog_1_method_1_code 34 = .ok (.putfield 26, 3) := am_row (r := (34, .putfield 26, 3)) ro_WD_init 16 rfl
theorem d_WD_init_37 : decode prog_1_method_1_code 37 = .ok (.aload_n 0, 1) := am_row (r := (37, .aload_n 0, 1)) ro_WD_init 17 rfl
theorem d_WD_init_38 : decode prog_1_method_1_code 38 = .ok (.new 30, 3) := am_row (r := (38, .new 30, 3)) ro_WD_init 18 rfl
theorem d_WD_init_41 : decode prog_1_method_1_code 41 = .ok (.dup, 1) := am_row (r := (41, .dup, 1)) ro_WD_init 19 rfl
theorem d_WD_init_42 : decode prog_1_method_1_code 42 = .ok (.invokespecial 32, 3) := am_row (r := (42, .invokespecial 32, 3)) ro_WD_init 20 rfl
theorem d_WD_init_45 : decode prog_1_method_1_code 45 = .ok (.putfield 33, 3) := am_row (r := (45, .putfield 33, 3)) ro_WD_init 21 rfl
theorem d_WD_init_48 : decode prog_1_method_1_code 48 = .ok (.aload_n 0, 1) := am_row (r := (48, .aload_n 0, 1)) ro_WD_init 22 rfl
theorem d_WD_init_49 : decode prog_1_method_1_code 49 = .ok (.new 37, 3) := am_row (r := (49, .new 37, 3)) ro_WD_init 23 rfl
theorem d_WD_init_52 : decode prog_1_method_1_code 52 = .ok (.dup, 1) := am_row (r := (52, .dup, 1)) ro_WD_init 24 rfl
theorem d_WD_init_53 : decode prog_1_method_1_code 53 = .ok (.invokespecial 39, 3) := am_row (r := (53, .invokespecial 39, 3)) ro_WD_init 25 rfl
theorem d_WD_init_56 : decode prog_1_method_1_code 56 = .ok (.putfield 40, 3) := am_row (r := (56, .putfield 40, 3)) ro_WD_init 26 rfl
theorem d_WD_init_59 : decode prog_1_method_1_code 59 = .ok (.aload_n 0, 1) := am_row (r := (59, .aload_n 0, 1)) ro_WD_init 27 rfl
theorem d_WD_init_60 : decode prog_1_method_1_code 60 = .ok (.new 37, 3) := am_row (r := (60, .new 37, 3)) ro_WD_init 28 rfl
theorem d_WD_init_63 : decode prog_1_method_1_code 63 = .ok (.dup, 1) := am_row (r := (63, .dup, 1)) ro_WD_init 29 rfl
theorem d_WD_init_64 : decode prog_1_method_1_code 64 = .ok (.invokespecial 39, 3) := am_row (r := (64, .invokespecial 39, 3)) ro_WD_init 30 rfl
theorem d_WD_init_67 : decode prog_1_method_1_code 67 = .ok (.putfield 44, 3) := am_row (r := (67, .putfield 44, 3)) ro_WD_init 31 rfl
theorem d_WD_init_70 : decode prog_1_method_1_code 70 = .ok (.aload_n 0, 1) := am_row (r := (70, .aload_n 0, 1)) ro_WD_init 32 rfl
theorem d_WD_init_71 : decode prog_1_method_1_code 71 = .ok (.new 47, 3) := am_row (r := (71, .new 47, 3)) ro_WD_init 33 rfl
theorem d_WD_init_74 : decode prog_1_method_1_code 74 = .ok (.dup, 1) := am_row (r := (74, .dup, 1)) ro_WD_init 34 rfl
theorem d_WD_init_75 : decode prog_1_method_1_code 75 = .ok (.invokespecial 49, 3) := am_row (r := (75, .invokespecial 49, 3)) ro_WD_init 35 rfl
theorem d_WD_init_78 : decode prog_1_method_1_code 78 = .ok (.putfield 50, 3) := am_row (r := (78, .putfield 50, 3)) ro_WD_init 36 rfl
theorem d_WD_init_81 : decode prog_1_method_1_code 81 = .ok (.aload_n 0, 1) := am_row (r := (81, .aload_n 0, 1)) ro_WD_init 37 rfl
theorem d_WD_init_82 : decode prog_1_method_1_code 82 = .ok (.new 54, 3) := am_row (r := (82, .new 54, 3)) ro_WD_init 38 rfl
theorem d_WD_init_85 : decode prog_1_method_1_code 85 = .ok (.dup, 1) := am_row (r := (85, .dup, 1)) ro_WD_init 39 rfl
theorem d_WD_init_86 : decode prog_1_method_1_code 86 = .ok (.invokespecial 56, 3) := am_row (r := (86, .invokespecial 56, 3)) ro_WD_init 40 rfl
theorem d_WD_init_89 : decode prog_1_method_1_code 89 = .ok (.putfield 57, 3) := am_row (r := (89, .putfield 57, 3)) ro_WD_init 41 rfl
theorem d_WD_init_92 : decode prog_1_method_1_code 92 = .ok (.aload_n 0, 1) := am_row (r := (92, .aload_n 0, 1)) ro_WD_init 42 rfl
theorem d_WD_init_93 : decode prog_1_method_1_code 93 = .ok (.new 61, 3) := am_row (r := (93, .new 61, 3)) ro_WD_init 43 rfl
theorem d_WD_init_96 : decode prog_1_method_1_code 96 = .ok (.dup, 1) := am_row (r := (96, .dup, 1)) ro_WD_init 44 rfl
theorem d_WD_init_97 : decode prog_1_method_1_code 97 = .ok (.invokespecial 63, 3) := am_row (r := (97, .invokespecial 63, 3)) ro_WD_init 45 rfl
theorem d_WD_init_100 : decode prog_1_method_1_code 100 = .ok (.putfield 64, 3) := am_row (r := (100, .putfield 64, 3)) ro_WD_init 46 rfl
theorem d_WD_init_103 : decode prog_1_method_1_code 103 = .ok (.aload_n 0, 1) := am_row (r := (103, .aload_n 0, 1)) ro_WD_init 47 rfl
theorem d_WD_init_104 : decode prog_1_method_1_code 104 = .ok (.new 68, 3) := am_row (r := (104, .new 68, 3)) ro_WD_init 48 rfl
theorem d_WD_init_107 : decode prog_1_method_1_code 107 = .ok (.dup, 1) := am_row (r := (107, .dup, 1)) ro_WD_init 49 rfl
theorem d_WD_init_108 : decode prog_1_method_1_code 108 = .ok (.invokespecial 70, 3) := am_row (r := (108, .invokespecial 70, 3)) ro_WD_init 50 rfl
theorem d_WD_init_111 : decode prog_1_method_1_code 111 = .ok (.putfield 71, 3) := am_row (r := (111, .putfield 71, 3)) ro_WD_init 51 rfl
theorem d_WD_init_114 : decode prog_1_method_1_code 114 = .ok (.aload_n 0, 1) := am_row (r := (114, .aload_n 0, 1)) ro_WD_init 52 rfl
theorem d_WD_init_115 : decode prog_1_method_1_code 115 = .ok (.bipush 8, 2) := am_row (r := (115, .bipush 8, 2)) ro_WD_init 53 rfl
theorem d_WD_init_117 : decode prog_1_method_1_code 117 = .ok (.newarray .long, 2) := am_row (r := (117, .newarray .long, 2)) ro_WD_init 54 rfl
theorem d_WD_init_119 : decode prog_1_method_1_code 119 = .ok (.putfield 75, 3) := am_row (r := (119, .putfield 75, 3)) ro_WD_init 55 rfl
theorem d_WD_init_122 : decode prog_1_method_1_code 122 = .ok (.aload_n 0, 1) := am_row (r := (122, .aload_n 0, 1)) ro_WD_init 56 rfl
theorem d_WD_init_123 : decode prog_1_method_1_code 123 = .ok (.iconst 0, 1) := am_row (r := (123, .iconst 0, 1)) ro_WD_init 57 rfl
theorem d_WD_init_124 : decode prog_1_method_1_code 124 = .ok (.putfield 79, 3) := am_row (r := (124, .putfield 79, 3)) ro_WD_init 58 rfl
theorem d_WD_init_127 : decode prog_1_method_1_code 127 = .ok (.aload_n 0, 1) := am_row (r := (127, .aload_n 0, 1)) ro_WD_init 59 rfl
theorem d_WD_init_128 : decode prog_1_method_1_code 128 = .ok (.iconst 0, 1) := am_row (r := (128, .iconst 0, 1)) ro_WD_init 60 rfl
theorem d_WD_init_129 : decode prog_1_method_1_code 129 = .ok (.putfield 83, 3) := am_row (r := (129, .putfield 83, 3)) ro_WD_init 61 rfl
theorem d_WD_init_132 : decode prog_1_method_1_code 132 = .ok (.return_, 1) := am_row (r := (132, .return_, 1)) ro_WD_init 62 rfl
def is_WD (G : am_G) (h0 : Nat) (w : va_W) : Prop := ∃ q1 q2 q3 q4 q5 q6 q7 q8 q9 q10 q11 : Nat, ∃ w1 w2 w3 w4 w5 w6 w7 w8 w9 w10 : va_W, is_Rim G q1 w1 ∧ is_Disc G q2 w2 ∧ is_Hist G q3 w3 ∧ is_View G q4 w4 ∧ is_Form G q5 w5 ∧ is_Form G q6 w6 ∧ is_Search G q7 w7 ∧ is_Drive G q8 w8 ∧ is_WL G q9 w9 ∧ is_Marks G q10 w10 ∧ w = (h0, .inr (9, [.ref q1, .ref q2, .ref q3, .ref q4, .ref q5, .ref q6, .ref q7, .ref q8, .ref q9, .ref q10, .ref q11, .int 0, .int 0])) :: ([] ++ w1 ++ w2 ++ w3 ++ w4 ++ w5 ++ w6 ++ w7 ++ w8 ++ w9 ++ w10 ++ [(q11, eJ G.2.1 8)])
def rm_WD_init : Room := { frames := 3, cells := 152, slots := 12576, locals := 53 }
set_option maxRecDepth 100000 in
theorem k_WD_init (l : Launch) (G : am_G) : cn_Met l G y_WD_init prog_1_method_1_code 1 rm_WD_init 9 [.null, .null, .null, .null, .null, .null, .null, .null, .null, .null, .null, .int 0, .int 0] (is_WD G) 152 12576 := by
  refine cn_ofW (by decide +kernel) rfl (by decide) (fun p e s m args below meth c h0 A ls X hl hP hD hS fin => ?_)
  refine lv_aload_n X.1 X.2.1 d_WD_init_0 rfl (lv_at hl 0 rfl) ?_
  refine cn_obj X (am_mem 83 (by decide +kernel) rfl) hl.1 (Nat.le_of_ble_eq_true rfl) (Nat.le_of_ble_eq_true rfl) d_WD_init_1 ?_
  refine lv_aload_n X.1 X.2.1 d_WD_init_4 rfl (lv_at hl 0 rfl) ?_
  refine cn_new (ci := 5) (fs := [.null, .int 0, .int 0]) X (by decide) rfl (am_mem 86 (by decide +kernel) rfl) (am_mem 87 (by decide +kernel) rfl) (am_mem 63 (by decide +kernel) rfl) (fun j hj => by rcases (show j = 0 ∨ j = 1 ∨ j = 2 by omega) with rfl | rfl | rfl <;> rfl) hP hD hS (Nat.le_of_ble_eq_true rfl) (Nat.le_of_ble_eq_true rfl) d_WD_init_5 (fun q1 H hP hD hS => ?_)
  refine lv_dup X.1 X.2.1 d_WD_init_8 rfl ?_
  refine cn_callN (host := "WheelDisc") X (k_Rim_init l G) c_Rim_init (am_memN 88 (by decide +kernel) rfl) (am_mem 63 (by decide +kernel) rfl) (am_mem 89 (by decide +kernel) rfl) rfl ⟨by decide, by decide, by decide +kernel⟩ rfl rfl ⟨(Nat.le_of_ble_eq_true rfl), (Nat.le_of_ble_eq_true rfl)⟩ hP hD hS hl.1 (Nat.le_of_ble_eq_true rfl) (Nat.le_of_ble_eq_true rfl) (Nat.le_of_ble_eq_true rfl) d_WD_init_9 (fun w1 H locs hw1 hP hD hS => ?_)
  refine cn_put (ci := 9) (k := 0) X (by decide) rfl (by decide) (am_mem 313 (by decide +kernel) rfl) rfl rfl (Nat.le_of_ble_eq_true rfl) hP hD hS d_WD_init_12 (fun H locs hP hD hS => ?_)
  have hP : va_P G.1 am_cl ((h0, .inr (9, [.ref q1, .null, .null, .null, .null, .null, .null, .null, .null, .null, .null, .int 0, .int 0])) :: ([] ++ w1)) H := hP
  have hD : va_D A ((h0, .inr (9, [.ref q1, .null, .null, .null, .null, .null, .null, .null, .null, .null, .null, .int 0, .int 0])) :: ([] ++ w1)) := hD
  refine lv_aload_n X.1 X.2.1 d_WD_init_15 rfl (lv_at hl 0 rfl) ?_
  refine cn_new (ci := 0) (fs := [.null, .null, .null, .int 0, .int 0, .int 0]) X (by decide) rfl (am_mem 105 (by decide +kernel) rfl) (am_mem 106 (by decide +kernel) rfl) (am_mem 64 (by decide +kernel) rfl) (fun j hj => by rcases (show j = 0 ∨ j = 1 ∨ j = 2 ∨ j = 3 ∨ j = 4 ∨ j = 5 by omega) with rfl | rfl | rfl | rfl | rfl | rfl <;> rfl) hP hD hS (Nat.le_of_ble_eq_true rfl) (Nat.le_of_ble_eq_true rfl) d_WD_init_16 (fun q2 H hP hD hS => ?_)
  refine lv_dup X.1 X.2.1 d_WD_init_19 rfl ?_
  refine cn_callN (host := "WheelDisc") X (k_Disc_init l G) c_Disc_init (am_memN 107 (by decide +kernel) rfl) (am_mem 64 (by decide +kernel) rfl) (am_mem 108 (by decide +kernel) rfl) rfl ⟨by decide, by decide, by decide +kernel⟩ rfl rfl ⟨(Nat.le_of_ble_eq_true rfl), (Nat.le_of_ble_eq_true rfl)⟩ hP hD hS hl.1 (Nat.le_of_ble_eq_true rfl) (Nat.le_of_ble_eq_true rfl) (Nat.le_of_ble_eq_true rfl) d_WD_init_20 (fun w2 H locs hw2 hP hD hS => ?_)
  refine cn_put (ci := 9) (k := 1) X (by decide) rfl (by decide) (am_mem 314 (by decide +kernel) rfl) rfl rfl (Nat.le_of_ble_eq_true rfl) hP hD hS d_WD_init_23 (fun H locs hP hD hS => ?_)
  have hP : va_P G.1 am_cl ((h0, .inr (9, [.ref q1, .ref q2, .null, .null, .null, .null, .null, .null, .null, .null, .null, .int 0, .int 0])) :: ([] ++ w1 ++ w2)) H := hP
  have hD : va_D A ((h0, .inr (9, [.ref q1, .ref q2, .null, .null, .null, .null, .null, .null, .null, .null, .null, .int 0, .int 0])) :: ([] ++ w1 ++ w2)) := hD
  refine lv_aload_n X.1 X.2.1 d_WD_init_26 rfl (lv_at hl 0 rfl) ?_
  refine cn_new (ci := 3) (fs := [.null, .int 0, .int 0]) X (by decide) rfl (am_mem 139 (by decide +kernel) rfl) (am_mem 140 (by decide +kernel) rfl) (am_mem 65 (by decide +kernel) rfl) (fun j hj => by rcases (show j = 0 ∨ j = 1 ∨ j = 2 by omega) with rfl | rfl | rfl <;> rfl) hP hD hS (Nat.le_of_ble_eq_true rfl) (Nat.le_of_ble_eq_true rfl) d_WD_init_27 (fun q3 H hP hD hS => ?_)
  refine lv_dup X.1 X.2.1 d_WD_init_30 rfl ?_
  refine cn_callL X (k_Hist_init l G) c_Hist_init (am_mem 141 (by decide +kernel) rfl) (am_mem 65 (by decide +kernel) rfl) (am_mem 142 (by decide +kernel) rfl) rfl ⟨by decide, by decide, by decide +kernel⟩ rfl rfl ⟨(Nat.le_of_ble_eq_true rfl), (Nat.le_of_ble_eq_true rfl)⟩ hP hD hS hl.1 (Nat.le_of_ble_eq_true rfl) (Nat.le_of_ble_eq_true rfl) (Nat.le_of_ble_eq_true rfl) d_WD_init_31 (fun w3 H locs hw3 hP hD hS => ?_)
  refine cn_put (ci := 9) (k := 2) X (by decide) rfl (by decide) (am_mem 315 (by decide +kernel) rfl) rfl rfl (Nat.le_of_ble_eq_true rfl) hP hD hS d_WD_init_34 (fun H locs hP hD hS => ?_)
  have hP : va_P G.1 am_cl ((h0, .inr (9, [.ref q1, .ref q2, .ref q3, .null, .null, .null, .null, .null, .null, .null, .null, .int 0, .int 0])) :: ([] ++ w1 ++ w2 ++ w3)) H := hP
  have hD : va_D A ((h0, .inr (9, [.ref q1, .ref q2, .ref q3, .null, .null, .null, .null, .null, .null, .null, .null, .int 0, .int 0])) :: ([] ++ w1 ++ w2 ++ w3)) := hD
  refine lv_aload_n X.1 X.2.1 d_WD_init_37 rfl (lv_at hl 0 rfl) ?_
  refine cn_new (ci := 7) (fs := [.null, .null, .int 0, .int 0, .int 0]) X (by decide) rfl (am_mem 159 (by decide +kernel) rfl) (am_mem 160 (by decide +kernel) rfl) (am_mem 66 (by decide +kernel) rfl) (fun j hj => by rcases (show j = 0 ∨ j = 1 ∨ j = 2 ∨ j = 3 ∨ j = 4 by omega) with rfl | rfl | rfl | rfl | rfl <;> rfl) hP hD hS (Nat.le_of_ble_eq_true rfl) (Nat.le_of_ble_eq_true rfl) d_WD_init_38 (fun q4 H hP hD hS => ?_)
  refine lv_dup X.1 X.2.1 d_WD_init_41 rfl ?_
  refine cn_callN (host := "WheelDisc") X (k_View_init l G) c_View_init (am_memN 161 (by decide +kernel) rfl) (am_mem 66 (by decide +kernel) rfl) (am_mem 162 (by decide +kernel) rfl) rfl ⟨by decide, by decide, by decide +kernel⟩ rfl rfl ⟨(Nat.le_of_ble_eq_true rfl), (Nat.le_of_ble_eq_true rfl)⟩ hP hD hS hl.1 (Nat.le_of_ble_eq_true rfl) (Nat.le_of_ble_eq_true rfl) (Nat.le_of_ble_eq_true rfl) d_WD_init_42 (fun w4 H locs hw4 hP hD hS => ?_)
  refine cn_put (ci := 9) (k := 3) X (by decide) rfl (by decide) (am_mem 316 (by decide +kernel) rfl) rfl rfl (Nat.le_of_ble_eq_true rfl) hP hD hS d_WD_init_45 (fun H locs hP hD hS => ?_)
  have hP : va_P G.1 am_cl ((h0, .inr (9, [.ref q1, .ref q2, .ref q3, .ref q4, .null, .null, .null, .null, .null, .null, .null, .int 0, .int 0])) :: ([] ++ w1 ++ w2 ++ w3 ++ w4)) H := hP
  have hD : va_D A ((h0, .inr (9, [.ref q1, .ref q2, .ref q3, .ref q4, .null, .null, .null, .null, .null, .null, .null, .int 0, .int 0])) :: ([] ++ w1 ++ w2 ++ w3 ++ w4)) := hD
  refine lv_aload_n X.1 X.2.1 d_WD_init_48 rfl (lv_at hl 0 rfl) ?_
  refine cn_new (ci := 2) (fs := [.null, .null, .null, .int 0, .int 0, .int 0]) X (by decide) rfl (am_mem 198 (by decide +kernel) rfl) (am_mem 199 (by decide +kernel) rfl) (am_mem 68 (by decide +kernel) rfl) (fun j hj => by rcases (show j = 0 ∨ j = 1 ∨ j = 2 ∨ j = 3 ∨ j = 4 ∨ j = 5 by omega) with rfl | rfl | rfl | rfl | rfl | rfl <;> rfl) hP hD hS (Nat.le_of_ble_eq_true rfl) (Nat.le_of_ble_eq_true rfl) d_WD_init_49 (fun q5 H hP hD hS => ?_)
  refine lv_dup X.1 X.2.1 d_WD_init_52 rfl ?_
  refine cn_callN (host := "WheelDisc") X (k_Form_init l G) c_Form_init (am_memN 200 (by decide +kernel) rfl) (am_mem 68 (by decide +kernel) rfl) (am_mem 201 (by decide +kernel) rfl) rfl ⟨by decide, by decide, by decide +kernel⟩ rfl rfl ⟨(Nat.le_of_ble_eq_true rfl), (Nat.le_of_ble_eq_true rfl)⟩ hP hD hS hl.1 (Nat.le_of_ble_eq_true rfl) (Nat.le_of_ble_eq_true rfl) (Nat.le_of_ble_eq_true rfl) d_WD_init_53 (fun w5 H locs hw5 hP hD hS => ?_)
  refine cn_put (ci := 9) (k := 4) X (by decide) rfl (by decide) (am_mem 317 (by decide +kernel) rfl) rfl rfl (Nat.le_of_ble_eq_true rfl) hP hD hS d_WD_init_56 (fun H locs hP hD hS => ?_)
  have hP : va_P G.1 am_cl ((h0, .inr (9, [.ref q1, .ref q2, .ref q3, .ref q4, .ref q5, .null, .null, .null, .null, .null, .null, .int 0, .int 0])) :: ([] ++ w1 ++ w2 ++ w3 ++ w4 ++ w5)) H := hP
  have hD : va_D A ((h0, .inr (9, [.ref q1, .ref q2, .ref q3, .ref q4, .ref q5, .null, .null, .null, .null, .null, .null, .int 0, .int 0])) :: ([] ++ w1 ++ w2 ++ w3 ++ w4 ++ w5)) := hD
  refine lv_aload_n X.1 X.2.1 d_WD_init_59 rfl (lv_at hl 0 rfl) ?_
  refine cn_new (ci := 2) (fs := [.null, .null, .null, .int 0, .int 0, .int 0]) X (by decide) rfl (am_mem 198 (by decide +kernel) rfl) (am_mem 199 (by decide +kernel) rfl) (am_mem 68 (by decide +kernel) rfl) (fun j hj => by rcases (show j = 0 ∨ j = 1 ∨ j = 2 ∨ j = 3 ∨ j = 4 ∨ j = 5 by omega) with rfl | rfl | rfl | rfl | rfl | rfl <;> rfl) hP hD hS (Nat.le_of_ble_eq_true rfl) (Nat.le_of_ble_eq_true rfl) d_WD_init_60 (fun q6 H hP hD hS => ?_)
  refine lv_dup X.1 X.2.1 d_WD_init_63 rfl ?_
  refine cn_callN (host := "WheelDisc") X (k_Form_init l G) c_Form_init (am_memN 200 (by decide +kernel) rfl) (am_mem 68 (by decide +kernel) rfl) (am_mem 201 (by decide +kernel) rfl) rfl ⟨by decide, by decide, by decide +kernel⟩ rfl rfl ⟨(Nat.le_of_ble_eq_true rfl), (Nat.le_of_ble_eq_true rfl)⟩ hP hD hS hl.1 (Nat.le_of_ble_eq_true rfl) (Nat.le_of_ble_eq_true rfl) (Nat.le_of_ble_eq_true rfl) d_WD_init_64 (fun w6 H locs hw6 hP hD hS => ?_)
  refine cn_put (ci := 9) (k := 5) X (by decide) rfl (by decide) (am_mem 318 (by decide +kernel) rfl) rfl rfl (Nat.le_of_ble_eq_true rfl) hP hD hS d_WD_init_67 (fun H locs hP hD hS => ?_)
  have hP : va_P G.1 am_cl ((h0, .inr (9, [.ref q1, .ref q2, .ref q3, .ref q4, .ref q5, .ref q6, .null, .null, .null, .null, .null, .int 0, .int 0])) :: ([] ++ w1 ++ w2 ++ w3 ++ w4 ++ w5 ++ w6)) H := hP
  have hD : va_D A ((h0, .inr (9, [.ref q1, .ref q2, .ref q3, .ref q4, .ref q5, .ref q6, .null, .null, .null, .null, .null, .int 0, .int 0])) :: ([] ++ w1 ++ w2 ++ w3 ++ w4 ++ w5 ++ w6)) := hD
  refine lv_aload_n X.1 X.2.1 d_WD_init_70 rfl (lv_at hl 0 rfl) ?_
  refine cn_new (ci := 6) (fs := [.int 0, .int 0, .int 0, .int 0, .int 0, .int 0, .int 0, .int 0, .int 0]) X (by decide) rfl (am_mem 226 (by decide +kernel) rfl) (am_mem 227 (by decide +kernel) rfl) (am_mem 69 (by decide +kernel) rfl) (fun j hj => by rcases (show j = 0 ∨ j = 1 ∨ j = 2 ∨ j = 3 ∨ j = 4 ∨ j = 5 ∨ j = 6 ∨ j = 7 ∨ j = 8 by omega) with rfl | rfl | rfl | rfl | rfl | rfl | rfl | rfl | rfl <;> rfl) hP hD hS (Nat.le_of_ble_eq_true rfl) (Nat.le_of_ble_eq_true rfl) d_WD_init_71 (fun q7 H hP hD hS => ?_)
  refine lv_dup X.1 X.2.1 d_WD_init_74 rfl ?_
  refine cn_callN (host := "WheelDisc") X (k_Search_init l G) c_Search_init (am_memN 228 (by decide +kernel) rfl) (am_mem 69 (by decide +kernel) rfl) (am_mem 229 (by decide +kernel) rfl) rfl ⟨by decide, by decide, by decide +kernel⟩ rfl rfl ⟨(Nat.le_of_ble_eq_true rfl), (Nat.le_of_ble_eq_true rfl)⟩ hP hD hS hl.1 (Nat.le_of_ble_eq_true rfl) (Nat.le_of_ble_eq_true rfl) (Nat.le_of_ble_eq_true rfl) d_WD_init_75 (fun w7 H locs hw7 hP hD hS => ?_)
  refine cn_put (ci := 9) (k := 6) X (by decide) rfl (by decide) (am_mem 319 (by decide +kernel) rfl) rfl rfl (Nat.le_of_ble_eq_true rfl) hP hD hS d_WD_init_78 (fun H locs hP hD hS => ?_)
  have hP : va_P G.1 am_cl ((h0, .inr (9, [.ref q1, .ref q2, .ref q3, .ref q4, .ref q5, .ref q6, .ref q7, .null, .null, .null, .null, .int 0, .int 0])) :: ([] ++ w1 ++ w2 ++ w3 ++ w4 ++ w5 ++ w6 ++ w7)) H := hP
  have hD : va_D A ((h0, .inr (9, [.ref q1, .ref q2, .ref q3, .ref q4, .ref q5, .ref q6, .ref q7, .null, .null, .null, .null, .int 0, .int 0])) :: ([] ++ w1 ++ w2 ++ w3 ++ w4 ++ w5 ++ w6 ++ w7)) := hD
  refine lv_aload_n X.1 X.2.1 d_WD_init_81 rfl (lv_at hl 0 rfl) ?_
  refine cn_new (ci := 1) (fs := [.null, .null, .null, .null, .null, .int 0, .int 0, .int 0]) X (by decide) rfl (am_mem 261 (by decide +kernel) rfl) (am_mem 262 (by decide +kernel) rfl) (am_mem 70 (by decide +kernel) rfl) (fun j hj => by rcases (show j = 0 ∨ j = 1 ∨ j = 2 ∨ j = 3 ∨ j = 4 ∨ j = 5 ∨ j = 6 ∨ j = 7 by omega) with rfl | rfl | rfl | rfl | rfl | rfl | rfl | rfl <;> rfl) hP hD hS (Nat.le_of_ble_eq_true rfl) (Nat.le_of_ble_eq_true rfl) d_WD_init_82 (fun q8 H hP hD hS => ?_)
  refine lv_dup X.1 X.2.1 d_WD_init_85 rfl ?_
  refine cn_callN (host := "WheelDisc") X (k_Drive_init l G) c_Drive_init (am_memN 263 (by decide +kernel) rfl) (am_mem 70 (by decide +kernel) rfl) (am_mem 264 (by decide +kernel) rfl) rfl ⟨by decide, by decide, by decide +kernel⟩ rfl rfl ⟨(Nat.le_of_ble_eq_true rfl), (Nat.le_of_ble_eq_true rfl)⟩ hP hD hS hl.1 (Nat.le_of_ble_eq_true rfl) (Nat.le_of_ble_eq_true rfl) (Nat.le_of_ble_eq_true rfl) d_WD_init_86 (fun w8 H locs hw8 hP hD hS => ?_)
  refine cn_put (ci := 9) (k := 7) X (by decide) rfl (by decide) (am_mem 320 (by decide +kernel) rfl) rfl rfl (Nat.le_of_ble_eq_true rfl) hP hD hS d_WD_init_89 (fun H locs hP hD hS => ?_)
  have hP : va_P G.1 am_cl ((h0, .inr (9, [.ref q1, .ref q2, .ref q3, .ref q4, .ref q5, .ref q6, .ref q7, .ref q8, .null, .null, .null, .int 0, .int 0])) :: ([] ++ w1 ++ w2 ++ w3 ++ w4 ++ w5 ++ w6 ++ w7 ++ w8)) H := hP
  have hD : va_D A ((h0, .inr (9, [.ref q1, .ref q2, .ref q3, .ref q4, .ref q5, .ref q6, .ref q7, .ref q8, .null, .null, .null, .int 0, .int 0])) :: ([] ++ w1 ++ w2 ++ w3 ++ w4 ++ w5 ++ w6 ++ w7 ++ w8)) := hD
  refine lv_aload_n X.1 X.2.1 d_WD_init_92 rfl (lv_at hl 0 rfl) ?_
  refine cn_new (ci := 8) (fs := [.null, .int 0]) X (by decide) rfl (am_mem 296 (by decide +kernel) rfl) (am_mem 297 (by decide +kernel) rfl) (am_mem 71 (by decide +kernel) rfl) (fun j hj => by rcases (show j = 0 ∨ j = 1 by omega) with rfl | rfl <;> rfl) hP hD hS (Nat.le_of_ble_eq_true rfl) (Nat.le_of_ble_eq_true rfl) d_WD_init_93 (fun q9 H hP hD hS => ?_)
  refine lv_dup X.1 X.2.1 d_WD_init_96 rfl ?_
  refine cn_callN (host := "WheelDisc") X (k_WL_init l G) c_WL_init (am_memN 298 (by decide +kernel) rfl) (am_mem 71 (by decide +kernel) rfl) (am_mem 299 (by decide +kernel) rfl) rfl ⟨by decide, by decide, by decide +kernel⟩ rfl rfl ⟨(Nat.le_of_ble_eq_true rfl), (Nat.le_of_ble_eq_true rfl)⟩ hP hD hS hl.1 (Nat.le_of_ble_eq_true rfl) (Nat.le_of_ble_eq_true rfl) (Nat.le_of_ble_eq_true rfl) d_WD_init_97 (fun w9 H locs hw9 hP hD hS => ?_)
  refine cn_put (ci := 9) (k := 8) X (by decide) rfl (by decide) (am_mem 321 (by decide +kernel) rfl) rfl rfl (Nat.le_of_ble_eq_true rfl) hP hD hS d_WD_init_100 (fun H locs hP hD hS => ?_)
  have hP : va_P G.1 am_cl ((h0, .inr (9, [.ref q1, .ref q2, .ref q3, .ref q4, .ref q5, .ref q6, .ref q7, .ref q8, .ref q9, .null, .null, .int 0, .int 0])) :: ([] ++ w1 ++ w2 ++ w3 ++ w4 ++ w5 ++ w6 ++ w7 ++ w8 ++ w9)) H := hP
  have hD : va_D A ((h0, .inr (9, [.ref q1, .ref q2, .ref q3, .ref q4, .ref q5, .ref q6, .ref q7, .ref q8, .ref q9, .null, .null, .int 0, .int 0])) :: ([] ++ w1 ++ w2 ++ w3 ++ w4 ++ w5 ++ w6 ++ w7 ++ w8 ++ w9)) := hD
  refine lv_aload_n X.1 X.2.1 d_WD_init_103 rfl (lv_at hl 0 rfl) ?_
  refine cn_new (ci := 4) (fs := [.null]) X (by decide) rfl (am_mem 311 (by decide +kernel) rfl) (am_mem 166 (by decide +kernel) rfl) (am_mem 67 (by decide +kernel) rfl) (fun j hj => by rcases (show j = 0 by omega) with rfl <;> rfl) hP hD hS (Nat.le_of_ble_eq_true rfl) (Nat.le_of_ble_eq_true rfl) d_WD_init_104 (fun q10 H hP hD hS => ?_)
  refine lv_dup X.1 X.2.1 d_WD_init_107 rfl ?_
  refine cn_callN (host := "WheelDisc") X (k_Marks_init l G) c_Marks_init (am_memN 312 (by decide +kernel) rfl) (am_mem 67 (by decide +kernel) rfl) (am_mem 168 (by decide +kernel) rfl) rfl ⟨by decide, by decide, by decide +kernel⟩ rfl rfl ⟨(Nat.le_of_ble_eq_true rfl), (Nat.le_of_ble_eq_true rfl)⟩ hP hD hS hl.1 (Nat.le_of_ble_eq_true rfl) (Nat.le_of_ble_eq_true rfl) (Nat.le_of_ble_eq_true rfl) d_WD_init_108 (fun w10 H locs hw10 hP hD hS => ?_)
  refine cn_put (ci := 9) (k := 9) X (by decide) rfl (by decide) (am_mem 322 (by decide +kernel) rfl) rfl rfl (Nat.le_of_ble_eq_true rfl) hP hD hS d_WD_init_111 (fun H locs hP hD hS => ?_)
  have hP : va_P G.1 am_cl ((h0, .inr (9, [.ref q1, .ref q2, .ref q3, .ref q4, .ref q5, .ref q6, .ref q7, .ref q8, .ref q9, .ref q10, .null, .int 0, .int 0])) :: ([] ++ w1 ++ w2 ++ w3 ++ w4 ++ w5 ++ w6 ++ w7 ++ w8 ++ w9 ++ w10)) H := hP
  have hD : va_D A ((h0, .inr (9, [.ref q1, .ref q2, .ref q3, .ref q4, .ref q5, .ref q6, .ref q7, .ref q8, .ref q9, .ref q10, .null, .int 0, .int 0])) :: ([] ++ w1 ++ w2 ++ w3 ++ w4 ++ w5 ++ w6 ++ w7 ++ w8 ++ w9 ++ w10)) := hD
  refine lv_aload_n X.1 X.2.1 d_WD_init_114 rfl (lv_at hl 0 rfl) ?_
  refine lv_bipush (v := nI 8) X.1 X.2.1 d_WD_init_115 (by decide) ?_
  refine cn_newJ X hP hD hS 8 rfl (by decide) (Nat.le_of_ble_eq_true rfl) (Nat.le_of_ble_eq_true rfl) d_WD_init_117 (fun q11 H hP hD hS => ?_)
  refine cn_put (ci := 9) (k := 10) X (by decide) rfl (by decide) (am_mem 323 (by decide +kernel) rfl) rfl rfl (Nat.le_of_ble_eq_true rfl) hP hD hS d_WD_init_119 (fun H locs hP hD hS => ?_)
  have hP : va_P G.1 am_cl ((h0, .inr (9, [.ref q1, .ref q2, .ref q3, .ref q4, .ref q5, .ref q6, .ref q7, .ref q8, .ref q9, .ref q10, .ref q11, .int 0, .int 0])) :: ([] ++ w1 ++ w2 ++ w3 ++ w4 ++ w5 ++ w6 ++ w7 ++ w8 ++ w9 ++ w10 ++ [(q11, eJ G.2.1 8)])) H := hP
  have hD : va_D A ((h0, .inr (9, [.ref q1, .ref q2, .ref q3, .ref q4, .ref q5, .ref q6, .ref q7, .ref q8, .ref q9, .ref q10, .ref q11, .int 0, .int 0])) :: ([] ++ w1 ++ w2 ++ w3 ++ w4 ++ w5 ++ w6 ++ w7 ++ w8 ++ w9 ++ w10 ++ [(q11, eJ G.2.1 8)])) := hD
  refine lv_aload_n X.1 X.2.1 d_WD_init_122 rfl (lv_at hl 0 rfl) ?_
  refine lv_iconst (v := 0) X.1 X.2.1 d_WD_init_123 (by decide) ?_
  refine cn_put (ci := 9) (k := 11) X (by decide) rfl (by decide) (am_mem 324 (by decide +kernel) rfl) rfl rfl (Nat.le_of_ble_eq_true rfl) hP hD hS d_WD_init_124 (fun H locs hP hD hS => ?_)
  have hP : va_P G.1 am_cl ((h0, .inr (9, [.ref q1, .ref q2, .ref q3, .ref q4, .ref q5, .ref q6, .ref q7, .ref q8, .ref q9, .ref q10, .ref q11, .int 0, .int 0])) :: ([] ++ w1 ++ w2 ++ w3 ++ w4 ++ w5 ++ w6 ++ w7 ++ w8 ++ w9 ++ w10 ++ [(q11, eJ G.2.1 8)])) H := hP
  have hD : va_D A ((h0, .inr (9, [.ref q1, .ref q2, .ref q3, .ref q4, .ref q5, .ref q6, .ref q7, .ref q8, .ref q9, .ref q10, .ref q11, .int 0, .int 0])) :: ([] ++ w1 ++ w2 ++ w3 ++ w4 ++ w5 ++ w6 ++ w7 ++ w8 ++ w9 ++ w10 ++ [(q11, eJ G.2.1 8)])) := hD
  refine lv_aload_n X.1 X.2.1 d_WD_init_127 rfl (lv_at hl 0 rfl) ?_
  refine lv_iconst (v := 0) X.1 X.2.1 d_WD_init_128 (by decide) ?_
  refine cn_put (ci := 9) (k := 12) X (by decide) rfl (by decide) (am_mem 325 (by decide +kernel) rfl) rfl rfl (Nat.le_of_ble_eq_true rfl) hP hD hS d_WD_init_129 (fun H locs hP hD hS => ?_)
  have hP : va_P G.1 am_cl ((h0, .inr (9, [.ref q1, .ref q2, .ref q3, .ref q4, .ref q5, .ref q6, .ref q7, .ref q8, .ref q9, .ref q10, .ref q11, .int 0, .int 0])) :: ([] ++ w1 ++ w2 ++ w3 ++ w4 ++ w5 ++ w6 ++ w7 ++ w8 ++ w9 ++ w10 ++ [(q11, eJ G.2.1 8)])) H := hP
  have hD : va_D A ((h0, .inr (9, [.ref q1, .ref q2, .ref q3, .ref q4, .ref q5, .ref q6, .ref q7, .ref q8, .ref q9, .ref q10, .ref q11, .int 0, .int 0])) :: ([] ++ w1 ++ w2 ++ w3 ++ w4 ++ w5 ++ w6 ++ w7 ++ w8 ++ w9 ++ w10 ++ [(q11, eJ G.2.1 8)])) := hD
  exact fin _ _ _ 132 ls d_WD_init_132 ⟨q1, q2, q3, q4, q5, q6, q7, q8, q9, q10, q11, w1, w2, w3, w4, w5, w6, w7, w8, w9, w10, hw1, hw2, hw3, hw4, hw5, hw6, hw7, hw8, hw9, hw10, rfl⟩ hP hD hS
