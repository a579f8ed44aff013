abbrev y_WD_refuse : MethodName := ⟨"WheelDisc", "refuse", "(I)I"⟩
theorem c_WD_refuse : Cond.code y_WD_refuse prog_1_method_42_code 2 (some .int) ∈ am_T := am_mem 371 (by decide +kernel) rfl
def rw_WD_refuse : List (Nat × Instr × Nat) := [(0, .aload_n 0, 1), (1, .iload_n 1, 1), (2, .putfield 83, 3), (5, .iconst (-1), 1), (6, .ireturn, 1)]
theorem ro_WD_refuse : rw_WD_refuse.all (fun r => decide (decode prog_1_method_42_code r.1 = .ok r.2)) = true := by decide +kernel
theorem d_WD_refuse_0 : decode prog_1_method_42_code 0 = .ok (.aload_n 0, 1) := am_row (r := (0, .aload_n 0, 1)) ro_WD_refuse 0 rfl
theorem d_WD_refuse_1 : decode prog_1_method_42_code 1 = .ok (.iload_n 1, 1) := am_row (r := (1, .iload_n 1, 1)) ro_WD_refuse 1 rfl
theorem d_WD_refuse_2 : decode prog_1_method_42_code 2 = .ok (.putfield 83, 3) := am_row (r := (2, .putfield 83, 3)) ro_WD_refuse 2 rfl
theorem d_WD_refuse_5 : decode prog_1_method_42_code 5 = .ok (.iconst (-1), 1) := am_row (r := (5, .iconst (-1), 1)) ro_WD_refuse 3 rfl
theorem d_WD_refuse_6 : decode prog_1_method_42_code 6 = .ok (.ireturn, 1) := am_row (r := (6, .ireturn, 1)) ro_WD_refuse 4 rfl
abbrev y_Arr_fillJ : MethodName := ⟨"java/util/Arrays", "fill", "([JJ)V"⟩
theorem c_Arr_fillJ : Cond.code y_Arr_fillJ prog_17_method_101_code 5 none ∈ am_T := am_mem 363 (by decide +kernel) rfl
def rw_Arr_fillJ : List (Nat × Instr × Nat) := [(0, .iconst 0, 1), (1, .istore_n 3, 1), (2, .aload_n 0, 1), (3, .arraylength, 1), (4, .istore 4, 2), (6, .iload_n 3, 1), (7, .iload 4, 2), (9, .if_icmp .ge 13, 3), (12, .aload_n 0, 1), (13, .iload_n 3, 1), (14, .lload_n 1, 1), (15, .lastore, 1), (16, .iinc 3 1, 3), (19, .goto (-13), 3), (22, .return_, 1)]
theorem ro_Arr_fillJ : rw_Arr_fillJ.all (fun r => decide (decode prog_17_method_101_code r.1 = .ok r.2)) = true := by decide +kernel
theorem d_Arr_fillJ_0 : decode prog_17_method_101_code 0 = .ok (.iconst 0, 1) := am_row (r := (0, .iconst 0, 1)) ro_Arr_fillJ 0 rfl
theorem d_Arr_fillJ_1 : decode prog_17_method_101_code 1 = .ok (.istore_n 3, 1) := am_row (r := (1, .istore_n 3, 1)) ro_Arr_fillJ 1 rfl
theorem d_Arr_fillJ_2 : decode prog_17_method_101_code 2 = .ok (.aload_n 0, 1) := am_row (r := (2, .aload_n 0, 1)) ro_Arr_fillJ 2 rfl
theorem d_Arr_fillJ_3 : decode prog_17_method_101_code 3 = .ok (.arraylength, 1) := am_row (r := (3, .arraylength, 1)) ro_Arr_fillJ 3 rfl
theorem d_Arr_fillJ_4 : decode prog_17_method_101_code 4 = .ok (.istore 4, 2) := am_row (r := (4, .istore 4, 2)) ro_Arr_fillJ 4 rfl
theorem d_Arr_fillJ_6 : decode prog_17_method_101_code 6 = .ok (.iload_n 3, 1) := am_row (r := (6, .iload_n 3, 1)) ro_Arr_fillJ 5 rfl
theorem d_Arr_fillJ_7 : decode prog_17_method_101_code 7 = .ok (.iload 4, 2) := am_row (r := (7, .iload 4, 2)) ro_Arr_fillJ 6 rfl
theorem d_Arr_fillJ_9 : decode prog_17_method_101_code 9 = .ok (.if_icmp .ge 13, 3) := am_row (r := (9, .if_icmp .ge 13, 3)) ro_Arr_fillJ 7 rfl
theorem d_Arr_fillJ_12 : decode prog_17_method_101_code 12 = .ok (.aload_n 0, 1) := am_row (r := (12, .aload_n 0, 1)) ro_Arr_fillJ 8 rfl
theorem d_Arr_fillJ_13 : decode prog_17_method_101_code 13 = .ok (.iload_n 3, 1) := am_row (r := (13, .iload_n 3, 1)) ro_Arr_fillJ 9 rfl
theorem d_Arr_fillJ_14 : decode prog_17_method_101_code 14 = .ok (.lload_n 1, 1) := am_row (r := (14, .lload_n 1, 1)) ro_Arr_fillJ 10 rfl
theorem d_Arr_fillJ_15 : decode prog_17_method_101_code 15 = .ok (.lastore, 1) := am_row (r := (15, .lastore, 1)) ro_Arr_fillJ 11 rfl
theorem d_Arr_fillJ_16 : decode prog_17_method_101_code 16 = .ok (.iinc 3 1, 3) := am_row (r := (16, .iinc 3 1, 3)) ro_Arr_fillJ 12 rfl
theorem d_Arr_fillJ_19 : decode prog_17_method_101_code 19 = .ok (.goto (-13), 3) := am_row (r := (19, .goto (-13), 3)) ro_Arr_fillJ 13 rfl
theorem d_Arr_fillJ_22 : decode prog_17_method_101_code 22 = .ok (.return_, 1) := am_row (r := (22, .return_, 1)) ro_Arr_fillJ 14 rfl
abbrev y_Rim_become : MethodName := ⟨"WheelDisc$Rim", "become", "(II)V"⟩
theorem c_Rim_become : Cond.code y_Rim_become prog_8_method_2_code 3 none ∈ am_T := am_mem 360 (by decide +kernel) rfl
def rw_Rim_become : List (Nat × Instr × Nat) := [(0, .aload_n 0, 1), (1, .iload_n 1, 1), (2, .putfield 13, 3), (5, .aload_n 0, 1), (6, .iload_n 2, 1), (7, .putfield 17, 3), (10, .aload_n 0, 1), (11, .getfield 9, 3), (14, .lconst 0, 1), (15, .invokestatic 20, 3), (18, .return_, 1)]
theorem ro_Rim_become : rw_Rim_become.all (fun r => decide (decode prog_8_method_2_code r.1 = .ok r.2)) = true := by decide +kernel
theorem d_Rim_become_0 : decode prog_8_method_2_code 0 = .ok (.aload_n 0, 1) := am_row (r := (0, .aload_n 0, 1)) ro_Rim_become 0 rfl
theorem d_Rim_become_1 : decode prog_8_method_2_code 1 = .ok (.iload_n 1, 1) := am_row (r := (1, .iload_n 1, 1)) ro_Rim_become 1 rfl
theorem d_Rim_become_2 : decode prog_8_method_2_code 2 = .ok (.putfield 13, 3) := am_row (r := (2, .putfield 13, 3)) ro_Rim_become 2 rfl
theorem d_Rim_become_5 : decode prog_8_method_2_code 5 = .ok (.aload_n 0, 1) := am_row (r := (5, .aload_n 0, 1)) ro_Rim_become 3 rfl
theorem d_Rim_become_6 : decode prog_8_method_2_code 6 = .ok (.iload_n 2, 1) := am_row (r := (6, .iload_n 2, 1)) ro_Rim_become 4 rfl
theorem d_Rim_become_7 : decode prog_8_method_2_code 7 = .ok (.putfield 17, 3) := am_row (r := (7, .putfield 17, 3)) ro_Rim_become 5 rfl
theorem d_Rim_become_10 : decode prog_8_method_2_code 10 = .ok (.aload_n 0, 1) := am_row (r := (10, .aload_n 0, 1)) ro_Rim_become 6 rfl
theorem d_Rim_become_11 : decode prog_8_method_2_code 11 = .ok (.getfield 9, 3) := am_row (r := (11, .getfield 9, 3)) ro_Rim_become 7 rfl
theorem d_Rim_become_14 : decode prog_8_method_2_code 14 = .ok (.lconst 0, 1) := am_row (r := (14, .lconst 0, 1)) ro_Rim_become 8 rfl
theorem d_Rim_become_15 : decode prog_8_method_2_code 15 = .ok (.invokestatic 20, 3) := am_row (r := (15, .invokestatic 20, 3)) ro_Rim_become 9 rfl
theorem d_Rim_become_18 : decode prog_8_method_2_code 18 = .ok (.return_, 1) := am_row (r := (18, .return_, 1)) ro_Rim_become 10 rfl
abbrev y_WD_accept : MethodName := ⟨"WheelDisc", "accept", "(I)I"⟩
theorem c_WD_accept : Cond.code y_WD_accept prog_1_method_41_code 2 (some .int) ∈ am_T := am_mem 367 (by decide +kernel) rfl
def rw_WD_accept : List (Nat × Instr × Nat) := [(0, .aload_n 0, 1), (1, .iconst 0, 1), (2, .putfield 83, 3), (5, .iload_n 1, 1), (6, .ireturn, 1)]
theorem ro_WD_accept : rw_WD_accept.all (fun r => decide (decode prog_1_method_41_code r.1 = .ok r.2)) = true := by decide +kernel
theorem d_WD_accept_0 : decode prog_1_method_41_code 0 = .ok (.aload_n 0, 1) := am_row (r := (0, .aload_n 0, 1)) ro_WD_accept 0 rfl
theorem d_WD_accept_1 : decode prog_1_method_41_code 1 = .ok (.iconst 0, 1) := am_row (r := (1, .iconst 0, 1)) ro_WD_accept 1 rfl
theorem d_WD_accept_2 : decode prog_1_method_41_code 2 = .ok (.putfield 83, 3) := am_row (r := (2, .putfield 83, 3)) ro_WD_accept 2 rfl
theorem d_WD_accept_5 : decode prog_1_method_41_code 5 = .ok (.iload_n 1, 1) := am_row (r := (5, .iload_n 1, 1)) ro_WD_accept 3 rfl
theorem d_WD_accept_6 : decode prog_1_method_41_code 6 = .ok (.ireturn, 1) := am_row (r := (6, .ireturn, 1)) ro_WD_accept 4 rfl
abbrev y_WD_rim : MethodName := ⟨"WheelDisc", "rim", "(II)I"⟩
theorem c_WD_rim : Cond.code y_WD_rim prog_1_method_2_code 3 (some .int) ∈ am_T := am_mem 356 (by decide +kernel) rfl
def rw_WD_rim : List (Nat × Instr × Nat) := [(0, .iload_n 1, 1), (1, .iconst 3, 1), (2, .if_icmp .ne 18, 3), (5, .aload_n 0, 1), (6, .getfield 10, 3), (9, .iconst 3, 1), (10, .iconst 0, 1), (11, .invokevirtual 87, 3), (14, .aload_n 0, 1), (15, .iconst 0, 1), (16, .invokevirtual 91, 3), (19, .ireturn, 1), (20, .iload_n 1, 1), (21, .ifCond .lt 14, 3), (24, .iload_n 1, 1), (25, .iconst 2, 1), (26, .if_icmp .gt 9, 3), (29, .iload_n 2, 1), (30, .bipush 64, 2), (32, .if_icmp .le 9, 3), (35, .aload_n 0, 1), (36, .iconst 1, 1), (37, .invokevirtual 95, 3), (40, .ireturn, 1), (41, .iload_n 2, 1), (42, .ifCond .ge 9, 3), (45, .aload_n 0, 1), (46, .iconst 3, 1), (47, .invokevirtual 95, 3), (50, .ireturn, 1), (51, .aload_n 0, 1), (52, .getfield 10, 3), (55, .iload_n 1, 1), (56, .iload_n 2, 1), (57, .invokevirtual 87, 3), (60, .aload_n 0, 1), (61, .iload_n 2, 1), (62, .invokevirtual 91, 3), (65, .ireturn, 1)]
theorem ro_WD_rim : rw_WD_rim.all (fun r => decide (decode prog_1_method_2_code r.1 = .ok r.2)) = true := by decide +kernel
theorem d_WD_rim_0 : decode prog_1_method_2_code 0 = .ok (.iload_n 1, 1) := am_row (r := (0, .iload_n 1, 1)) ro_WD_rim 0 rfl
theorem d_WD_rim_1 : decode prog_1_method_2_code 1 = .ok (.iconst 3, 1) := am_row (r := (1, .iconst 3, 1)) ro_WD_rim 1 rfl
theorem d_WD_rim_2 : decode prog_1_method_2_code 2 = .ok (.if_icmp .ne 18, 3) := am_row (r := (2, .if_icmp .ne 18, 3)) ro_WD_rim 2 rfl
theorem d_WD_rim_5 : decode prog_1_method_2_code 5 = .ok (.aload_n 0, 1) := am_row (r := (5, .aload_n 0, 1)) ro_WD_rim 3 rfl
theorem d_WD_rim_6 : decode prog_1_method_2_code 6 = .ok (.getfield 10, 3) := am_row (r := (6, .getfield 10, 3)) ro_WD_rim 4 rfl
theorem d_WD_rim_9 : decode prog_1_method_2_code 9 = .ok (.iconst 3, 1) := am_row (r := (9, .iconst 3, 1)) ro_WD_rim 5 rfl
theorem d_WD_rim_10 : decode prog_1_method_2_code 10 = .ok (.iconst 0, 1) := am_row (r := (10, .iconst 0, 1)) ro_WD_rim 6 rfl
theorem d_WD_rim_11 : decode prog_1_method_2_code 11 = .ok (.invokevirtual 87, 3) := am_row (r := (11, .invokevirtual 87, 3)) ro_WD_rim 7 rfl
theorem d_WD_rim_14 : decode prog_1_method_2_code 14 = .ok (.aload_n 0, 1) := am_row (r := (14, .aload_n 0, 1)) ro_WD_rim 8 rfl
theorem d_WD_rim_15 : decode prog_1_method_2_code 15 = .ok (.iconst 0, 1) := am_row (r := (15, .iconst 0, 1)) ro_WD_rim 9 rfl
theorem d_WD_rim_16 : decode prog_1_method_2_code 16 = .ok (.invokevirtual 91, 3) := am_row (r := (16, .invokevirtual 91, 3)) ro_WD_rim 10 rfl
theorem d_WD_rim_19 : decode prog_1_method_2_code 19 = .ok (.ireturn, 1) := am_row (r := (19, .ireturn, 1)) ro_WD_rim 11 rfl
theorem d_WD_rim_20 : decode prog_1_method_2_code 20 = .ok (.iload_n 1, 1) := am_row (r := (20, .iload_n 1, 1)) ro_WD_rim 12 rfl
theorem d_WD_rim_21 : decode prog_1_method_2_code 21 = .ok (.ifCond .lt 14, 3) := am_row (r := (21, .ifCond .lt 14, 3)) ro_WD_rim 13 rfl
theorem d_WD_rim_24 : decode prog_1_method_2_code 24 = .ok (.iload_n 1, 1) := am_row (r := (24, .iload_n 1, 1)) ro_WD_rim 14 rfl
theorem d_WD_rim_25 : decode prog_1_method_2_code 25 = .ok (.iconst 2, 1) := am_row (r := (25, .iconst 2, 1)) ro_WD_rim 15 rfl
theorem d_WD_rim_26 : decode prog_1_method_2_code 26 = .ok (.if_icmp .gt 9, 3) := am_row (r := (26, .if_icmp .gt 9, 3)) ro_WD_rim 16 rfl
theorem d_WD_rim_29 : decode prog_1_method_2_code 29 = .ok (.iload_n 2, 1) := am_row (r := (29, .iload_n 2, 1)) ro_WD_rim 17 rfl
theorem d_WD_rim_30 : decode prog_1_method_2_code 30 = .ok (.bipush 64, 2) := am_row (r := (30, .bipush 64, 2)) ro_WD_rim 18 rfl
theorem d_WD_rim_32 : decode prog_1_method_2_code 32 = .ok (.if_icmp .le 9, 3) := am_row (r := (32, .if_icmp .le 9, 3)) ro_WD_rim 19 rfl
theorem d_WD_rim_35 : decode prog_1_method_2_code 35 = .ok (.aload_n 0, 1) := am_row (r := (35, .aload_n 0, 1)) ro_WD_rim 20 rfl
theorem d_WD_rim_36 : decode prog_1_method_2_code 36 = .ok (.iconst 1, 1) := am_row (r := (36, .iconst 1, 1)) ro_WD_rim 21 rfl
theorem d_WD_rim_37 : decode prog_1_method_2_code 37 = .ok (.invokevirtual 95, 3) := am_row (r := (37, .invokevirtual 95, 3)) ro_WD_rim 22 rfl
theorem d_WD_rim_40 : decode prog_1_method_2_code 40 = .ok (.ireturn, 1) := am_row (r := (40, .ireturn, 1)) ro_WD_rim 23 rfl
theorem d_WD_rim_41 : decode prog_1_method_2_code 41 = .ok (.iload_n 2, 1) := am_row (r := (41, .iload_n 2, 1)) ro_WD_rim 24 rfl
theorem d_WD_rim_42 : decode prog_1_method_2_code 42 = .ok (.ifCond .ge 9, 3) := am_row (r := (42, .ifCond .ge 9, 3)) ro_WD_rim 25 rfl
theorem d_WD_rim_45 : decode prog_1_method_2_code 45 = .ok (.aload_n 0, 1) := am_row (r := (45, .aload_n 0, 1)) ro_WD_rim 26 rfl
theorem d_WD_rim_46 : decode prog_1_method_2_code 46 = .ok (.iconst 3, 1) := am_row (r := (46, .iconst 3, 1)) ro_WD_rim 27 rfl
theorem d_WD_rim_47 : decode prog_1_method_2_code 47 = .ok (.invokevirtual 95, 3) := am_row (r := (47, .invokevirtual 95, 3)) ro_WD_rim 28 rfl
theorem d_WD_rim_50 : decode prog_1_method_2_code 50 = .ok (.ireturn, 1) := am_row (r := (50, .ireturn, 1)) ro_WD_rim 29 rfl
theorem d_WD_rim_51 : decode prog_1_method_2_code 51 = .ok (.aload_n 0, 1) := am_row (r := (51, .aload_n 0, 1)) ro_WD_rim 30 rfl
theorem d_WD_rim_52 : decode prog_1_method_2_code 52 = .ok (.getfield 10, 3) := am_row (r := (52, .getfield 10, 3)) ro_WD_rim 31 rfl
theorem d_WD_rim_55 : decode prog_1_method_2_code 55 = .ok (.iload_n 1, 1) := am_row (r := (55, .iload_n 1, 1)) ro_WD_rim 32 rfl
theorem d_WD_rim_56 : decode prog_1_method_2_code 56 = .ok (.iload_n 2, 1) := am_row (r := (56, .iload_n 2, 1)) ro_WD_rim 33 rfl
theorem d_WD_rim_57 : decode prog_1_method_2_code 57 = .ok (.invokevirtual 87, 3) := am_row (r := (57, .invokevirtual 87, 3)) ro_WD_rim 34 rfl
theorem d_WD_rim_60 : decode prog_1_method_2_code 60 = .ok (.aload_n 0, 1) := am_row (r := (60, .aload_n 0, 1)) ro_WD_rim 35 rfl
theorem d_WD_rim_61 : decode prog_1_method_2_code 61 = .ok (.iload_n 2, 1) := am_row (r := (61, .iload_n 2, 1)) ro_WD_rim 36 rfl
theorem d_WD_rim_62 : decode prog_1_method_2_code 62 = .ok (.invokevirtual 91, 3) := am_row (r := (62, .invokevirtual 91, 3)) ro_WD_rim 37 rfl
theorem d_WD_rim_65 : decode prog_1_method_2_code 65 = .ok (.ireturn, 1) := am_row (r := (65, .ireturn, 1)) ro_WD_rim 38 rfl
abbrev y_Rim_hasRow : MethodName := ⟨"WheelDisc$Rim", "hasRow", "()Z"⟩
theorem c_Rim_hasRow : Cond.code y_Rim_hasRow prog_8_method_4_code 1 (some .boolean) ∈ am_T := am_mem 379 (by decide +kernel) rfl
def rw_Rim_hasRow : List (Nat × Instr × Nat) := [(0, .aload_n 0, 1), (1, .getfield 13, 3), (4, .iconst (-1), 1), (5, .if_icmp .eq 15, 3), (8, .aload_n 0, 1), (9, .getfield 13, 3), (12, .iconst 3, 1), (13, .if_icmp .eq 7, 3), (16, .iconst 1, 1), (17, .goto 4, 3), (20, .iconst 0, 1), (21, .ireturn, 1)]
theorem ro_Rim_hasRow : rw_Rim_hasRow.all (fun r => decide (decode prog_8_method_4_code r.1 = .ok r.2)) = true := by decide +kernel
theorem d_Rim_hasRow_0 : decode prog_8_method_4_code 0 = .ok (.aload_n 0, 1) := am_row (r := (0, .aload_n 0, 1)) ro_Rim_hasRow 0 rfl
theorem d_Rim_hasRow_1 : decode prog_8_method_4_code 1 = .ok (.getfield 13, 3) := am_row (r := (1, .getfield 13, 3)) ro_Rim_hasRow 1 rfl
theorem d_Rim_hasRow_4 : decode prog_8_method_4_code 4 = .ok (.iconst (-1), 1) := am_row (r := (4, .iconst (-1), 1)) ro_Rim_hasRow 2 rfl
theorem d_Rim_hasRow_5 : decode prog_8_method_4_code 5 = .ok (.if_icmp .eq 15, 3) := am_row (r := (5, .if_icmp .eq 15, 3)) ro_Rim_hasRow 3 rfl
theorem d_Rim_hasRow_8 : decode prog_8_method_4_code 8 = .ok (.aload_n 0, 1) := am_row (r := (8, .aload_n 0, 1)) ro_Rim_hasRow 4 rfl
theorem d_Rim_hasRow_9 : decode prog_8_method_4_code 9 = .ok (.getfield 13, 3) := am_row (r := (9, .getfield 13, 3)) ro_Rim_hasRow 5 rfl
theorem d_Rim_hasRow_12 : decode prog_8_method_4_code 12 = .ok (.iconst 3, 1) := am_row (r := (12, .iconst 3, 1)) ro_Rim_hasRow 6 rfl
theorem d_Rim_hasRow_13 : decode prog_8_method_4_code 13 = .ok (.if_icmp .eq 7, 3) := am_row (r := (13, .if_icmp .eq 7, 3)) ro_Rim_hasRow 7 rfl
theorem d_Rim_hasRow_16 : decode prog_8_method_4_code 16 = .ok (.iconst 1, 1) := am_row (r := (16, .iconst 1, 1)) ro_Rim_hasRow 8 rfl
theorem d_Rim_hasRow_17 : decode prog_8_method_4_code 17 = .ok (.goto 4, 3) := am_row (r := (17, .goto 4, 3)) ro_Rim_hasRow 9 rfl
theorem d_Rim_hasRow_20 : decode prog_8_method_4_code 20 = .ok (.iconst 0, 1) := am_row (r := (20, .iconst 0, 1)) ro_Rim_hasRow 10 rfl
theorem d_Rim_hasRow_21 : decode prog_8_method_4_code 21 = .ok (.ireturn, 1) := am_row (r := (21, .ireturn, 1)) ro_Rim_hasRow 11 rfl
abbrev y_WD_deny : MethodName := ⟨"WheelDisc", "deny", "(I)Z"⟩
theorem c_WD_deny : Cond.code y_WD_deny prog_1_method_44_code 2 (some .boolean) ∈ am_T := am_mem 383 (by decide +kernel) rfl
def rw_WD_deny : List (Nat × Instr × Nat) := [(0, .aload_n 0, 1), (1, .iload_n 1, 1), (2, .putfield 83, 3), (5, .iconst 0, 1), (6, .ireturn, 1)]
theorem ro_WD_deny : rw_WD_deny.all (fun r => decide (decode prog_1_method_44_code r.1 = .ok r.2)) = true := by decide +kernel
theorem d_WD_deny_0 : decode prog_1_method_44_code 0 = .ok (.aload_n 0, 1) := am_row (r := (0, .aload_n 0, 1)) ro_WD_deny 0 rfl
theorem d_WD_deny_1 : decode prog_1_method_44_code 1 = .ok (.iload_n 1, 1) := am_row (r := (1, .iload_n 1, 1)) ro_WD_deny 1 rfl
theorem d_WD_deny_2 : decode prog_1_method_44_code 2 = .ok (.putfield 83, 3) := am_row (r := (2, .putfield 83, 3)) ro_WD_deny 2 rfl
theorem d_WD_deny_5 : decode prog_1_method_44_code 5 = .ok (.iconst 0, 1) := am_row (r := (5, .iconst 0, 1)) ro_WD_deny 3 rfl
theorem d_WD_deny_6 : decode prog_1_method_44_code 6 = .ok (.ireturn, 1) := am_row (r := (6, .ireturn, 1)) ro_WD_deny 4 rfl
abbrev y_WD_grant : MethodName := ⟨"WheelDisc", "grant", "(Z)Z"⟩
theorem c_WD_grant : Cond.code y_WD_grant prog_1_method_43_code 2 (some .boolean) ∈ am_T := am_mem 387 (by decide +kernel) rfl
def rw_WD_grant : List (Nat × Instr × Nat) := [(0, .aload_n 0, 1), (1, .iconst 0, 1), (2, .putfield 83, 3), (5, .iload_n 1, 1), (6, .ireturn, 1)]
theorem ro_WD_grant : rw_WD_grant.all (fun r => decide (decode prog_1_method_43_code r.1 = .ok r.2)) = true := by decide +kernel
theorem d_WD_grant_0 : decode prog_1_method_43_code 0 = .ok (.aload_n 0, 1) := am_row (r := (0, .aload_n 0, 1)) ro_WD_grant 0 rfl
theorem d_WD_grant_1 : decode prog_1_method_43_code 1 = .ok (.iconst 0, 1) := am_row (r := (1, .iconst 0, 1)) ro_WD_grant 1 rfl
theorem d_WD_grant_2 : decode prog_1_method_43_code 2 = .ok (.putfield 83, 3) := am_row (r := (2, .putfield 83, 3)) ro_WD_grant 2 rfl
theorem d_WD_grant_5 : decode prog_1_method_43_code 5 = .ok (.iload_n 1, 1) := am_row (r := (5, .iload_n 1, 1)) ro_WD_grant 3 rfl
theorem d_WD_grant_6 : decode prog_1_method_43_code 6 = .ok (.ireturn, 1) := am_row (r := (6, .ireturn, 1)) ro_WD_grant 4 rfl
abbrev y_WD_entry : MethodName := ⟨"WheelDisc", "entry", "(IJ)Z"⟩
theorem c_WD_entry : Cond.code y_WD_entry prog_1_method_3_code 4 (some .boolean) ∈ am_T := am_mem 375 (by decide +kernel) rfl
def rw_WD_entry : List (Nat × Instr × Nat) := [(0, .aload_n 0, 1), (1, .getfield 10, 3), (4, .invokevirtual 98, 3), (7, .ifCond .ne 9, 3), (10, .aload_n 0, 1), (11, .iconst 2, 1), (12, .invokevirtual 102, 3), (15, .ireturn, 1), (16, .iload_n 1, 1), (17, .ifCond .lt 14, 3), (20, .iload_n 1, 1), (21, .aload_n 0, 1), (22, .getfield 10, 3), (25, .getfield 106, 3), (28, .if_icmp .lt 9, 3), (31, .aload_n 0, 1), (32, .iconst 1, 1), (33, .invokevirtual 102, 3), (36, .ireturn, 1), (37, .aload_n 0, 1), (38, .getfield 10, 3), (41, .getfield 109, 3), (44, .iload_n 1, 1), (45, .lload_n 2, 1), (46, .lastore, 1), (47, .aload_n 0, 1), (48, .iconst 1, 1), (49, .invokevirtual 112, 3), (52, .ireturn, 1)]
theorem ro_WD_entry : rw_WD_entry.all (fun r => decide (decode prog_1_method_3_code r.1 = .ok r.2)) = true := by decide +kernel
theorem d_WD_entry_0 : decode prog_1_method_3_code 0 = .ok (.aload_n 0, 1) := am_row (r := (0, .aload_n 0, 1)) ro_WD_entry 0 rfl
theorem d_WD_entry_1 : decode prog_1_method_3_code 1 = .ok (.getfield 10, 3) := am_row (r := (1, .getfield 10, 3)) ro_WD_entry 1 rfl
theorem d_WD_entry_4 : decode prog_1_method_3_code 4 = .ok (.invokevirtual 98, 3) := am_row (r := (4, .invokevirtual 98, 3)) ro_WD_entry 2 rfl
theorem d_WD_entry_7 : decode prog_1_method_3_code 7 = .ok (.ifCond .ne 9, 3) := am_row (r := (7, .ifCond .ne 9, 3)) ro_WD_entry 3 rfl
theorem d_WD_entry_10 : decode prog_1_method_3_code 10 = .ok (.aload_n 0, 1) := am_row (r := (10, .aload_n 0, 1)) ro_WD_entry 4 rfl
theorem d_WD_entry_11 : decode prog_1_method_3_code 11 = .ok (.iconst 2, 1) := am_row (r := (11, .iconst 2, 1)) ro_WD_entry 5 rfl
theorem d_WD_entry_12 : decode prog_1_method_3_code 12 = .ok (.invokevirtual 102, 3) := am_row (r := (12, .invokevirtual 102, 3)) ro_WD_entry 6 rfl
theorem d_WD_entry_15 : decode prog_1_method_3_code 15 = .ok (.ireturn, 1) := am_row (r := (15, .ireturn, 1)) ro_WD_entry 7 rfl
theorem d_WD_entry_16 : decode prog_1_method_3_code 16 = .ok (.iload_n 1, 1) := am_row (r := (16, .iload_n 1, 1)) ro_WD_entry 8 rfl
theorem d_WD_entry_17 : decode prog_1_method_3_code 17 = .ok (.ifCond .lt 14, 3) := am_row (r := (17, .ifCond .lt 14, 3)) ro_WD_entry 9 rfl
theorem d_WD_entry_20 : decode prog_1_method_3_code 20 = .ok (.iload_n 1, 1) := am_row (r := (20, .iload_n 1, 1)) ro_WD_entry 10 rfl
theorem d_WD_entry_21 : decode prog_1_method_3_code 21 = .ok (.aload_n 0, 1) := am_row (r := (21, .aload_n 0, 1)) ro_WD_entry 11 rfl
theorem d_WD_entry_22 : decode prog_1_method_3_code 22 = .ok (.getfield 10, 3) := am_row (r := (22, .getfield 10, 3)) ro_WD_entry 12 rfl
theorem d_WD_entry_25 : decode prog_1_method_3_code 25 = .ok (.getfield 106, 3) := am_row (r := (25, .getfield 106, 3)) ro_WD_entry 13 rfl
theorem d_WD_entry_28 : decode prog_1_method_3_code 28 = .ok (.if_icmp .lt 9, 3) := am_row (r := (28, .if_icmp .lt 9, 3)) ro_WD_entry 14 rfl
theorem d_WD_entry_31 : decode prog_1_method_3_code 31 = .ok (.aload_n 0, 1) := am_row (r := (31, .aload_n 0, 1)) ro_WD_entry 15 rfl
theorem d_WD_entry_32 : decode prog_1_method_3_code 32 = .ok (.iconst 1, 1) := am_row (r := (32, .iconst 1, 1)) ro_WD_entry 16 rfl
theorem d_WD_entry_33 : decode prog_1_method_3_code 33 = .ok (.invokevirtual 102, 3) := am_row (r := (33, .invokevirtual 102, 3)) ro_WD_entry 17 rfl
theorem d_WD_entry_36 : decode prog_1_method_3_code 36 = .ok (.ireturn, 1) := am_row (r := (36, .ireturn, 1)) ro_WD_entry 18 rfl
theorem d_WD_entry_37 : decode prog_1_method_3_code 37 = .ok (.aload_n 0, 1) := am_row (r := (37, .aload_n 0, 1)) ro_WD_entry 19 rfl
theorem d_WD_entry_38 : decode prog_1_method_3_code 38 = .ok (.getfield 10, 3) := am_row (r := (38, .getfield 10, 3)) ro_WD_entry 20 rfl
theorem d_WD_entry_41 : decode prog_1_method_3_code 41 = .ok (.getfield 109, 3) := am_row (r := (41, .getfield 109, 3)) ro_WD_entry 21 rfl
theorem d_WD_entry_44 : decode prog_1_method_3_code 44 = .ok (.iload_n 1, 1) := am_row (r := (44, .iload_n 1, 1)) ro_WD_entry 22 rfl
theorem d_WD_entry_45 : decode prog_1_method_3_code 45 = .ok (.lload_n 2, 1) := am_row (r := (45, .lload_n 2, 1)) ro_WD_entry 23 rfl
theorem d_WD_entry_46 : decode prog_1_method_3_code 46 = .ok (.lastore, 1) := am_row (r := (46, .lastore, 1)) ro_WD_entry 24 rfl
theorem d_WD_entry_47 : decode prog_1_method_3_code 47 = .ok (.aload_n 0, 1) := am_row (r := (47, .aload_n 0, 1)) ro_WD_entry 25 rfl
theorem d_WD_entry_48 : decode prog_1_method_3_code 48 = .ok (.iconst 1, 1) := am_row (r := (48, .iconst 1, 1)) ro_WD_entry 26 rfl
theorem d_WD_entry_49 : decode prog_1_method_3_code 49 = .ok (.invokevirtual 112, 3) := am_row (r := (49, .invokevirtual 112, 3)) ro_WD_entry 27 rfl
theorem d_WD_entry_52 : decode prog_1_method_3_code 52 = .ok (.ireturn, 1) := am_row (r := (52, .ireturn, 1)) ro_WD_entry 28 rfl
abbrev y_Disc_become : MethodName := ⟨"WheelDisc$Disc", "become", "(LWheelDisc$Disc;)V"⟩
theorem c_Disc_become : Cond.code y_Disc_become prog_2_method_3_code 2 none ∈ am_T := am_mem 403 (by decide +kernel) rfl
def rw_Disc_become : List (Nat × Instr × Nat) := [(0, .aload_n 0, 1), (1, .aload_n 1, 1), (2, .getfield 22, 3), (5, .putfield 22, 3), (8, .aload_n 0, 1), (9, .aload_n 1, 1), (10, .getfield 26, 3), (13, .putfield 26, 3), (16, .aload_n 0, 1), (17, .aload_n 1, 1), (18, .getfield 29, 3), (21, .putfield 29, 3), (24, .aload_n 1, 1), (25, .getfield 11, 3), (28, .iconst 0, 1), (29, .aload_n 0, 1), (30, .getfield 11, 3), (33, .iconst 0, 1), (34, .aload_n 0, 1), (35, .getfield 11, 3), (38, .arraylength, 1), (39, .invokestatic 38, 3), (42, .aload_n 1, 1), (43, .getfield 15, 3), (46, .iconst 0, 1), (47, .aload_n 0, 1), (48, .getfield 15, 3), (51, .iconst 0, 1), (52, .bipush 10, 2), (54, .invokestatic 38, 3), (57, .aload_n 1, 1), (58, .getfield 19, 3), (61, .iconst 0, 1), (62, .aload_n 0, 1), (63, .getfield 19, 3), (66, .iconst 0, 1), (67, .bipush 10, 2), (69, .invokestatic 38, 3), (72, .return_, 1)]
theorem ro_Disc_become : rw_Disc_become.all (fun r => decide (decode prog_2_method_3_code r.1 = .ok r.2)) = true := by decide +kernel
theorem d_Disc_become_0 : decode prog_2_method_3_code 0 = .ok (.aload_n 0, 1) := am_row (r := (0, .aload_n 0, 1)) ro_Disc_become 0 rfl
theorem d_Disc_become_1 : decode prog_2_method_3_code 1 = .ok (.aload_n 1, 1) := am_row (r := (1, .aload_n 1, 1)) ro_Disc_become 1 rfl
theorem d_Disc_become_2 : decode prog_2_method_3_code 2 = .ok (.getfield 22, 3) := am_row (r := (2, .getfield 22, 3)) ro_Disc_become 2 rfl
theorem d_Disc_become_5 : decode prog_2_method_3_code 5 = .ok (.putfield 22, 3) := am_row (r := (5, .putfield 22, 3)) ro_Disc_become 3 rfl
theorem d_Disc_become_8 : decode prog_2_method_3_code 8 = .ok (.aload_n 0, 1) := am_row (r := (8, .aload_n 0, 1)) ro_Disc_become 4 rfl
theorem d_Disc_become_9 : decode prog_2_method_3_code 9 = .ok (.aload_n 1, 1) := am_row (r := (9, .aload_n 1, 1)) ro_Disc_become 5 rfl
theorem d_Disc_become_10 : decode prog_2_method_3_code 10 = .ok (.getfield 26, 3) := am_row (r := (10, .getfield 26, 3)) ro_Disc_become 6 rfl
theorem d_Disc_become_13 : decode prog_2_method_3_code 13 = .ok (.putfield 26, 3) := am_row (r := (13, .putfield 26, 3)) ro_Disc_become 7 rfl
theorem d_Disc_become_16 : decode prog_2_method_3_code 16 = .ok (.aload_n 0, 1) := am_row (r := (16, .aload_n 0, 1)) ro_Disc_become 8 rfl
theorem d_Disc_become_17 : decode prog_2_method_3_code 17 = .ok (.aload_n 1, 1) := am_row (r := (17, .aload_n 1, 1)) ro_Disc_become 9 rfl
theorem d_Disc_become_18 : decode prog_2_method_3_code 18 = .ok (.getfield 29, 3) := am_row (r := (18, .getfield 29, 3)) ro_Disc_become 10 rfl
theorem d_Disc_become_21 : decode prog_2_method_3_code 21 = .ok (.putfield 29, 3) := am_row (r := (21, .putfield 29, 3)) ro_Disc_become 11 rfl
theorem d_Disc_become_24 : decode prog_2_method_3_code 24 = .ok (.aload_n 1, 1) := am_row (r := (24, .aload_n 1, 1)) ro_Disc_become 12 rfl
theorem d_Disc_become_25 : decode prog_2_method_3_code 25 = .ok (.getfield 11, 3) := am_row (r := (25, .getfield 11, 3)) ro_Disc_become 13 rfl
theorem d_Disc_become_28 : decode prog_2_method_3_code 28 = .ok (.iconst 0, 1) := am_row (r := (28, .iconst 0, 1)) ro_Disc_become 14 rfl
theorem d_Disc_become_29 : decode prog_2_method_3_code 29 = .ok (.aload_n 0, 1) := am_row (r := (29, .aload_n 0, 1)) ro_Disc_become 15 rfl
theorem d_Disc_become_30 : decode prog_2_method_3_code 30 = .ok (.getfield 11, 3) := am_row (r := (30, .getfield 11, 3)) ro_Disc_become 16 rfl
theorem d_Disc_become_33 : decode prog_2_method_3_code 33 = .ok (.iconst 0, 1) := am_row (r := (33, .iconst 0, 1)) ro_Disc_become 17 rfl
theorem d_Disc_become_34 : decode prog_2_method_3_code 34 = .ok (.aload_n 0, 1) := am_row (r := (34, .aload_n 0, 1)) ro_Disc_become 18 rfl
theorem d_Disc_become_35 : decode prog_2_method_3_code 35 = .ok (.getfield 11, 3) := am_row (r := (35, .getfield 11, 3)) ro_Disc_become 19 rfl
theorem d_Disc_become_38 : decode prog_2_method_3_code 38 = .ok (.arraylength, 1) := am_row (r := (38, .arraylength, 1)) ro_Disc_become 20 rfl
theorem d_Disc_become_39 : decode prog_2_method_3_code 39 = .ok (.invokestatic 38, 3) := am_row (r := (39, .invokestatic 38, 3)) ro_Disc_become 21 rfl
theorem d_Disc_become_42 : decode prog_2_method_3_code 42 = .ok (.aload_n 1, 1) := am_row (r := (42, .aload_n 1, 1)) ro_Disc_become 22 rfl
theorem d_Disc_become_43 : decode prog_2_method_3_code 43 = .ok (.getfield 15, 3) := am_row (r := (43, .getfield 15, 3)) ro_Disc_become 23 rfl
theorem d_Disc_become_46 : decode prog_2_method_3_code 46 = .ok (.iconst 0, 1) := am_row (r := (46, .iconst 0, 1)) ro_Disc_become 24 rfl
theorem d_Disc_become_47 : decode prog_2_method_3_code 47 = .ok (.aload_n 0, 1) := am_row (r := (47, .aload_n 0, 1)) ro_Disc_become 25 rfl
theorem d_Disc_become_48 : decode prog_2_method_3_code 48 = .ok (.getfield 15, 3) := am_row (r := (48, .getfield 15, 3)) ro_Disc_become 26 rfl
theorem d_Disc_become_51 : decode prog_2_method_3_code 51 = .ok (.iconst 0, 1) := am_row (r := (51, .iconst 0, 1)) ro_Disc_become 27 rfl
theorem d_Disc_become_52 : decode prog_2_method_3_code 52 = .ok (.bipush 10, 2) := am_row (r := (52, .bipush 10, 2)) ro_Disc_become 28 rfl
theorem d_Disc_become_54 : decode prog_2_method_3_code 54 = .ok (.invokestatic 38, 3) := am_row (r := (54, .invokestatic 38, 3)) ro_Disc_become 29 rfl
theorem d_Disc_become_57 : decode prog_2_method_3_code 57 = .ok (.aload_n 1, 1) := am_row (r := (57, .aload_n 1, 1)) ro_Disc_become 30 rfl
theorem d_Disc_become_58 : decode prog_2_method_3_code 58 = .ok (.getfield 19, 3) := am_row (r := (58, .getfield 19, 3)) ro_Disc_become 31 rfl
theorem d_Disc_become_61 : decode prog_2_method_3_code 61 = .ok (.iconst 0, 1) := am_row (r := (61, .iconst 0, 1)) ro_Disc_become 32 rfl
theorem d_Disc_become_62 : decode prog_2_method_3_code 62 = .ok (.aload_n 0, 1) := am_row (r := (62, .aload_n 0, 1)) ro_Disc_become 33 rfl
theorem d_Disc_become_63 : decode prog_2_method_3_code 63 = .ok (.getfield 19, 3) := am_row (r := (63, .getfield 19, 3)) ro_Disc_become 34 rfl
theorem d_Disc_become_66 : decode prog_2_method_3_code 66 = .ok (.iconst 0, 1) := am_row (r := (66, .iconst 0, 1)) ro_Disc_become 35 rfl
theorem d_Disc_become_67 : decode prog_2_method_3_code 67 = .ok (.bipush 10, 2) := am_row (r := (67, .bipush 10, 2)) ro_Disc_become 36 rfl
theorem d_Disc_become_69 : decode prog_2_method_3_code 69 = .ok (.invokestatic 38, 3) := am_row (r := (69, .invokestatic 38, 3)) ro_Disc_become 37 rfl
theorem d_Disc_become_72 : decode prog_2_method_3_code 72 = .ok (.return_, 1) := am_row (r := (72, .return_, 1)) ro_Disc_become 38 rfl
abbrev y_WD_stepRound : MethodName := ⟨"WheelDisc", "stepRound", "(III)I"⟩
theorem c_WD_stepRound : Cond.code y_WD_stepRound prog_1_method_51_code 4 (some .int) ∈ am_T := am_mem 409 (by decide +kernel) rfl
def rw_WD_stepRound : List (Nat × Instr × Nat) := [(0, .iload_n 0, 1), (1, .iload_n 1, 1), (2, .iadd, 1), (3, .istore_n 3, 1), (4, .iload_n 3, 1), (5, .iload_n 2, 1), (6, .if_icmp .lt 5, 3), (9, .iconst 0, 1), (10, .ireturn, 1), (11, .iload_n 3, 1), (12, .ifCond .ge 9, 3), (15, .iload_n 2, 1), (16, .iconst 1, 1), (17, .isub, 1), (18, .goto 4, 3), (21, .iload_n 3, 1), (22, .ireturn, 1)]
theorem ro_WD_stepRound : rw_WD_stepRound.all (fun r => decide (decode prog_1_method_51_code r.1 = .ok r.2)) = true := by decide +kernel
theorem d_WD_stepRound_0 : decode prog_1_method_51_code 0 = .ok (.iload_n 0, 1) := am_row (r := (0, .iload_n 0, 1)) ro_WD_stepRound 0 rfl
theorem d_WD_stepRound_1 : decode prog_1_method_51_code 1 = .ok (.iload_n 1, 1) := am_row (r := (1, .iload_n 1, 1)) ro_WD_stepRound 1 rfl
theorem d_WD_stepRound_2 : decode prog_1_method_51_code 2 = .ok (.iadd, 1) := am_row (r := (2, .iadd, 1)) ro_WD_stepRound 2 rfl
theorem d_WD_stepRound_3 : decode prog_1_method_51_code 3 = .ok (.istore_n 3, 1) := am_row (r := (3, .istore_n 3, 1)) ro_WD_stepRound 3 rfl
theorem d_WD_stepRound_4 : decode prog_1_method_51_code 4 = .ok (.iload_n 3, 1) := am_row (r := (4, .iload_n 3, 1)) ro_WD_stepRound 4 rfl
theorem d_WD_stepRound_5 : decode prog_1_method_51_code 5 = .ok (.iload_n 2, 1) := am_row (r := (5, .iload_n 2, 1)) ro_WD_stepRound 5 rfl
theorem d_WD_stepRound_6 : decode prog_1_method_51_code 6 = .ok (.if_icmp .lt 5, 3) := am_row (r := (6, .if_icmp .lt 5, 3)) ro_WD_stepRound 6 rfl
theorem d_WD_stepRound_9 : decode prog_1_method_51_code 9 = .ok (.iconst 0, 1) := am_row (r := (9, .iconst 0, 1)) ro_WD_stepRound 7 rfl
theorem d_WD_stepRound_10 : decode prog_1_method_51_code 10 = .ok (.ireturn, 1) := am_row (r := (10, .ireturn, 1)) ro_WD_stepRound 8 rfl
theorem d_WD_stepRound_11 : decode prog_1_method_51_code 11 = .ok (.iload_n 3, 1) := am_row (r := (11, .iload_n 3, 1)) ro_WD_stepRound 9 rfl
theorem d_WD_stepRound_12 : decode prog_1_method_51_code 12 = .ok (.ifCond .ge 9, 3) := am_row (r := (12, .ifCond .ge 9, 3)) ro_WD_stepRound 10 rfl
theorem d_WD_stepRound_15 : decode prog_1_method_51_code 15 = .ok (.iload_n 2, 1) := am_row (r := (15, .iload_n 2, 1)) ro_WD_stepRound 11 rfl
theorem d_WD_stepRound_16 : decode prog_1_method_51_code 16 = .ok (.iconst 1, 1) := am_row (r := (16, .iconst 1, 1)) ro_WD_stepRound 12 rfl
theorem d_WD_stepRound_17 : decode prog_1_method_51_code 17 = .ok (.isub, 1) := am_row (r := (17, .isub, 1)) ro_WD_stepRound 13 rfl
theorem d_WD_stepRound_18 : decode prog_1_method_51_code 18 = .ok (.goto 4, 3) := am_row (r := (18, .goto 4, 3)) ro_WD_stepRound 14 rfl
theorem d_WD_stepRound_21 : decode prog_1_method_51_code 21 = .ok (.iload_n 3, 1) := am_row (r := (21, .iload_n 3, 1)) ro_WD_stepRound 15 rfl
theorem d_WD_stepRound_22 : decode prog_1_method_51_code 22 = .ok (.ireturn, 1) := am_row (r := (22, .ireturn, 1)) ro_WD_stepRound 16 rfl
abbrev y_Hist_remember : MethodName := ⟨"WheelDisc$History", "remember", "(LWheelDisc$Disc;)V"⟩
theorem c_Hist_remember : Cond.code y_Hist_remember prog_5_method_2_code 2 none ∈ am_T := am_mem 399 (by decide +kernel) rfl
def rw_Hist_remember : List (Nat × Instr × Nat) := [(0, .aload_n 0, 1), (1, .getfield 11, 3), (4, .aload_n 0, 1), (5, .getfield 15, 3), (8, .aaload, 1), (9, .aload_n 1, 1), (10, .invokevirtual 23, 3), (13, .aload_n 0, 1), (14, .aload_n 0, 1), (15, .getfield 15, 3), (18, .iconst 1, 1), (19, .bipush 30, 2), (21, .invokestatic 27, 3), (24, .putfield 15, 3), (27, .aload_n 0, 1), (28, .getfield 19, 3), (31, .bipush 30, 2), (33, .if_icmp .ge 13, 3), (36, .aload_n 0, 1), (37, .dup, 1), (38, .getfield 19, 3), (41, .iconst 1, 1), (42, .iadd, 1), (43, .putfield 19, 3), (46, .return_, 1)]
theorem ro_Hist_remember : rw_Hist_remember.all (fun r => decide (decode prog_5_method_2_code r.1 = .ok r.2)) = true := by decide +kernel
theorem d_Hist_remember_0 : decode prog_5_method_2_code 0 = .ok (.aload_n 0, 1) := am_row (r := (0, .aload_n 0, 1)) ro_Hist_remember 0 rfl
theorem d_Hist_remember_1 : decode prog_5_method_2_code 1 = .ok (.getfield 11, 3) := am_row (r := (1, .getfield 11, 3)) ro_Hist_remember 1 rfl
theorem d_Hist_remember_4 : decode prog_5_method_2_code 4 = .ok (.aload_n 0, 1) := am_row (r := (4, .aload_n 0, 1)) ro_Hist_remember 2 rfl
theorem d_Hist_remember_5 : decode prog_5_method_2_code 5 = .ok (.getfield 15, 3) := am_row (r := (5, .getfield 15, 3)) ro_Hist_remember 3 rfl
theorem d_Hist_remember_8 : decode prog_5_method_2_code 8 = .ok (.aaload, 1) := am_row (r := (8, .aaload, 1)) ro_Hist_remember 4 rfl
theorem d_Hist_remember_9 : decode prog_5_method_2_code 9 = .ok (.aload_n 1, 1) := am_row (r := (9, .aload_n 1, 1)) ro_Hist_remember 5 rfl
theorem d_Hist_remember_10 : decode prog_5_method_2_code 10 = .ok (.invokevirtual 23, 3) := am_row (r := (10, .invokevirtual 23, 3)) ro_Hist_remember 6 rfl
theorem d_Hist_remember_13 : decode prog_5_method_2_code 13 = .ok (.aload_n 0, 1) := am_row (r := (13, .aload_n 0, 1)) ro_Hist_remember 7 rfl
theorem d_Hist_remember_14 : decode prog_5_method_2_code 14 = .ok (.aload_n 0, 1) := am_row (r := (14, .aload_n 0, 1)) ro_Hist_remember 8 rfl
theorem d_Hist_remember_15 : decode prog_5_method_2_code 15 = .ok (.getfield 15, 3) := am_row (r := (15, .getfield 15, 3)) ro_Hist_remember 9 rfl
theorem d_Hist_remember_18 : decode prog_5_method_2_code 18 = .ok (.iconst 1, 1) := am_row (r := (18, .iconst 1, 1)) ro_Hist_remember 10 rfl
theorem d_Hist_remember_19 : decode prog_5_method_2_code 19 = .ok (.bipush 30, 2) := am_row (r := (19, .bipush 30, 2)) ro_Hist_remember 11 rfl
theorem d_Hist_remember_21 : decode prog_5_method_2_code 21 = .ok (.invokestatic 27, 3) := am_row (r := (21, .invokestatic 27, 3)) ro_Hist_remember 12 rfl
theorem d_Hist_remember_24 : decode prog_5_method_2_code 24 = .ok (.putfield 15, 3) := am_row (r := (24, .putfield 15, 3)) ro_Hist_remember 13 rfl
theorem d_Hist_remember_27 : decode prog_5_method_2_code 27 = .ok (.aload_n 0, 1) := am_row (r := (27, .aload_n 0, 1)) ro_Hist_remember 14 rfl
theorem d_Hist_remember_28 : decode prog_5_method_2_code 28 = .ok (.getfield 19, 3) := am_row (r := (28, .getfield 19, 3)) ro_Hist_remember 15 rfl
theorem d_Hist_remember_31 : decode prog_5_method_2_code 31 = .ok (.bipush 30, 2) := am_row (r := (31, .bipush 30, 2)) ro_Hist_remember 16 rfl
theorem d_Hist_remember_33 : decode prog_5_method_2_code 33 = .ok (.if_icmp .ge 13, 3) := am_row (r := (33, .if_icmp .ge 13, 3)) ro_Hist_remember 17 rfl
theorem d_Hist_remember_36 : decode prog_5_method_2_code 36 = .ok (.aload_n 0, 1) := am_row (r := (36, .aload_n 0, 1)) ro_Hist_remember 18 rfl
theorem d_Hist_remember_37 : decode prog_5_method_2_code 37 = .ok (.dup, 1) := am_row (r := (37, .dup, 1)) ro_Hist_remember 19 rfl
theorem d_Hist_remember_38 : decode prog_5_method_2_code 38 = .ok (.getfield 19, 3) := am_row (r := (38, .getfield 19, 3)) ro_Hist_remember 20 rfl
theorem d_Hist_remember_41 : decode prog_5_method_2_code 41 = .ok (.iconst 1, 1) := am_row (r := (41, .iconst 1, 1)) ro_Hist_remember 21 rfl
theorem d_Hist_remember_42 : decode prog_5_method_2_code 42 = .ok (.iadd, 1) := am_row (r := (42, .iadd, 1)) ro_Hist_remember 22 rfl
theorem d_Hist_remember_43 : decode prog_5_method_2_code 43 = .ok (.putfield 19, 3) := am_row (r := (43, .putfield 19, 3)) ro_Hist_remember 23 rfl
theorem d_Hist_remember_46 : decode prog_5_method_2_code 46 = .ok (.return_, 1) := am_row (r := (46, .return_, 1)) ro_Hist_remember 24 rfl
abbrev y_Drive_unfollow : MethodName := ⟨"WheelDisc$Drive", "unfollow", "()V"⟩
theorem c_Drive_unfollow : Cond.code y_Drive_unfollow prog_3_method_4_code 1 none ∈ am_T := am_mem 417 (by decide +kernel) rfl
def rw_Drive_unfollow : List (Nat × Instr × Nat) := [(0, .aload_n 0, 1), (1, .iconst 0, 1), (2, .putfield 32, 3), (5, .aload_n 0, 1), (6, .iconst (-1), 1), (7, .putfield 35, 3), (10, .return_, 1)]
theorem ro_Drive_unfollow : rw_Drive_unfollow.all (fun r => decide (decode prog_3_method_4_code r.1 = .ok r.2)) = true := by decide +kernel
theorem d_Drive_unfollow_0 : decode prog_3_method_4_code 0 = .ok (.aload_n 0, 1) := am_row (r := (0, .aload_n 0, 1)) ro_Drive_unfollow 0 rfl
theorem d_Drive_unfollow_1 : decode prog_3_method_4_code 1 = .ok (.iconst 0, 1) := am_row (r := (1, .iconst 0, 1)) ro_Drive_unfollow 1 rfl
theorem d_Drive_unfollow_2 : decode prog_3_method_4_code 2 = .ok (.putfield 32, 3) := am_row (r := (2, .putfield 32, 3)) ro_Drive_unfollow 2 rfl
theorem d_Drive_unfollow_5 : decode prog_3_method_4_code 5 = .ok (.aload_n 0, 1) := am_row (r := (5, .aload_n 0, 1)) ro_Drive_unfollow 3 rfl
theorem d_Drive_unfollow_6 : decode prog_3_method_4_code 6 = .ok (.iconst (-1), 1) := am_row (r := (6, .iconst (-1), 1)) ro_Drive_unfollow 4 rfl
theorem d_Drive_unfollow_7 : decode prog_3_method_4_code 7 = .ok (.putfield 35, 3) := am_row (r := (7, .putfield 35, 3)) ro_Drive_unfollow 5 rfl
theorem d_Drive_unfollow_10 : decode prog_3_method_4_code 10 = .ok (.return_, 1) := am_row (r := (10, .return_, 1)) ro_Drive_unfollow 6 rfl
abbrev y_WD_outdate : MethodName := ⟨"WheelDisc", "outdate", "()V"⟩
theorem c_WD_outdate : Cond.code y_WD_outdate prog_1_method_46_code 1 none ∈ am_T := am_mem 413 (by decide +kernel) rfl
def rw_WD_outdate : List (Nat × Instr × Nat) := [(0, .aload_n 0, 1), (1, .getfield 33, 3), (4, .iconst 1, 1), (5, .putfield 311, 3), (8, .aload_n 0, 1), (9, .getfield 40, 3), (12, .iconst 1, 1), (13, .putfield 314, 3), (16, .aload_n 0, 1), (17, .getfield 57, 3), (20, .invokevirtual 315, 3), (23, .return_, 1)]
theorem ro_WD_outdate : rw_WD_outdate.all (fun r => decide (decode prog_1_method_46_code r.1 = .ok r.2)) = true := by decide +kernel
theorem d_WD_outdate_0 : decode prog_1_method_46_code 0 = .ok (.aload_n 0, 1) := am_row (r := (0, .aload_n 0, 1)) ro_WD_outdate 0 rfl
theorem d_WD_outdate_1 : decode prog_1_method_46_code 1 = .ok (.getfield 33, 3) := am_row (r := (1, .getfield 33, 3)) ro_WD_outdate 1 rfl
theorem d_WD_outdate_4 : decode prog_1_method_46_code 4 = .ok (.iconst 1, 1) := am_row (r := (4, .iconst 1, 1)) ro_WD_outdate 2 rfl
theorem d_WD_outdate_5 : decode prog_1_method_46_code 5 = .ok (.putfield 311, 3) := am_row (r := (5, .putfield 311, 3)) ro_WD_outdate 3 rfl
theorem d_WD_outdate_8 : decode prog_1_method_46_code 8 = .ok (.aload_n 0, 1) := am_row (r := (8, .aload_n 0, 1)) ro_WD_outdate 4 rfl
theorem d_WD_outdate_9 : decode prog_1_method_46_code 9 = .ok (.getfield 40, 3) := am_row (r := (9, .getfield 40, 3)) ro_WD_outdate 5 rfl
theorem d_WD_outdate_12 : decode prog_1_method_46_code 12 = .ok (.iconst 1, 1) := am_row (r := (12, .iconst 1, 1)) ro_WD_outdate 6 rfl
theorem d_WD_outdate_13 : decode prog_1_method_46_code 13 = .ok (.putfield 314, 3) := am_row (r := (13, .putfield 314, 3)) ro_WD_outdate 7 rfl
theorem d_WD_outdate_16 : decode prog_1_method_46_code 16 = .ok (.aload_n 0, 1) := am_row (r := (16, .aload_n 0, 1)) ro_WD_outdate 8 rfl
theorem d_WD_outdate_17 : decode prog_1_method_46_code 17 = .ok (.getfield 57, 3) := am_row (r := (17, .getfield 57, 3)) ro_WD_outdate 9 rfl
theorem d_WD_outdate_20 : decode prog_1_method_46_code 20 = .ok (.invokevirtual 315, 3) := am_row (r := (20, .invokevirtual 315, 3)) ro_WD_outdate 10 rfl
theorem d_WD_outdate_23 : decode prog_1_method_46_code 23 = .ok (.return_, 1) := am_row (r := (23, .return_, 1)) ro_WD_outdate 11 rfl
abbrev y_WD_beginChange : MethodName := ⟨"WheelDisc", "beginChange", "()V"⟩
theorem c_WD_beginChange : Cond.code y_WD_beginChange prog_1_method_45_code 1 none ∈ am_T := am_mem 395 (by decide +kernel) rfl
def rw_WD_beginChange : List (Nat × Instr × Nat) := [(0, .aload_n 0, 1), (1, .getfield 26, 3), (4, .aload_n 0, 1), (5, .getfield 19, 3), (8, .invokevirtual 308, 3), (11, .aload_n 0, 1), (12, .invokevirtual 184, 3), (15, .return_, 1)]
theorem ro_WD_beginChange : rw_WD_beginChange.all (fun r => decide (decode prog_1_method_45_code r.1 = .ok r.2)) = true := by decide +kernel
theorem d_WD_beginChange_0 : decode prog_1_method_45_code 0 = .ok (.aload_n 0, 1) := am_row (r := (0, .aload_n 0, 1)) ro_WD_beginChange 0 rfl
theorem d_WD_beginChange_1 : decode prog_1_method_45_code 1 = .ok (.getfield 26, 3) := am_row (r := (1, .getfield 26, 3)) ro_WD_beginChange 1 rfl
theorem d_WD_beginChange_4 : decode prog_1_method_45_code 4 = .ok (.aload_n 0, 1) := am_row (r := (4, .aload_n 0, 1)) ro_WD_beginChange 2 rfl
theorem d_WD_beginChange_5 : decode prog_1_method_45_code 5 = .ok (.getfield 19, 3) := am_row (r := (5, .getfield 19, 3)) ro_WD_beginChange 3 rfl
theorem d_WD_beginChange_8 : decode prog_1_method_45_code 8 = .ok (.invokevirtual 308, 3) := am_row (r := (8, .invokevirtual 308, 3)) ro_WD_beginChange 4 rfl
theorem d_WD_beginChange_11 : decode prog_1_method_45_code 11 = .ok (.aload_n 0, 1) := am_row (r := (11, .aload_n 0, 1)) ro_WD_beginChange 5 rfl
theorem d_WD_beginChange_12 : decode prog_1_method_45_code 12 = .ok (.invokevirtual 184, 3) := am_row (r := (12, .invokevirtual 184, 3)) ro_WD_beginChange 6 rfl
theorem d_WD_beginChange_15 : decode prog_1_method_45_code 15 = .ok (.return_, 1) := am_row (r := (15, .return_, 1)) ro_WD_beginChange 7 rfl
abbrev y_Disc_empty : MethodName := ⟨"WheelDisc$Disc", "empty", "(I)V"⟩
theorem c_Disc_empty : Cond.code y_Disc_empty prog_2_method_2_code 2 none ∈ am_T := am_mem 421 (by decide +kernel) rfl
def rw_Disc_empty : List (Nat × Instr × Nat) := [(0, .aload_n 0, 1), (1, .iload_n 1, 1), (2, .putfield 22, 3), (5, .aload_n 0, 1), (6, .iconst 0, 1), (7, .putfield 26, 3), (10, .aload_n 0, 1), (11, .iconst 0, 1), (12, .putfield 29, 3), (15, .aload_n 0, 1), (16, .getfield 11, 3), (19, .lconst 0, 1), (20, .invokestatic 32, 3), (23, .return_, 1)]
theorem ro_Disc_empty : rw_Disc_empty.all (fun r => decide (decode prog_2_method_2_code r.1 = .ok r.2)) = true := by decide +kernel
theorem d_Disc_empty_0 : decode prog_2_method_2_code 0 = .ok (.aload_n 0, 1) := am_row (r := (0, .aload_n 0, 1)) ro_Disc_empty 0 rfl
theorem d_Disc_empty_1 : decode prog_2_method_2_code 1 = .ok (.iload_n 1, 1) := am_row (r := (1, .iload_n 1, 1)) ro_Disc_empty 1 rfl
theorem d_Disc_empty_2 : decode prog_2_method_2_code 2 = .ok (.putfield 22, 3) := am_row (r := (2, .putfield 22, 3)) ro_Disc_empty 2 rfl
theorem d_Disc_empty_5 : decode prog_2_method_2_code 5 = .ok (.aload_n 0, 1) := am_row (r := (5, .aload_n 0, 1)) ro_Disc_empty 3 rfl
theorem d_Disc_empty_6 : decode prog_2_method_2_code 6 = .ok (.iconst 0, 1) := am_row (r := (6, .iconst 0, 1)) ro_Disc_empty 4 rfl
theorem d_Disc_empty_7 : decode prog_2_method_2_code 7 = .ok (.putfield 26, 3) := am_row (r := (7, .putfield 26, 3)) ro_Disc_empty 5 rfl
theorem d_Disc_empty_10 : decode prog_2_method_2_code 10 = .ok (.aload_n 0, 1) := am_row (r := (10, .aload_n 0, 1)) ro_Disc_empty 6 rfl
theorem d_Disc_empty_11 : decode prog_2_method_2_code 11 = .ok (.iconst 0, 1) := am_row (r := (11, .iconst 0, 1)) ro_Disc_empty 7 rfl
theorem d_Disc_empty_12 : decode prog_2_method_2_code 12 = .ok (.putfield 29, 3) := am_row (r := (12, .putfield 29, 3)) ro_Disc_empty 8 rfl
theorem d_Disc_empty_15 : decode prog_2_method_2_code 15 = .ok (.aload_n 0, 1) := am_row (r := (15, .aload_n 0, 1)) ro_Disc_empty 9 rfl
theorem d_Disc_empty_16 : decode prog_2_method_2_code 16 = .ok (.getfield 11, 3) := am_row (r := (16, .getfield 11, 3)) ro_Disc_empty 10 rfl
theorem d_Disc_empty_19 : decode prog_2_method_2_code 19 = .ok (.lconst 0, 1) := am_row (r := (19, .lconst 0, 1)) ro_Disc_empty 11 rfl
theorem d_Disc_empty_20 : decode prog_2_method_2_code 20 = .ok (.invokestatic 32, 3) := am_row (r := (20, .invokestatic 32, 3)) ro_Disc_empty 12 rfl
theorem d_Disc_empty_23 : decode prog_2_method_2_code 23 = .ok (.return_, 1) := am_row (r := (23, .return_, 1)) ro_Disc_empty 13 rfl
abbrev y_WD_disc : MethodName := ⟨"WheelDisc", "disc", "(I)Z"⟩
theorem c_WD_disc : Cond.code y_WD_disc prog_1_method_4_code 2 (some .boolean) ∈ am_T := am_mem 391 (by decide +kernel) rfl
def rw_WD_disc : List (Nat × Instr × Nat) := [(0, .iload_n 1, 1), (1, .iconst 1, 1), (2, .if_icmp .lt 10, 3), (5, .iload_n 1, 1), (6, .sipush 512, 3), (9, .if_icmp .le 9, 3), (12, .aload_n 0, 1), (13, .iconst 1, 1), (14, .invokevirtual 102, 3), (17, .ireturn, 1), (18, .aload_n 0, 1), (19, .invokevirtual 116, 3), (22, .aload_n 0, 1), (23, .getfield 19, 3), (26, .iload_n 1, 1), (27, .invokevirtual 119, 3), (30, .aload_n 0, 1), (31, .iconst 1, 1), (32, .invokevirtual 112, 3), (35, .ireturn, 1)]
theorem ro_WD_disc : rw_WD_disc.all (fun r => decide (decode prog_1_method_4_code r.1 = .ok r.2)) = true := by decide +kernel
theorem d_WD_disc_0 : decode prog_1_method_4_code 0 = .ok (.iload_n 1, 1) := am_row (r := (0, .iload_n 1, 1)) ro_WD_disc 0 rfl
theorem d_WD_disc_1 : decode prog_1_method_4_code 1 = .ok (.iconst 1, 1) := am_row (r := (1, .iconst 1, 1)) ro_WD_disc 1 rfl
theorem d_WD_disc_2 : decode prog_1_method_4_code 2 = .ok (.if_icmp .lt 10, 3) := am_row (r := (2, .if_icmp .lt 10, 3)) ro_WD_disc 2 rfl
theorem d_WD_disc_5 : decode prog_1_method_4_code 5 = .ok (.iload_n 1, 1) := am_row (r := (5, .iload_n 1, 1)) ro_WD_disc 3 rfl
theorem d_WD_disc_6 : decode prog_1_method_4_code 6 = .ok (.sipush 512, 3) := am_row (r := (6, .sipush 512, 3)) ro_WD_disc 4 rfl
theorem d_WD_disc_9 : decode prog_1_method_4_code 9 = .ok (.if_icmp .le 9, 3) := am_row (r := (9, .if_icmp .le 9, 3)) ro_WD_disc 5 rfl
theorem d_WD_disc_12 : decode prog_1_method_4_code 12 = .ok (.aload_n 0, 1) := am_row (r := (12, .aload_n 0, 1)) ro_WD_disc 6 rfl
theorem d_WD_disc_13 : decode prog_1_method_4_code 13 = .ok (.iconst 1, 1) := am_row (r := (13, .iconst 1, 1)) ro_WD_disc 7 rfl
theorem d_WD_disc_14 : decode prog_1_method_4_code 14 = .ok (.invokevirtual 102, 3) := am_row (r := (14, .invokevirtual 102, 3)) ro_WD_disc 8 rfl
theorem d_WD_disc_17 : decode prog_1_method_4_code 17 = .ok (.ireturn, 1) := am_row (r := (17, .ireturn, 1)) ro_WD_disc 9 rfl
theorem d_WD_disc_18 : decode prog_1_method_4_code 18 = .ok (.aload_n 0, 1) := am_row (r := (18, .aload_n 0, 1)) ro_WD_disc 10 rfl
theorem d_WD_disc_19 : decode prog_1_method_4_code 19 = .ok (.invokevirtual 116, 3) := am_row (r := (19, .invokevirtual 116, 3)) ro_WD_disc 11 rfl
theorem d_WD_disc_22 : decode prog_1_method_4_code 22 = .ok (.aload_n 0, 1) := am_row (r := (22, .aload_n 0, 1)) ro_WD_disc 12 rfl
theorem d_WD_disc_23 : decode prog_1_method_4_code 23 = .ok (.getfield 19, 3) := am_row (r := (23, .getfield 19, 3)) ro_WD_disc 13 rfl
theorem d_WD_disc_26 : decode prog_1_method_4_code 26 = .ok (.iload_n 1, 1) := am_row (r := (26, .iload_n 1, 1)) ro_WD_disc 14 rfl
theorem d_WD_disc_27 : decode prog_1_method_4_code 27 = .ok (.invokevirtual 119, 3) := am_row (r := (27, .invokevirtual 119, 3)) ro_WD_disc 15 rfl
theorem d_WD_disc_30 : decode prog_1_method_4_code 30 = .ok (.aload_n 0, 1) := am_row (r := (30, .aload_n 0, 1)) ro_WD_disc 16 rfl
theorem d_WD_disc_31 : decode prog_1_method_4_code 31 = .ok (.iconst 1, 1) := am_row (r := (31, .iconst 1, 1)) ro_WD_disc 17 rfl
theorem d_WD_disc_32 : decode prog_1_method_4_code 32 = .ok (.invokevirtual 112, 3) := am_row (r := (32, .invokevirtual 112, 3)) ro_WD_disc 18 rfl
theorem d_WD_disc_35 : decode prog_1_method_4_code 35 = .ok (.ireturn, 1) := am_row (r := (35, .ireturn, 1)) ro_WD_disc 19 rfl
abbrev y_Rim_isThere : MethodName := ⟨"WheelDisc$Rim", "isThere", "()Z"⟩
theorem c_Rim_isThere : Cond.code y_Rim_isThere prog_8_method_3_code 1 (some .boolean) ∈ am_T := am_mem 430 (by decide +kernel) rfl
def rw_Rim_isThere : List (Nat × Instr × Nat) := [(0, .aload_n 0, 1), (1, .getfield 13, 3), (4, .iconst (-1), 1), (5, .if_icmp .eq 7, 3), (8, .iconst 1, 1), (9, .goto 4, 3), (12, .iconst 0, 1), (13, .ireturn, 1)]
theorem ro_Rim_isThere : rw_Rim_isThere.all (fun r => decide (decode prog_8_method_3_code r.1 = .ok r.2)) = true := by decide +kernel
theorem d_Rim_isThere_0 : decode prog_8_method_3_code 0 = .ok (.aload_n 0, 1) := am_row (r := (0, .aload_n 0, 1)) ro_Rim_isThere 0 rfl
theorem d_Rim_isThere_1 : decode prog_8_method_3_code 1 = .ok (.getfield 13, 3) := am_row (r := (1, .getfield 13, 3)) ro_Rim_isThere 1 rfl
theorem d_Rim_isThere_4 : decode prog_8_method_3_code 4 = .ok (.iconst (-1), 1) := am_row (r := (4, .iconst (-1), 1)) ro_Rim_isThere 2 rfl
theorem d_Rim_isThere_5 : decode prog_8_method_3_code 5 = .ok (.if_icmp .eq 7, 3) := am_row (r := (5, .if_icmp .eq 7, 3)) ro_Rim_isThere 3 rfl
theorem d_Rim_isThere_8 : decode prog_8_method_3_code 8 = .ok (.iconst 1, 1) := am_row (r := (8, .iconst 1, 1)) ro_Rim_isThere 4 rfl
theorem d_Rim_isThere_9 : decode prog_8_method_3_code 9 = .ok (.goto 4, 3) := am_row (r := (9, .goto 4, 3)) ro_Rim_isThere 5 rfl
theorem d_Rim_isThere_12 : decode prog_8_method_3_code 12 = .ok (.iconst 0, 1) := am_row (r := (12, .iconst 0, 1)) ro_Rim_isThere 6 rfl
theorem d_Rim_isThere_13 : decode prog_8_method_3_code 13 = .ok (.ireturn, 1) := am_row (r := (13, .ireturn, 1)) ro_Rim_isThere 7 rfl
abbrev y_Disc_addDarkTrack : MethodName := ⟨"WheelDisc$Disc", "addDarkTrack", "()I"⟩
theorem c_Disc_addDarkTrack : Cond.code y_Disc_addDarkTrack prog_2_method_9_code 1 (some .int) ∈ am_T := am_mem 434 (by decide +kernel) rfl
def rw_Disc_addDarkTrack : List (Nat × Instr × Nat) := [(0, .aload_n 0, 1), (1, .dup, 1), (2, .getfield 26, 3), (5, .iconst 1, 1), (6, .iadd, 1), (7, .putfield 26, 3), (10, .aload_n 0, 1), (11, .getfield 26, 3), (14, .iconst 1, 1), (15, .isub, 1), (16, .ireturn, 1)]
theorem ro_Disc_addDarkTrack : rw_Disc_addDarkTrack.all (fun r => decide (decode prog_2_method_9_code r.1 = .ok r.2)) = true := by decide +kernel
theorem d_Disc_addDarkTrack_0 : decode prog_2_method_9_code 0 = .ok (.aload_n 0, 1) := am_row (r := (0, .aload_n 0, 1)) ro_Disc_addDarkTrack 0 rfl
theorem d_Disc_addDarkTrack_1 : decode prog_2_method_9_code 1 = .ok (.dup, 1) := am_row (r := (1, .dup, 1)) ro_Disc_addDarkTrack 1 rfl
theorem d_Disc_addDarkTrack_2 : decode prog_2_method_9_code 2 = .ok (.getfield 26, 3) := am_row (r := (2, .getfield 26, 3)) ro_Disc_addDarkTrack 2 rfl
theorem d_Disc_addDarkTrack_5 : decode prog_2_method_9_code 5 = .ok (.iconst 1, 1) := am_row (r := (5, .iconst 1, 1)) ro_Disc_addDarkTrack 3 rfl
theorem d_Disc_addDarkTrack_6 : decode prog_2_method_9_code 6 = .ok (.iadd, 1) := am_row (r := (6, .iadd, 1)) ro_Disc_addDarkTrack 4 rfl
theorem d_Disc_addDarkTrack_7 : decode prog_2_method_9_code 7 = .ok (.putfield 26, 3) := am_row (r := (7, .putfield 26, 3)) ro_Disc_addDarkTrack 5 rfl
theorem d_Disc_addDarkTrack_10 : decode prog_2_method_9_code 10 = .ok (.aload_n 0, 1) := am_row (r := (10, .aload_n 0, 1)) ro_Disc_addDarkTrack 6 rfl
theorem d_Disc_addDarkTrack_11 : decode prog_2_method_9_code 11 = .ok (.getfield 26, 3) := am_row (r := (11, .getfield 26, 3)) ro_Disc_addDarkTrack 7 rfl
theorem d_Disc_addDarkTrack_14 : decode prog_2_method_9_code 14 = .ok (.iconst 1, 1) := am_row (r := (14, .iconst 1, 1)) ro_Disc_addDarkTrack 8 rfl
theorem d_Disc_addDarkTrack_15 : decode prog_2_method_9_code 15 = .ok (.isub, 1) := am_row (r := (15, .isub, 1)) ro_Disc_addDarkTrack 9 rfl
theorem d_Disc_addDarkTrack_16 : decode prog_2_method_9_code 16 = .ok (.ireturn, 1) := am_row (r := (16, .ireturn, 1)) ro_Disc_addDarkTrack 10 rfl
abbrev y_Rim_isLight : MethodName := ⟨"WheelDisc$Rim", "isLight", "(I)Z"⟩
theorem c_Rim_isLight : Cond.code y_Rim_isLight prog_8_method_5_code 5 (some .boolean) ∈ am_T := am_mem 438 (by decide +kernel) rfl
def rw_Rim_isLight : List (Nat × Instr × Nat) := [(0, .aload_n 0, 1), (1, .invokevirtual 26, 3), (4, .ifCond .ne 5, 3), (7, .iconst 0, 1), (8, .ireturn, 1), (9, .aload_n 0, 1), (10, .getfield 13, 3), (13, .ifCond .ne 7, 3), (16, .iconst 3, 1), (17, .goto 17, 3), (20, .aload_n 0, 1), (21, .getfield 13, 3), (24, .iconst 1, 1), (25, .if_icmp .ne 7, 3), (28, .iconst 4, 1), (29, .goto 5, 3), (32, .bipush 6, 2), (34, .istore_n 2, 1), (35, .iload_n 1, 1), (36, .iload_n 2, 1), (37, .ishr, 1), (38, .istore_n 3, 1), (39, .iload_n 1, 1), (40, .iconst 1, 1), (41, .iload_n 2, 1), (42, .ishl, 1), (43, .iconst 1, 1), (44, .isub, 1), (45, .iand, 1), (46, .istore 4, 2), (48, .iload_n 3, 1), (49, .aload_n 0, 1), (50, .getfield 17, 3), (53, .if_icmp .ge 23, 3), (56, .aload_n 0, 1), (57, .getfield 9, 3), (60, .iload_n 3, 1), (61, .laload, 1), (62, .iload 4, 2), (64, .lushr, 1), (65, .lconst 1, 1), (66, .land, 1), (67, .lconst 0, 1), (68, .lcmp, 1), (69, .ifCond .eq 7, 3), (72, .iconst 1, 1), (73, .goto 4, 3), (76, .iconst 0, 1), (77, .ireturn, 1)]
theorem ro_Rim_isLight : rw_Rim_isLight.all (fun r => decide (decode prog_8_method_5_code r.1 = .ok r.2)) = true := by decide +kernel
theorem d_Rim_isLight_0 : decode prog_8_method_5_code 0 = .ok (.aload_n 0, 1) := am_row (r := (0, .aload_n 0, 1)) ro_Rim_isLight 0 rfl
theorem d_Rim_isLight_1 : decode prog_8_method_5_code 1 = .ok (.invokevirtual 26, 3) := am_row (r := (1, .invokevirtual 26, 3)) ro_Rim_isLight 1 rfl
theorem d_Rim_isLight_4 : decode prog_8_method_5_code 4 = .ok (.ifCond .ne 5, 3) := am_row (r := (4, .ifCond .ne 5, 3)) ro_Rim_isLight 2 rfl
theorem d_Rim_isLight_7 : decode prog_8_method_5_code 7 = .ok (.iconst 0, 1) := am_row (r := (7, .iconst 0, 1)) ro_Rim_isLight 3 rfl
theorem d_Rim_isLight_8 : decode prog_8_method_5_code 8 = .ok (.ireturn, 1) := am_row (r := (8, .ireturn, 1)) ro_Rim_isLight 4 rfl
theorem d_Rim_isLight_9 : decode prog_8_method_5_code 9 = .ok (.aload_n 0, 1) := am_row (r := (9, .aload_n 0, 1)) ro_Rim_isLight 5 rfl
theorem d_Rim_isLight_10 : decode prog_8_method_5_code 10 = .ok (.getfield 13, 3) := am_row (r := (10, .getfield 13, 3)) ro_Rim_isLight 6 rfl
theorem d_Rim_isLight_13 : decode prog_8_method_5_code 13 = .ok (.ifCond .ne 7, 3) := am_row (r := (13, .ifCond .ne 7, 3)) ro_Rim_isLight 7 rfl
theorem d_Rim_isLight_16 : decode prog_8_method_5_code 16 = .ok (.iconst 3, 1) := am_row (r := (16, .iconst 3, 1)) ro_Rim_isLight 8 rfl
theorem d_Rim_isLight_17 : decode prog_8_method_5_code 17 = .ok (.goto 17, 3) := am_row (r := (17, .goto 17, 3)) ro_Rim_isLight 9 rfl
theorem d_Rim_isLight_20 : decode prog_8_method_5_code 20 = .ok (.aload_n 0, 1) := am_row (r := (20, .aload_n 0, 1)) ro_Rim_isLight 10 rfl
theorem d_Rim_isLight_21 : decode prog_8_method_5_code 21 = .ok (.getfield 13, 3) := am_row (r := (21, .getfield 13, 3)) ro_Rim_isLight 11 rfl
theorem d_Rim_isLight_24 : decode prog_8_method_5_code 24 = .ok (.iconst 1, 1) := am_row (r := (24, .iconst 1, 1)) ro_Rim_isLight 12 rfl
theorem d_Rim_isLight_25 : decode prog_8_method_5_code 25 = .ok (.if_icmp .ne 7, 3) := am_row (r := (25, .if_icmp .ne 7, 3)) ro_Rim_isLight 13 rfl
theorem d_Rim_isLight_28 : decode prog_8_method_5_code 28 = .ok (.iconst 4, 1) := am_row (r := (28, .iconst 4, 1)) ro_Rim_isLight 14 rfl
theorem d_Rim_isLight_29 : decode prog_8_method_5_code 29 = .ok (.goto 5, 3) := am_row (r := (29, .goto 5, 3)) ro_Rim_isLight 15 rfl
theorem d_Rim_isLight_32 : decode prog_8_method_5_code 32 = .ok (.bipush 6, 2) := am_row (r := (32, .bipush 6, 2)) ro_Rim_isLight 16 rfl
theorem d_Rim_isLight_34 : decode prog_8_method_5_code 34 = .ok (.istore_n 2, 1) := am_row (r := (34, .istore_n 2, 1)) ro_Rim_isLight 17 rfl
theorem d_Rim_isLight_35 : decode prog_8_method_5_code 35 = .ok (.iload_n 1, 1) := am_row (r := (35, .iload_n 1, 1)) ro_Rim_isLight 18 rfl
theorem d_Rim_isLight_36 : decode prog_8_method_5_code 36 = .ok (.iload_n 2, 1) := am_row (r := (36, .iload_n 2, 1)) ro_Rim_isLight 19 rfl
theorem d_Rim_isLight_37 : decode prog_8_method_5_code 37 = .ok (.ishr, 1) := am_row (r := (37, .ishr, 1)) ro_Rim_isLight 20 rfl
theorem d_Rim_isLight_38 : decode prog_8_method_5_code 38 = .ok (.istore_n 3, 1) := am_row (r := (38, .istore_n 3, 1)) ro_Rim_isLight 21 rfl
theorem d_Rim_isLight_39 : decode prog_8_method_5_code 39 = .ok (.iload_n 1, 1) := am_row (r := (39, .iload_n 1, 1)) ro_Rim_isLight 22 rfl
theorem d_Rim_isLight_40 : decode prog_8_method_5_code 40 = .ok (.iconst 1, 1) := am_row (r := (40, .iconst 1, 1)) ro_Rim_isLight 23 rfl
theorem d_Rim_isLight_41 : decode prog_8_method_5_code 41 = .ok (.iload_n 2, 1) := am_row (r := (41, .iload_n 2, 1)) ro_Rim_isLight 24 rfl
theorem d_Rim_isLight_42 : decode prog_8_method_5_code 42 = .ok (.ishl, 1) := am_row (r := (42, .ishl, 1)) ro_Rim_isLight 25 rfl
theorem d_Rim_isLight_43 : decode prog_8_method_5_code 43 = .ok (.iconst 1, 1) := am_row (r := (43, .iconst 1, 1)) ro_Rim_isLight 26 rfl
theorem d_Rim_isLight_44 : decode prog_8_method_5_code 44 = .ok (.isub, 1) := am_row (r := (44, .isub, 1)) ro_Rim_isLight 27 rfl
theorem d_Rim_isLight_45 : decode prog_8_method_5_code 45 = .ok (.iand, 1) := am_row (r := (45, .iand, 1)) ro_Rim_isLight 28 rfl
theorem d_Rim_isLight_46 : decode prog_8_method_5_code 46 = .ok (.istore 4, 2) := am_row (r := (46, .istore 4, 2)) ro_Rim_isLight 29 rfl
theorem d_Rim_isLight_48 : decode prog_8_method_5_code 48 = .ok (.iload_n 3, 1) := am_row (r := (48, .iload_n 3, 1)) ro_Rim_isLight 30 rfl
theorem d_Rim_isLight_49 : decode prog_8_method_5_code 49 = .ok (.aload_n 0, 1) := am_row (r := (49, .aload_n 0, 1)) ro_Rim_isLight 31 rfl
theorem d_Rim_isLight_50 : decode prog_8_method_5_code 50 = .ok (.getfield 17, 3) := am_row (r := (50, .getfield 17, 3)) ro_Rim_isLight 32 rfl
theorem d_Rim_isLight_53 : decode prog_8_method_5_code 53 = .ok (.if_icmp .ge 23, 3) := am_row (r := (53, .if_icmp .ge 23, 3)) ro_Rim_isLight 33 rfl
theorem d_Rim_isLight_56 : decode prog_8_method_5_code 56 = .ok (.aload_n 0, 1) := am_row (r := (56, .aload_n 0, 1)) ro_Rim_isLight 34 rfl
theorem d_Rim_isLight_57 : decode prog_8_method_5_code 57 = .ok (.getfield 9, 3) := am_row (r := (57, .getfield 9, 3)) ro_Rim_isLight 35 rfl
theorem d_Rim_isLight_60 : decode prog_8_method_5_code 60 = .ok (.iload_n 3, 1) := am_row (r := (60, .iload_n 3, 1)) ro_Rim_isLight 36 rfl
theorem d_Rim_isLight_61 : decode prog_8_method_5_code 61 = .ok (.laload, 1) := am_row (r := (61, .laload, 1)) ro_Rim_isLight 37 rfl
theorem d_Rim_isLight_62 : decode prog_8_method_5_code 62 = .ok (.iload 4, 2) := am_row (r := (62, .iload 4, 2)) ro_Rim_isLight 38 rfl
theorem d_Rim_isLight_64 : decode prog_8_method_5_code 64 = .ok (.lushr, 1) := am_row (r := (64, .lushr, 1)) ro_Rim_isLight 39 rfl
theorem d_Rim_isLight_65 : decode prog_8_method_5_code 65 = .ok (.lconst 1, 1) := am_row (r := (65, .lconst 1, 1)) ro_Rim_isLight 40 rfl
theorem d_Rim_isLight_66 : decode prog_8_method_5_code 66 = .ok (.land, 1) := am_row (r := (66, .land, 1)) ro_Rim_isLight 41 rfl
theorem d_Rim_isLight_67 : decode prog_8_method_5_code 67 = .ok (.lconst 0, 1) := am_row (r := (67, .lconst 0, 1)) ro_Rim_isLight 42 rfl
theorem d_Rim_isLight_68 : decode prog_8_method_5_code 68 = .ok (.lcmp, 1) := am_row (r := (68, .lcmp, 1)) ro_Rim_isLight 43 rfl
theorem d_Rim_isLight_69 : decode prog_8_method_5_code 69 = .ok (.ifCond .eq 7, 3) := am_row (r := (69, .ifCond .eq 7, 3)) ro_Rim_isLight 44 rfl
theorem d_Rim_isLight_72 : decode prog_8_method_5_code 72 = .ok (.iconst 1, 1) := am_row (r := (72, .iconst 1, 1)) ro_Rim_isLight 45 rfl
theorem d_Rim_isLight_73 : decode prog_8_method_5_code 73 = .ok (.goto 4, 3) := am_row (r := (73, .goto 4, 3)) ro_Rim_isLight 46 rfl
theorem d_Rim_isLight_76 : decode prog_8_method_5_code 76 = .ok (.iconst 0, 1) := am_row (r := (76, .iconst 0, 1)) ro_Rim_isLight 47 rfl
theorem d_Rim_isLight_77 : decode prog_8_method_5_code 77 = .ok (.ireturn, 1) := am_row (r := (77, .ireturn, 1)) ro_Rim_isLight 48 rfl
abbrev y_Disc_setLight : MethodName := ⟨"WheelDisc$Disc", "setLight", "(IIZ)V"⟩
theorem c_Disc_setLight : Cond.code y_Disc_setLight prog_2_method_8_code 7 none ∈ am_T := am_mem 443 (by decide +kernel) rfl
def rw_Disc_setLight : List (Nat × Instr × Nat) := [(0, .iload_n 1, 1), (1, .bipush 8, 2), (3, .imul, 1), (4, .iload_n 2, 1), (5, .bipush 6, 2), (7, .ishr, 1), (8, .iadd, 1), (9, .istore 4, 2), (11, .lconst 1, 1), (12, .iload_n 2, 1), (13, .bipush 63, 2), (15, .iand, 1), (16, .lshl, 1), (17, .lstore 5, 2), (19, .aload_n 0, 1), (20, .getfield 11, 3), (23, .iload 4, 2), (25, .iload_n 3, 1), (26, .ifCond .eq 16, 3), (29, .aload_n 0, 1), (30, .getfield 11, 3), (33, .iload 4, 2), (35, .laload, 1), (36, .lload 5, 2), (38, .lor, 1), (39, .goto 17, 3), (42, .aload_n 0, 1), (43, .getfield 11, 3), (46, .iload 4, 2), (48, .laload, 1), (49, .lload 5, 2), (51, .ldc2_w 48, 3), (54, .lxor, 1), (55, .land, 1), (56, .lastore, 1), (57, .return_, 1)]
theorem ro_Disc_setLight : rw_Disc_setLight.all (fun r => decide (decode prog_2_method_8_code r.1 = .ok r.2)) = true := by decide +kernel
theorem d_Disc_setLight_0 : decode prog_2_method_8_code 0 = .ok (.iload_n 1, 1) := am_row (r := (0, .iload_n 1, 1)) ro_Disc_setLight 0 rfl
theorem d_Disc_setLight_1 : decode prog_2_method_8_code 1 = .ok (.bipush 8, 2) := am_row (r := (1, .bipush 8, 2)) ro_Disc_setLight 1 rfl
theorem d_Disc_setLight_3 : decode prog_2_method_8_code 3 = .ok (.imul, 1) := am_row (r := (3, .imul, 1)) ro_Disc_setLight 2 rfl
theorem d_Disc_setLight_4 : decode prog_2_method_8_code 4 = .ok (.iload_n 2, 1) := am_row (r := (4, .iload_n 2, 1)) ro_Disc_setLight 3 rfl
theorem d_Disc_setLight_5 : decode prog_2_method_8_code 5 = .ok (.bipush 6, 2) := am_row (r := (5, .bipush 6, 2)) ro_Disc_setLight 4 rfl
theorem d_Disc_setLight_7 : decode prog_2_method_8_code 7 = .ok (.ishr, 1) := am_row (r := (7, .ishr, 1)) ro_Disc_setLight 5 rfl
theorem d_Disc_setLight_8 : decode prog_2_method_8_code 8 = .ok (.iadd, 1) := am_row (r := (8, .iadd, 1)) ro_Disc_setLight 6 rfl
theorem d_Disc_setLight_9 : decode prog_2_method_8_code 9 = .ok (.istore 4, 2) := am_row (r := (9, .istore 4, 2)) ro_Disc_setLight 7 rfl
theorem d_Disc_setLight_11 : decode prog_2_method_8_code 11 = .ok (.lconst 1, 1) := am_row (r := (11, .lconst 1, 1)) ro_Disc_setLight 8 rfl
theorem d_Disc_setLight_12 : decode prog_2_method_8_code 12 = .ok (.iload_n 2, 1) := am_row (r := (12, .iload_n 2, 1)) ro_Disc_setLight 9 rfl
theorem d_Disc_setLight_13 : decode prog_2_method_8_code 13 = .ok (.bipush 63, 2) := am_row (r := (13, .bipush 63, 2)) ro_Disc_setLight 10 rfl
theorem d_Disc_setLight_15 : decode prog_2_method_8_code 15 = .ok (.iand, 1) := am_row (r := (15, .iand, 1)) ro_Disc_setLight 11 rfl
theorem d_Disc_setLight_16 : decode prog_2_method_8_code 16 = .ok (.lshl, 1) := am_row (r := (16, .lshl, 1)) ro_Disc_setLight 12 rfl
theorem d_Disc_setLight_17 : decode prog_2_method_8_code 17 = .ok (.lstore 5, 2) := am_row (r := (17, .lstore 5, 2)) ro_Disc_setLight 13 rfl
theorem d_Disc_setLight_19 : decode prog_2_method_8_code 19 = .ok (.aload_n 0, 1) := am_row (r := (19, .aload_n 0, 1)) ro_Disc_setLight 14 rfl
theorem d_Disc_setLight_20 : decode prog_2_method_8_code 20 = .ok (.getfield 11, 3) := am_row (r := (20, .getfield 11, 3)) ro_Disc_setLight 15 rfl
theorem d_Disc_setLight_23 : decode prog_2_method_8_code 23 = .ok (.iload 4, 2) := am_row (r := (23, .iload 4, 2)) ro_Disc_setLight 16 rfl
theorem d_Disc_setLight_25 : decode prog_2_method_8_code 25 = .ok (.iload_n 3, 1) := am_row (r := (25, .iload_n 3, 1)) ro_Disc_setLight 17 rfl
theorem d_Disc_setLight_26 : decode prog_2_method_8_code 26 = .ok (.ifCond .eq 16, 3) := am_row (r := (26, .ifCond .eq 16, 3)) ro_Disc_setLight 18 rfl
theorem d_Disc_setLight_29 : decode prog_2_method_8_code 29 = .ok (.aload_n 0, 1) := am_row (r := (29, .aload_n 0, 1)) ro_Disc_setLight 19 rfl
theorem d_Disc_setLight_30 : decode prog_2_method_8_code 30 = .ok (.getfield 11, 3) := am_row (r := (30, .getfield 11, 3)) ro_Disc_setLight 20 rfl
theorem d_Disc_setLight_33 : decode prog_2_method_8_code 33 = .ok (.iload 4, 2) := am_row (r := (33, .iload 4, 2)) ro_Disc_setLight 21 rfl
theorem d_Disc_setLight_35 : decode prog_2_method_8_code 35 = .ok (.laload, 1) := am_row (r := (35, .laload, 1)) ro_Disc_setLight 22 rfl
theorem d_Disc_setLight_36 : decode prog_2_method_8_code 36 = .ok (.lload 5, 2) := am_row (r := (36, .lload 5, 2)) ro_Disc_setLight 23 rfl
theorem d_Disc_setLight_38 : decode prog_2_method_8_code 38 = .ok (.lor, 1) := am_row (r := (38, .lor, 1)) ro_Disc_setLight 24 rfl
theorem d_Disc_setLight_39 : decode prog_2_method_8_code 39 = .ok (.goto 17, 3) := am_row (r := (39, .goto 17, 3)) ro_Disc_setLight 25 rfl
theorem d_Disc_setLight_42 : decode prog_2_method_8_code 42 = .ok (.aload_n 0, 1) := am_row (r := (42, .aload_n 0, 1)) ro_Disc_setLight 26 rfl
theorem d_Disc_setLight_43 : decode prog_2_method_8_code 43 = .ok (.getfield 11, 3) := am_row (r := (43, .getfield 11, 3)) ro_Disc_setLight 27 rfl
theorem d_Disc_setLight_46 : decode prog_2_method_8_code 46 = .ok (.iload 4, 2) := am_row (r := (46, .iload 4, 2)) ro_Disc_setLight 28 rfl
theorem d_Disc_setLight_48 : decode prog_2_method_8_code 48 = .ok (.laload, 1) := am_row (r := (48, .laload, 1)) ro_Disc_setLight 29 rfl
theorem d_Disc_setLight_49 : decode prog_2_method_8_code 49 = .ok (.lload 5, 2) := am_row (r := (49, .lload 5, 2)) ro_Disc_setLight 30 rfl
theorem d_Disc_setLight_51 : decode prog_2_method_8_code 51 = .ok (.ldc2_w 48, 3) := am_row (r := (51, .ldc2_w 48, 3)) ro_Disc_setLight 31 rfl
theorem d_Disc_setLight_54 : decode prog_2_method_8_code 54 = .ok (.lxor, 1) := am_row (r := (54, .lxor, 1)) ro_Disc_setLight 32 rfl
theorem d_Disc_setLight_55 : decode prog_2_method_8_code 55 = .ok (.land, 1) := am_row (r := (55, .land, 1)) ro_Disc_setLight 33 rfl
theorem d_Disc_setLight_56 : decode prog_2_method_8_code 56 = .ok (.lastore, 1) := am_row (r := (56, .lastore, 1)) ro_Disc_setLight 34 rfl
theorem d_Disc_setLight_57 : decode prog_2_method_8_code 57 = .ok (.return_, 1) := am_row (r := (57, .return_, 1)) ro_Disc_setLight 35 rfl
abbrev y_WD_track : MethodName := ⟨"WheelDisc", "track", "()I"⟩
theorem c_WD_track : Cond.code y_WD_track prog_1_method_5_code 3 (some .int) ∈ am_T := am_mem 426 (by decide +kernel) rfl
def rw_WD_track : List (Nat × Instr × Nat) := [(0, .aload_n 0, 1), (1, .getfield 10, 3), (4, .invokevirtual 123, 3), (7, .ifCond .ne 9, 3), (10, .aload_n 0, 1), (11, .iconst 2, 1), (12, .invokevirtual 95, 3), (15, .ireturn, 1), (16, .aload_n 0, 1), (17, .getfield 19, 3), (20, .getfield 126, 3), (23, .bipush 10, 2), (25, .if_icmp .lt 9, 3), (28, .aload_n 0, 1), (29, .iconst 4, 1), (30, .invokevirtual 95, 3), (33, .ireturn, 1), (34, .aload_n 0, 1), (35, .invokevirtual 116, 3), (38, .aload_n 0, 1), (39, .getfield 19, 3), (42, .invokevirtual 129, 3), (45, .istore_n 1, 1), (46, .iconst 0, 1), (47, .istore_n 2, 1), (48, .iload_n 2, 1), (49, .aload_n 0, 1), (50, .getfield 19, 3), (53, .getfield 133, 3), (56, .if_icmp .ge 26, 3), (59, .aload_n 0, 1), (60, .getfield 19, 3), (63, .iload_n 1, 1), (64, .iload_n 2, 1), (65, .aload_n 0, 1), (66, .getfield 10, 3), (69, .iload_n 2, 1), (70, .invokevirtual 136, 3), (73, .invokevirtual 139, 3), (76, .iinc 2 1, 3), (79, .goto (-31), 3), (82, .aload_n 0, 1), (83, .getfield 10, 3), (86, .iconst (-1), 1), (87, .iconst 0, 1), (88, .invokevirtual 87, 3), (91, .aload_n 0, 1), (92, .iload_n 1, 1), (93, .invokevirtual 91, 3), (96, .ireturn, 1)]
theorem ro_WD_track : rw_WD_track.all (fun r => decide (decode prog_1_method_5_code r.1 = .ok r.2)) = true := by decide +kernel
theorem d_WD_track_0 : decode prog_1_method_5_code 0 = .ok (.aload_n 0, 1) := am_row (r := (0, .aload_n 0, 1)) ro_WD_track 0 rfl
theorem d_WD_track_1 : decode prog_1_method_5_code 1 = .ok (.getfield 10, 3) := am_row (r := (1, .getfield 10, 3)) ro_WD_track 1 rfl
theorem d_WD_track_4 : decode prog_1_method_5_code 4 = .ok (.invokevirtual 123, 3) := am_row (r := (4, .invokevirtual 123, 3)) ro_WD_track 2 rfl
theorem d_WD_track_7 : decode prog_1_method_5_code 7 = .ok (.ifCond .ne 9, 3) := am_row (r := (7, .ifCond .ne 9, 3)) ro_WD_track 3 rfl
theorem d_WD_track_10 : decode prog_1_method_5_code 10 = .ok (.aload_n 0, 1) := am_row (r := (10, .aload_n 0, 1)) ro_WD_track 4 rfl
theorem d_WD_track_11 : decode prog_1_method_5_code 11 = .ok (.iconst 2, 1) := am_row (r := (11, .iconst 2, 1)) ro_WD_track 5 rfl
theorem d_WD_track_12 : decode prog_1_method_5_code 12 = .ok (.invokevirtual 95, 3) := am_row (r := (12, .invokevirtual 95, 3)) ro_WD_track 6 rfl
theorem d_WD_track_15 : decode prog_1_method_5_code 15 = .ok (.ireturn, 1) := am_row (r := (15, .ireturn, 1)) ro_WD_track 7 rfl
theorem d_WD_track_16 : decode prog_1_method_5_code 16 = .ok (.aload_n 0, 1) := am_row (r := (16, .aload_n 0, 1)) ro_WD_track 8 rfl
theorem d_WD_track_17 : decode prog_1_method_5_code 17 = .ok (.getfield 19, 3) := am_row (r := (17, .getfield 19, 3)) ro_WD_track 9 rfl
theorem d_WD_track_20 : decode prog_1_method_5_code 20 = .ok (.getfield 126, 3) := am_row (r := (20, .getfield 126, 3)) ro_WD_track 10 rfl
theorem d_WD_track_23 : decode prog_1_method_5_code 23 = .ok (.bipush 10, 2) := am_row (r := (23, .bipush 10, 2)) ro_WD_track 11 rfl
theorem d_WD_track_25 : decode prog_1_method_5_code 25 = .ok (.if_icmp .lt 9, 3) := am_row (r := (25, .if_icmp .lt 9, 3)) ro_WD_track 12 rfl
theorem d_WD_track_28 : decode prog_1_method_5_code 28 = .ok (.aload_n 0, 1) := am_row (r := (28, .aload_n 0, 1)) ro_WD_track 13 rfl
theorem d_WD_track_29 : decode prog_1_method_5_code 29 = .ok (.iconst 4, 1) := am_row (r := (29, .iconst 4, 1)) ro_WD_track 14 rfl
theorem d_WD_track_30 : decode prog_1_method_5_code 30 = .ok (.invokevirtual 95, 3) := am_row (r := (30, .invokevirtual 95, 3)) ro_WD_track 15 rfl
theorem d_WD_track_33 : decode prog_1_method_5_code 33 = .ok (.ireturn, 1) := am_row (r := (33, .ireturn, 1)) ro_WD_track 16 rfl
theorem d_WD_track_34 : decode prog_1_method_5_code 34 = .ok (.aload_n 0, 1) := am_row (r := (34, .aload_n 0, 1)) ro_WD_track 17 rfl
theorem d_WD_track_35 : decode prog_1_method_5_code 35 = .ok (.invokevirtual 116, 3) := am_row (r := (35, .invokevirtual 116, 3)) ro_WD_track 18 rfl
theorem d_WD_track_38 : decode prog_1_method_5_code 38 = .ok (.aload_n 0, 1) := am_row (r := (38, .aload_n 0, 1)) ro_WD_track 19 rfl
theorem d_WD_track_39 : decode prog_1_method_5_code 39 = .ok (.getfield 19, 3) := am_row (r := (39, .getfield 19, 3)) ro_WD_track 20 rfl
theorem d_WD_track_42 : decode prog_1_method_5_code 42 = .ok (.invokevirtual 129, 3) := am_row (r := (42, .invokevirtual 129, 3)) ro_WD_track 21 rfl
theorem d_WD_track_45 : decode prog_1_method_5_code 45 = .ok (.istore_n 1, 1) := am_row (r := (45, .istore_n 1, 1)) ro_WD_track 22 rfl
theorem d_WD_track_46 : decode prog_1_method_5_code 46 = .ok (.iconst 0, 1) := am_row (r := (46, .iconst 0, 1)) ro_WD_track 23 rfl
theorem d_WD_track_47 : decode prog_1_method_5_code 47 = .ok (.istore_n 2, 1) := am_row (r := (47, .istore_n 2, 1)) ro_WD_track 24 rfl
theorem d_WD_track_48 : decode prog_1_method_5_code 48 = .ok (.iload_n 2, 1) := am_row (r := (48, .iload_n 2, 1)) ro_WD_track 25 rfl
theorem d_WD_track_49 : decode prog_1_method_5_code 49 = .ok (.aload_n 0, 1) := am_row (r := (49, .aload_n 0, 1)) ro_WD_track 26 rfl
theorem d_WD_track_50 : decode prog_1_method_5_code 50 = .ok (.getfield 19, 3) := am_row (r := (50, .getfield 19, 3)) ro_WD_track 27 rfl
theorem d_WD_track_53 : decode prog_1_method_5_code 53 = .ok (.getfield 133, 3) := am_row (r := (53, .getfield 133, 3)) ro_WD_track 28 rfl
theorem d_WD_track_56 : decode prog_1_method_5_code 56 = .ok (.if_icmp .ge 26, 3) := am_row (r := (56, .if_icmp .ge 26, 3)) ro_WD_track 29 rfl
theorem d_WD_track_59 : decode prog_1_method_5_code 59 = .ok (.aload_n 0, 1) := am_row (r := (59, .aload_n 0, 1)) ro_WD_track 30 rfl
theorem d_WD_track_60 : decode prog_1_method_5_code 60 = .ok (.getfield 19, 3) := am_row (r := (60, .getfield 19, 3)) ro_WD_track 31 rfl
theorem d_WD_track_63 : decode prog_1_method_5_code 63 = .ok (.iload_n 1, 1) := am_row (r := (63, .iload_n 1, 1)) ro_WD_track 32 rfl
theorem d_WD_track_64 : decode prog_1_method_5_code 64 = .ok (.iload_n 2, 1) := am_row (r := (64, .iload_n 2, 1)) ro_WD_track 33 rfl
theorem d_WD_track_65 : decode prog_1_method_5_code 65 = .ok (.aload_n 0, 1) := am_row (r := (65, .aload_n 0, 1)) ro_WD_track 34 rfl
theorem d_WD_track_66 : decode prog_1_method_5_code 66 = .ok (.getfield 10, 3) := am_row (r := (66, .getfield 10, 3)) ro_WD_track 35 rfl
theorem d_WD_track_69 : decode prog_1_method_5_code 69 = .ok (.iload_n 2, 1) := am_row (r := (69, .iload_n 2, 1)) ro_WD_track 36 rfl
theorem d_WD_track_70 : decode prog_1_method_5_code 70 = .ok (.invokevirtual 136, 3) := am_row (r := (70, .invokevirtual 136, 3)) ro_WD_track 37 rfl
theorem d_WD_track_73 : decode prog_1_method_5_code 73 = .ok (.invokevirtual 139, 3) := am_row (r := (73, .invokevirtual 139, 3)) ro_WD_track 38 rfl
theorem d_WD_track_76 : decode prog_1_method_5_code 76 = .ok (.iinc 2 1, 3) := am_row (r := (76, .iinc 2 1, 3)) ro_WD_track 39 rfl
theorem d_WD_track_79 : decode prog_1_method_5_code 79 = .ok (.goto (-31), 3) := am_row (r := (79, .goto (-31), 3)) ro_WD_track 40 rfl
theorem d_WD_track_82 : decode prog_1_method_5_code 82 = .ok (.aload_n 0, 1) := am_row (r := (82, .aload_n 0, 1)) ro_WD_track 41 rfl
theorem d_WD_track_83 : decode prog_1_method_5_code 83 = .ok (.getfield 10, 3) := am_row (r := (83, .getfield 10, 3)) ro_WD_track 42 rfl
theorem d_WD_track_86 : decode prog_1_method_5_code 86 = .ok (.iconst (-1), 1) := am_row (r := (86, .iconst (-1), 1)) ro_WD_track 43 rfl
theorem d_WD_track_87 : decode prog_1_method_5_code 87 = .ok (.iconst 0, 1) := am_row (r := (87, .iconst 0, 1)) ro_WD_track 44 rfl
theorem d_WD_track_88 : decode prog_1_method_5_code 88 = .ok (.invokevirtual 87, 3) := am_row (r := (88, .invokevirtual 87, 3)) ro_WD_track 45 rfl
theorem d_WD_track_91 : decode prog_1_method_5_code 91 = .ok (.aload_n 0, 1) := am_row (r := (91, .aload_n 0, 1)) ro_WD_track 46 rfl
theorem d_WD_track_92 : decode prog_1_method_5_code 92 = .ok (.iload_n 1, 1) := am_row (r := (92, .iload_n 1, 1)) ro_WD_track 47 rfl
theorem d_WD_track_93 : decode prog_1_method_5_code 93 = .ok (.invokevirtual 91, 3) := am_row (r := (93, .invokevirtual 91, 3)) ro_WD_track 48 rfl
theorem d_WD_track_96 : decode prog_1_method_5_code 96 = .ok (.ireturn, 1) := am_row (r := (96, .ireturn, 1)) ro_WD_track 49 rfl
abbrev y_Disc_hasTrack : MethodName := ⟨"WheelDisc$Disc", "hasTrack", "(I)Z"⟩
theorem c_Disc_hasTrack : Cond.code y_Disc_hasTrack prog_2_method_4_code 2 (some .boolean) ∈ am_T := am_mem 452 (by decide +kernel) rfl
def rw_Disc_hasTrack : List (Nat × Instr × Nat) := [(0, .iload_n 1, 1), (1, .ifCond .lt 15, 3), (4, .iload_n 1, 1), (5, .aload_n 0, 1), (6, .getfield 26, 3), (9, .if_icmp .ge 7, 3), (12, .iconst 1, 1), (13, .goto 4, 3), (16, .iconst 0, 1), (17, .ireturn, 1)]
theorem ro_Disc_hasTrack : rw_Disc_hasTrack.all (fun r => decide (decode prog_2_method_4_code r.1 = .ok r.2)) = true := by decide +kernel
theorem d_Disc_hasTrack_0 : decode prog_2_method_4_code 0 = .ok (.iload_n 1, 1) := am_row (r := (0, .iload_n 1, 1)) ro_Disc_hasTrack 0 rfl
theorem d_Disc_hasTrack_1 : decode prog_2_method_4_code 1 = .ok (.ifCond .lt 15, 3) := am_row (r := (1, .ifCond .lt 15, 3)) ro_Disc_hasTrack 1 rfl
theorem d_Disc_hasTrack_4 : decode prog_2_method_4_code 4 = .ok (.iload_n 1, 1) := am_row (r := (4, .iload_n 1, 1)) ro_Disc_hasTrack 2 rfl
theorem d_Disc_hasTrack_5 : decode prog_2_method_4_code 5 = .ok (.aload_n 0, 1) := am_row (r := (5, .aload_n 0, 1)) ro_Disc_hasTrack 3 rfl
theorem d_Disc_hasTrack_6 : decode prog_2_method_4_code 6 = .ok (.getfield 26, 3) := am_row (r := (6, .getfield 26, 3)) ro_Disc_hasTrack 4 rfl
theorem d_Disc_hasTrack_9 : decode prog_2_method_4_code 9 = .ok (.if_icmp .ge 7, 3) := am_row (r := (9, .if_icmp .ge 7, 3)) ro_Disc_hasTrack 5 rfl
theorem d_Disc_hasTrack_12 : decode prog_2_method_4_code 12 = .ok (.iconst 1, 1) := am_row (r := (12, .iconst 1, 1)) ro_Disc_hasTrack 6 rfl
theorem d_Disc_hasTrack_13 : decode prog_2_method_4_code 13 = .ok (.goto 4, 3) := am_row (r := (13, .goto 4, 3)) ro_Disc_hasTrack 7 rfl
theorem d_Disc_hasTrack_16 : decode prog_2_method_4_code 16 = .ok (.iconst 0, 1) := am_row (r := (16, .iconst 0, 1)) ro_Disc_hasTrack 8 rfl
theorem d_Disc_hasTrack_17 : decode prog_2_method_4_code 17 = .ok (.ireturn, 1) := am_row (r := (17, .ireturn, 1)) ro_Disc_hasTrack 9 rfl
abbrev y_Disc_hasSector : MethodName := ⟨"WheelDisc$Disc", "hasSector", "(I)Z"⟩
theorem c_Disc_hasSector : Cond.code y_Disc_hasSector prog_2_method_5_code 2 (some .boolean) ∈ am_T := am_mem 456 (by decide +kernel) rfl
def rw_Disc_hasSector : List (Nat × Instr × Nat) := [(0, .iload_n 1, 1), (1, .ifCond .lt 15, 3), (4, .iload_n 1, 1), (5, .aload_n 0, 1), (6, .getfield 22, 3), (9, .if_icmp .ge 7, 3), (12, .iconst 1, 1), (13, .goto 4, 3), (16, .iconst 0, 1), (17, .ireturn, 1)]
theorem ro_Disc_hasSector : rw_Disc_hasSector.all (fun r => decide (decode prog_2_method_5_code r.1 = .ok r.2)) = true := by decide +kernel
theorem d_Disc_hasSector_0 : decode prog_2_method_5_code 0 = .ok (.iload_n 1, 1) := am_row (r := (0, .iload_n 1, 1)) ro_Disc_hasSector 0 rfl
theorem d_Disc_hasSector_1 : decode prog_2_method_5_code 1 = .ok (.ifCond .lt 15, 3) := am_row (r := (1, .ifCond .lt 15, 3)) ro_Disc_hasSector 1 rfl
theorem d_Disc_hasSector_4 : decode prog_2_method_5_code 4 = .ok (.iload_n 1, 1) := am_row (r := (4, .iload_n 1, 1)) ro_Disc_hasSector 2 rfl
theorem d_Disc_hasSector_5 : decode prog_2_method_5_code 5 = .ok (.aload_n 0, 1) := am_row (r := (5, .aload_n 0, 1)) ro_Disc_hasSector 3 rfl
theorem d_Disc_hasSector_6 : decode prog_2_method_5_code 6 = .ok (.getfield 22, 3) := am_row (r := (6, .getfield 22, 3)) ro_Disc_hasSector 4 rfl
theorem d_Disc_hasSector_9 : decode prog_2_method_5_code 9 = .ok (.if_icmp .ge 7, 3) := am_row (r := (9, .if_icmp .ge 7, 3)) ro_Disc_hasSector 5 rfl
theorem d_Disc_hasSector_12 : decode prog_2_method_5_code 12 = .ok (.iconst 1, 1) := am_row (r := (12, .iconst 1, 1)) ro_Disc_hasSector 6 rfl
theorem d_Disc_hasSector_13 : decode prog_2_method_5_code 13 = .ok (.goto 4, 3) := am_row (r := (13, .goto 4, 3)) ro_Disc_hasSector 7 rfl
theorem d_Disc_hasSector_16 : decode prog_2_method_5_code 16 = .ok (.iconst 0, 1) := am_row (r := (16, .iconst 0, 1)) ro_Disc_hasSector 8 rfl
theorem d_Disc_hasSector_17 : decode prog_2_method_5_code 17 = .ok (.ireturn, 1) := am_row (r := (17, .ireturn, 1)) ro_Disc_hasSector 9 rfl
abbrev y_WD_isSet : MethodName := ⟨"WheelDisc", "isSet", "([JII)Z"⟩
theorem c_WD_isSet : Cond.code y_WD_isSet prog_1_method_52_code 3 (some .boolean) ∈ am_T := am_mem 463 (by decide +kernel) rfl
def rw_WD_isSet : List (Nat × Instr × Nat) := [(0, .aload_n 0, 1), (1, .iload_n 1, 1), (2, .iload_n 2, 1), (3, .bipush 6, 2), (5, .ishr, 1), (6, .iadd, 1), (7, .laload, 1), (8, .iload_n 2, 1), (9, .bipush 63, 2), (11, .iand, 1), (12, .lushr, 1), (13, .lconst 1, 1), (14, .land, 1), (15, .lconst 0, 1), (16, .lcmp, 1), (17, .ifCond .eq 7, 3), (20, .iconst 1, 1), (21, .goto 4, 3), (24, .iconst 0, 1), (25, .ireturn, 1)]
theorem ro_WD_isSet : rw_WD_isSet.all (fun r => decide (decode prog_1_method_52_code r.1 = .ok r.2)) = true := by decide +kernel
theorem d_WD_isSet_0 : decode prog_1_method_52_code 0 = .ok (.aload_n 0, 1) := am_row (r := (0, .aload_n 0, 1)) ro_WD_isSet 0 rfl
theorem d_WD_isSet_1 : decode prog_1_method_52_code 1 = .ok (.iload_n 1, 1) := am_row (r := (1, .iload_n 1, 1)) ro_WD_isSet 1 rfl
theorem d_WD_isSet_2 : decode prog_1_method_52_code 2 = .ok (.iload_n 2, 1) := am_row (r := (2, .iload_n 2, 1)) ro_WD_isSet 2 rfl
theorem d_WD_isSet_3 : decode prog_1_method_52_code 3 = .ok (.bipush 6, 2) := am_row (r := (3, .bipush 6, 2)) ro_WD_isSet 3 rfl
theorem d_WD_isSet_5 : decode prog_1_method_52_code 5 = .ok (.ishr, 1) := am_row (r := (5, .ishr, 1)) ro_WD_isSet 4 rfl
theorem d_WD_isSet_6 : decode prog_1_method_52_code 6 = .ok (.iadd, 1) := am_row (r := (6, .iadd, 1)) ro_WD_isSet 5 rfl
theorem d_WD_isSet_7 : decode prog_1_method_52_code 7 = .ok (.laload, 1) := am_row (r := (7, .laload, 1)) ro_WD_isSet 6 rfl
theorem d_WD_isSet_8 : decode prog_1_method_52_code 8 = .ok (.iload_n 2, 1) := am_row (r := (8, .iload_n 2, 1)) ro_WD_isSet 7 rfl
theorem d_WD_isSet_9 : decode prog_1_method_52_code 9 = .ok (.bipush 63, 2) := am_row (r := (9, .bipush 63, 2)) ro_WD_isSet 8 rfl
theorem d_WD_isSet_11 : decode prog_1_method_52_code 11 = .ok (.iand, 1) := am_row (r := (11, .iand, 1)) ro_WD_isSet 9 rfl
theorem d_WD_isSet_12 : decode prog_1_method_52_code 12 = .ok (.lushr, 1) := am_row (r := (12, .lushr, 1)) ro_WD_isSet 10 rfl
theorem d_WD_isSet_13 : decode prog_1_method_52_code 13 = .ok (.lconst 1, 1) := am_row (r := (13, .lconst 1, 1)) ro_WD_isSet 11 rfl
theorem d_WD_isSet_14 : decode prog_1_method_52_code 14 = .ok (.land, 1) := am_row (r := (14, .land, 1)) ro_WD_isSet 12 rfl
theorem d_WD_isSet_15 : decode prog_1_method_52_code 15 = .ok (.lconst 0, 1) := am_row (r := (15, .lconst 0, 1)) ro_WD_isSet 13 rfl
theorem d_WD_isSet_16 : decode prog_1_method_52_code 16 = .ok (.lcmp, 1) := am_row (r := (16, .lcmp, 1)) ro_WD_isSet 14 rfl
theorem d_WD_isSet_17 : decode prog_1_method_52_code 17 = .ok (.ifCond .eq 7, 3) := am_row (r := (17, .ifCond .eq 7, 3)) ro_WD_isSet 15 rfl
theorem d_WD_isSet_20 : decode prog_1_method_52_code 20 = .ok (.iconst 1, 1) := am_row (r := (20, .iconst 1, 1)) ro_WD_isSet 16 rfl
theorem d_WD_isSet_21 : decode prog_1_method_52_code 21 = .ok (.goto 4, 3) := am_row (r := (21, .goto 4, 3)) ro_WD_isSet 17 rfl
theorem d_WD_isSet_24 : decode prog_1_method_52_code 24 = .ok (.iconst 0, 1) := am_row (r := (24, .iconst 0, 1)) ro_WD_isSet 18 rfl
theorem d_WD_isSet_25 : decode prog_1_method_52_code 25 = .ok (.ireturn, 1) := am_row (r := (25, .ireturn, 1)) ro_WD_isSet 19 rfl
abbrev y_Disc_isLight : MethodName := ⟨"WheelDisc$Disc", "isLight", "(II)Z"⟩
theorem c_Disc_isLight : Cond.code y_Disc_isLight prog_2_method_7_code 3 (some .boolean) ∈ am_T := am_mem 460 (by decide +kernel) rfl
def rw_Disc_isLight : List (Nat × Instr × Nat) := [(0, .aload_n 0, 1), (1, .getfield 11, 3), (4, .iload_n 1, 1), (5, .bipush 8, 2), (7, .imul, 1), (8, .iload_n 2, 1), (9, .invokestatic 44, 3), (12, .ireturn, 1)]
theorem ro_Disc_isLight : rw_Disc_isLight.all (fun r => decide (decode prog_2_method_7_code r.1 = .ok r.2)) = true := by decide +kernel
theorem d_Disc_isLight_0 : decode prog_2_method_7_code 0 = .ok (.aload_n 0, 1) := am_row (r := (0, .aload_n 0, 1)) ro_Disc_isLight 0 rfl
theorem d_Disc_isLight_1 : decode prog_2_method_7_code 1 = .ok (.getfield 11, 3) := am_row (r := (1, .getfield 11, 3)) ro_Disc_isLight 1 rfl
theorem d_Disc_isLight_4 : decode prog_2_method_7_code 4 = .ok (.iload_n 1, 1) := am_row (r := (4, .iload_n 1, 1)) ro_Disc_isLight 2 rfl
theorem d_Disc_isLight_5 : decode prog_2_method_7_code 5 = .ok (.bipush 8, 2) := am_row (r := (5, .bipush 8, 2)) ro_Disc_isLight 3 rfl
theorem d_Disc_isLight_7 : decode prog_2_method_7_code 7 = .ok (.imul, 1) := am_row (r := (7, .imul, 1)) ro_Disc_isLight 4 rfl
theorem d_Disc_isLight_8 : decode prog_2_method_7_code 8 = .ok (.iload_n 2, 1) := am_row (r := (8, .iload_n 2, 1)) ro_Disc_isLight 5 rfl
theorem d_Disc_isLight_9 : decode prog_2_method_7_code 9 = .ok (.invokestatic 44, 3) := am_row (r := (9, .invokestatic 44, 3)) ro_Disc_isLight 6 rfl
theorem d_Disc_isLight_12 : decode prog_2_method_7_code 12 = .ok (.ireturn, 1) := am_row (r := (12, .ireturn, 1)) ro_Disc_isLight 7 rfl
abbrev y_WD_light : MethodName := ⟨"WheelDisc", "light", "(IIZ)I"⟩
theorem c_WD_light : Cond.code y_WD_light prog_1_method_6_code 5 (some .int) ∈ am_T := am_mem 448 (by decide +kernel) rfl
def rw_WD_light : List (Nat × Instr × Nat) := [(0, .aload_n 0, 1), (1, .getfield 19, 3), (4, .iload_n 1, 1), (5, .invokevirtual 143, 3), (8, .ifCond .eq 14, 3), (11, .aload_n 0, 1), (12, .getfield 19, 3), (15, .iload_n 2, 1), (16, .invokevirtual 146, 3), (19, .ifCond .ne 9, 3), (22, .aload_n 0, 1), (23, .iconst 1, 1), (24, .invokevirtual 95, 3), (27, .ireturn, 1), (28, .aload_n 0, 1), (29, .invokevirtual 116, 3), (32, .aload_n 0, 1), (33, .getfield 19, 3), (36, .iload_n 1, 1), (37, .iload_n 2, 1), (38, .invokevirtual 149, 3), (41, .istore 4, 2), (43, .aload_n 0, 1), (44, .getfield 19, 3), (47, .iload_n 1, 1), (48, .iload_n 2, 1), (49, .iload_n 3, 1), (50, .invokevirtual 139, 3), (53, .aload_n 0, 1), (54, .iload 4, 2), (56, .ifCond .eq 7, 3), (59, .iconst 1, 1), (60, .goto 4, 3), (63, .iconst 0, 1), (64, .invokevirtual 91, 3), (67, .ireturn, 1)]
theorem ro_WD_light : rw_WD_light.all (fun r => decide (decode prog_1_method_6_code r.1 = .ok r.2)) = true := by decide +kernel
theorem d_WD_light_0 : decode prog_1_method_6_code 0 = .ok (.aload_n 0, 1) := am_row (r := (0, .aload_n 0, 1)) ro_WD_light 0 rfl
theorem d_WD_light_1 : decode prog_1_method_6_code 1 = .ok (.getfield 19, 3) := am_row (r := (1, .getfield 19, 3)) ro_WD_light 1 rfl
theorem d_WD_light_4 : decode prog_1_method_6_code 4 = .ok (.iload_n 1, 1) := am_row (r := (4, .iload_n 1, 1)) ro_WD_light 2 rfl
theorem d_WD_light_5 : decode prog_1_method_6_code 5 = .ok (.invokevirtual 143, 3) := am_row (r := (5, .invokevirtual 143, 3)) ro_WD_light 3 rfl
theorem d_WD_light_8 : decode prog_1_method_6_code 8 = .ok (.ifCond .eq 14, 3) := am_row (r := (8, .ifCond .eq 14, 3)) ro_WD_light 4 rfl
theorem d_WD_light_11 : decode prog_1_method_6_code 11 = .ok (.aload_n 0, 1) := am_row (r := (11, .aload_n 0, 1)) ro_WD_light 5 rfl
theorem d_WD_light_12 : decode prog_1_method_6_code 12 = .ok (.getfield 19, 3) := am_row (r := (12, .getfield 19, 3)) ro_WD_light 6 rfl
theorem d_WD_light_15 : decode prog_1_method_6_code 15 = .ok (.iload_n 2, 1) := am_row (r := (15, .iload_n 2, 1)) ro_WD_light 7 rfl
theorem d_WD_light_16 : decode prog_1_method_6_code 16 = .ok (.invokevirtual 146, 3) := am_row (r := (16, .invokevirtual 146, 3)) ro_WD_light 8 rfl
theorem d_WD_light_19 : decode prog_1_method_6_code 19 = .ok (.ifCond .ne 9, 3) := am_row (r := (19, .ifCond .ne 9, 3)) ro_WD_light 9 rfl
theorem d_WD_light_22 : decode prog_1_method_6_code 22 = .ok (.aload_n 0, 1) := am_row (r := (22, .aload_n 0, 1)) ro_WD_light 10 rfl
theorem d_WD_light_23 : decode prog_1_method_6_code 23 = .ok (.iconst 1, 1) := am_row (r := (23, .iconst 1, 1)) ro_WD_light 11 rfl
theorem d_WD_light_24 : decode prog_1_method_6_code 24 = .ok (.invokevirtual 95, 3) := am_row (r := (24, .invokevirtual 95, 3)) ro_WD_light 12 rfl
theorem d_WD_light_27 : decode prog_1_method_6_code 27 = .ok (.ireturn, 1) := am_row (r := (27, .ireturn, 1)) ro_WD_light 13 rfl
theorem d_WD_light_28 : decode prog_1_method_6_code 28 = .ok (.aload_n 0, 1) := am_row (r := (28, .aload_n 0, 1)) ro_WD_light 14 rfl
theorem d_WD_light_29 : decode prog_1_method_6_code 29 = .ok (.invokevirtual 116, 3) := am_row (r := (29, .invokevirtual 116, 3)) ro_WD_light 15 rfl
theorem d_WD_light_32 : decode prog_1_method_6_code 32 = .ok (.aload_n 0, 1) := am_row (r := (32, .aload_n 0, 1)) ro_WD_light 16 rfl
theorem d_WD_light_33 : decode prog_1_method_6_code 33 = .ok (.getfield 19, 3) := am_row (r := (33, .getfield 19, 3)) ro_WD_light 17 rfl
theorem d_WD_light_36 : decode prog_1_method_6_code 36 = .ok (.iload_n 1, 1) := am_row (r := (36, .iload_n 1, 1)) ro_WD_light 18 rfl
theorem d_WD_light_37 : decode prog_1_method_6_code 37 = .ok (.iload_n 2, 1) := am_row (r := (37, .iload_n 2, 1)) ro_WD_light 19 rfl
theorem d_WD_light_38 : decode prog_1_method_6_code 38 = .ok (.invokevirtual 149, 3) := am_row (r := (38, .invokevirtual 149, 3)) ro_WD_light 20 rfl
theorem d_WD_light_41 : decode prog_1_method_6_code 41 = .ok (.istore 4, 2) := am_row (r := (41, .istore 4, 2)) ro_WD_light 21 rfl
theorem d_WD_light_43 : decode prog_1_method_6_code 43 = .ok (.aload_n 0, 1) := am_row (r := (43, .aload_n 0, 1)) ro_WD_light 22 rfl
theorem d_WD_light_44 : decode prog_1_method_6_code 44 = .ok (.getfield 19, 3) := am_row (r := (44, .getfield 19, 3)) ro_WD_light 23 rfl
theorem d_WD_light_47 : decode prog_1_method_6_code 47 = .ok (.iload_n 1, 1) := am_row (r := (47, .iload_n 1, 1)) ro_WD_light 24 rfl
theorem d_WD_light_48 : decode prog_1_method_6_code 48 = .ok (.iload_n 2, 1) := am_row (r := (48, .iload_n 2, 1)) ro_WD_light 25 rfl
theorem d_WD_light_49 : decode prog_1_method_6_code 49 = .ok (.iload_n 3, 1) := am_row (r := (49, .iload_n 3, 1)) ro_WD_light 26 rfl
theorem d_WD_light_50 : decode prog_1_method_6_code 50 = .ok (.invokevirtual 139, 3) := am_row (r := (50, .invokevirtual 139, 3)) ro_WD_light 27 rfl
theorem d_WD_light_53 : decode prog_1_method_6_code 53 = .ok (.aload_n 0, 1) := am_row (r := (53, .aload_n 0, 1)) ro_WD_light 28 rfl
theorem d_WD_light_54 : decode prog_1_method_6_code 54 = .ok (.iload 4, 2) := am_row (r := (54, .iload 4, 2)) ro_WD_light 29 rfl
theorem d_WD_light_56 : decode prog_1_method_6_code 56 = .ok (.ifCond .eq 7, 3) := am_row (r := (56, .ifCond .eq 7, 3)) ro_WD_light 30 rfl
theorem d_WD_light_59 : decode prog_1_method_6_code 59 = .ok (.iconst 1, 1) := am_row (r := (59, .iconst 1, 1)) ro_WD_light 31 rfl
theorem d_WD_light_60 : decode prog_1_method_6_code 60 = .ok (.goto 4, 3) := am_row (r := (60, .goto 4, 3)) ro_WD_light 32 rfl
theorem d_WD_light_63 : decode prog_1_method_6_code 63 = .ok (.iconst 0, 1) := am_row (r := (63, .iconst 0, 1)) ro_WD_light 33 rfl
theorem d_WD_light_64 : decode prog_1_method_6_code 64 = .ok (.invokevirtual 91, 3) := am_row (r := (64, .invokevirtual 91, 3)) ro_WD_light 34 rfl
theorem d_WD_light_67 : decode prog_1_method_6_code 67 = .ok (.ireturn, 1) := am_row (r := (67, .ireturn, 1)) ro_WD_light 35 rfl
abbrev y_Disc_addReader : MethodName := ⟨"WheelDisc$Disc", "addReader", "(II)I"⟩
theorem c_Disc_addReader : Cond.code y_Disc_addReader prog_2_method_10_code 3 (some .int) ∈ am_T := am_mem 471 (by decide +kernel) rfl
def rw_Disc_addReader : List (Nat × Instr × Nat) := [(0, .aload_n 0, 1), (1, .getfield 15, 3), (4, .aload_n 0, 1), (5, .getfield 29, 3), (8, .iload_n 1, 1), (9, .iastore, 1), (10, .aload_n 0, 1), (11, .getfield 19, 3), (14, .aload_n 0, 1), (15, .getfield 29, 3), (18, .iload_n 2, 1), (19, .iastore, 1), (20, .aload_n 0, 1), (21, .dup, 1), (22, .getfield 29, 3), (25, .iconst 1, 1), (26, .iadd, 1), (27, .putfield 29, 3), (30, .aload_n 0, 1), (31, .getfield 29, 3), (34, .iconst 1, 1), (35, .isub, 1), (36, .ireturn, 1)]
theorem ro_Disc_addReader : rw_Disc_addReader.all (fun r => decide (decode prog_2_method_10_code r.1 = .ok r.2)) = true := by decide +kernel
theorem d_Disc_addReader_0 : decode prog_2_method_10_code 0 = .ok (.aload_n 0, 1) := am_row (r := (0, .aload_n 0, 1)) ro_Disc_addReader 0 rfl
theorem d_Disc_addReader_1 : decode prog_2_method_10_code 1 = .ok (.getfield 15, 3) := am_row (r := (1, .getfield 15, 3)) ro_Disc_addReader 1 rfl
theorem d_Disc_addReader_4 : decode prog_2_method_10_code 4 = .ok (.aload_n 0, 1) := am_row (r := (4, .aload_n 0, 1)) ro_Disc_addReader 2 rfl
theorem d_Disc_addReader_5 : decode prog_2_method_10_code 5 = .ok (.getfield 29, 3) := am_row (r := (5, .getfield 29, 3)) ro_Disc_addReader 3 rfl
theorem d_Disc_addReader_8 : decode prog_2_method_10_code 8 = .ok (.iload_n 1, 1) := am_row (r := (8, .iload_n 1, 1)) ro_Disc_addReader 4 rfl
theorem d_Disc_addReader_9 : decode prog_2_method_10_code 9 = .ok (.iastore, 1) := am_row (r := (9, .iastore, 1)) ro_Disc_addReader 5 rfl
theorem d_Disc_addReader_10 : decode prog_2_method_10_code 10 = .ok (.aload_n 0, 1) := am_row (r := (10, .aload_n 0, 1)) ro_Disc_addReader 6 rfl
theorem d_Disc_addReader_11 : decode prog_2_method_10_code 11 = .ok (.getfield 19, 3) := am_row (r := (11, .getfield 19, 3)) ro_Disc_addReader 7 rfl
theorem d_Disc_addReader_14 : decode prog_2_method_10_code 14 = .ok (.aload_n 0, 1) := am_row (r := (14, .aload_n 0, 1)) ro_Disc_addReader 8 rfl
theorem d_Disc_addReader_15 : decode prog_2_method_10_code 15 = .ok (.getfield 29, 3) := am_row (r := (15, .getfield 29, 3)) ro_Disc_addReader 9 rfl
theorem d_Disc_addReader_18 : decode prog_2_method_10_code 18 = .ok (.iload_n 2, 1) := am_row (r := (18, .iload_n 2, 1)) ro_Disc_addReader 10 rfl
theorem d_Disc_addReader_19 : decode prog_2_method_10_code 19 = .ok (.iastore, 1) := am_row (r := (19, .iastore, 1)) ro_Disc_addReader 11 rfl
theorem d_Disc_addReader_20 : decode prog_2_method_10_code 20 = .ok (.aload_n 0, 1) := am_row (r := (20, .aload_n 0, 1)) ro_Disc_addReader 12 rfl
theorem d_Disc_addReader_21 : decode prog_2_method_10_code 21 = .ok (.dup, 1) := am_row (r := (21, .dup, 1)) ro_Disc_addReader 13 rfl
theorem d_Disc_addReader_22 : decode prog_2_method_10_code 22 = .ok (.getfield 29, 3) := am_row (r := (22, .getfield 29, 3)) ro_Disc_addReader 14 rfl
theorem d_Disc_addReader_25 : decode prog_2_method_10_code 25 = .ok (.iconst 1, 1) := am_row (r := (25, .iconst 1, 1)) ro_Disc_addReader 15 rfl
theorem d_Disc_addReader_26 : decode prog_2_method_10_code 26 = .ok (.iadd, 1) := am_row (r := (26, .iadd, 1)) ro_Disc_addReader 16 rfl
theorem d_Disc_addReader_27 : decode prog_2_method_10_code 27 = .ok (.putfield 29, 3) := am_row (r := (27, .putfield 29, 3)) ro_Disc_addReader 17 rfl
theorem d_Disc_addReader_30 : decode prog_2_method_10_code 30 = .ok (.aload_n 0, 1) := am_row (r := (30, .aload_n 0, 1)) ro_Disc_addReader 18 rfl
theorem d_Disc_addReader_31 : decode prog_2_method_10_code 31 = .ok (.getfield 29, 3) := am_row (r := (31, .getfield 29, 3)) ro_Disc_addReader 19 rfl
theorem d_Disc_addReader_34 : decode prog_2_method_10_code 34 = .ok (.iconst 1, 1) := am_row (r := (34, .iconst 1, 1)) ro_Disc_addReader 20 rfl
theorem d_Disc_addReader_35 : decode prog_2_method_10_code 35 = .ok (.isub, 1) := am_row (r := (35, .isub, 1)) ro_Disc_addReader 21 rfl
theorem d_Disc_addReader_36 : decode prog_2_method_10_code 36 = .ok (.ireturn, 1) := am_row (r := (36, .ireturn, 1)) ro_Disc_addReader 22 rfl
abbrev y_WD_reader : MethodName := ⟨"WheelDisc", "reader", "(II)I"⟩
theorem c_WD_reader : Cond.code y_WD_reader prog_1_method_7_code 3 (some .int) ∈ am_T := am_mem 467 (by decide +kernel) rfl
def rw_WD_reader : List (Nat × Instr × Nat) := [(0, .aload_n 0, 1), (1, .getfield 19, 3), (4, .iload_n 1, 1), (5, .invokevirtual 143, 3), (8, .ifCond .eq 14, 3), (11, .aload_n 0, 1), (12, .getfield 19, 3), (15, .iload_n 2, 1), (16, .invokevirtual 146, 3), (19, .ifCond .ne 9, 3), (22, .aload_n 0, 1), (23, .iconst 1, 1), (24, .invokevirtual 95, 3), (27, .ireturn, 1), (28, .aload_n 0, 1), (29, .getfield 19, 3), (32, .getfield 152, 3), (35, .bipush 10, 2), (37, .if_icmp .lt 9, 3), (40, .aload_n 0, 1), (41, .iconst 4, 1), (42, .invokevirtual 95, 3), (45, .ireturn, 1), (46, .aload_n 0, 1), (47, .invokevirtual 116, 3), (50, .aload_n 0, 1), (51, .aload_n 0, 1), (52, .getfield 19, 3), (55, .iload_n 1, 1), (56, .iload_n 2, 1), (57, .invokevirtual 155, 3), (60, .invokevirtual 91, 3), (63, .ireturn, 1)]
theorem ro_WD_reader : rw_WD_reader.all (fun r => decide (decode prog_1_method_7_code r.1 = .ok r.2)) = true := by decide +kernel
theorem d_WD_reader_0 : decode prog_1_method_7_code 0 = .ok (.aload_n 0, 1) := am_row (r := (0, .aload_n 0, 1)) ro_WD_reader 0 rfl
theorem d_WD_reader_1 : decode prog_1_method_7_code 1 = .ok (.getfield 19, 3) := am_row (r := (1, .getfield 19, 3)) ro_WD_reader 1 rfl
theorem d_WD_reader_4 : decode prog_1_method_7_code 4 = .ok (.iload_n 1, 1) := am_row (r := (4, .iload_n 1, 1)) ro_WD_reader 2 rfl
theorem d_WD_reader_5 : decode prog_1_method_7_code 5 = .ok (.invokevirtual 143, 3) := am_row (r := (5, .invokevirtual 143, 3)) ro_WD_reader 3 rfl
theorem d_WD_reader_8 : decode prog_1_method_7_code 8 = .ok (.ifCond .eq 14, 3) := am_row (r := (8, .ifCond .eq 14, 3)) ro_WD_reader 4 rfl
theorem d_WD_reader_11 : decode prog_1_method_7_code 11 = .ok (.aload_n 0, 1) := am_row (r := (11, .aload_n 0, 1)) ro_WD_reader 5 rfl
theorem d_WD_reader_12 : decode prog_1_method_7_code 12 = .ok (.getfield 19, 3) := am_row (r := (12, .getfield 19, 3)) ro_WD_reader 6 rfl
theorem d_WD_reader_15 : decode prog_1_method_7_code 15 = .ok (.iload_n 2, 1) := am_row (r := (15, .iload_n 2, 1)) ro_WD_reader 7 rfl
theorem d_WD_reader_16 : decode prog_1_method_7_code 16 = .ok (.invokevirtual 146, 3) := am_row (r := (16, .invokevirtual 146, 3)) ro_WD_reader 8 rfl
theorem d_WD_reader_19 : decode prog_1_method_7_code 19 = .ok (.ifCond .ne 9, 3) := am_row (r := (19, .ifCond .ne 9, 3)) ro_WD_reader 9 rfl
theorem d_WD_reader_22 : decode prog_1_method_7_code 22 = .ok (.aload_n 0, 1) := am_row (r := (22, .aload_n 0, 1)) ro_WD_reader 10 rfl
theorem d_WD_reader_23 : decode prog_1_method_7_code 23 = .ok (.iconst 1, 1) := am_row (r := (23, .iconst 1, 1)) ro_WD_reader 11 rfl
theorem d_WD_reader_24 : decode prog_1_method_7_code 24 = .ok (.invokevirtual 95, 3) := am_row (r := (24, .invokevirtual 95, 3)) ro_WD_reader 12 rfl
theorem d_WD_reader_27 : decode prog_1_method_7_code 27 = .ok (.ireturn, 1) := am_row (r := (27, .ireturn, 1)) ro_WD_reader 13 rfl
theorem d_WD_reader_28 : decode prog_1_method_7_code 28 = .ok (.aload_n 0, 1) := am_row (r := (28, .aload_n 0, 1)) ro_WD_reader 14 rfl
theorem d_WD_reader_29 : decode prog_1_method_7_code 29 = .ok (.getfield 19, 3) := am_row (r := (29, .getfield 19, 3)) ro_WD_reader 15 rfl
theorem d_WD_reader_32 : decode prog_1_method_7_code 32 = .ok (.getfield 152, 3) := am_row (r := (32, .getfield 152, 3)) ro_WD_reader 16 rfl
theorem d_WD_reader_35 : decode prog_1_method_7_code 35 = .ok (.bipush 10, 2) := am_row (r := (35, .bipush 10, 2)) ro_WD_reader 17 rfl
theorem d_WD_reader_37 : decode prog_1_method_7_code 37 = .ok (.if_icmp .lt 9, 3) := am_row (r := (37, .if_icmp .lt 9, 3)) ro_WD_reader 18 rfl
theorem d_WD_reader_40 : decode prog_1_method_7_code 40 = .ok (.aload_n 0, 1) := am_row (r := (40, .aload_n 0, 1)) ro_WD_reader 19 rfl
theorem d_WD_reader_41 : decode prog_1_method_7_code 41 = .ok (.iconst 4, 1) := am_row (r := (41, .iconst 4, 1)) ro_WD_reader 20 rfl
theorem d_WD_reader_42 : decode prog_1_method_7_code 42 = .ok (.invokevirtual 95, 3) := am_row (r := (42, .invokevirtual 95, 3)) ro_WD_reader 21 rfl
theorem d_WD_reader_45 : decode prog_1_method_7_code 45 = .ok (.ireturn, 1) := am_row (r := (45, .ireturn, 1)) ro_WD_reader 22 rfl
theorem d_WD_reader_46 : decode prog_1_method_7_code 46 = .ok (.aload_n 0, 1) := am_row (r := (46, .aload_n 0, 1)) ro_WD_reader 23 rfl
theorem d_WD_reader_47 : decode prog_1_method_7_code 47 = .ok (.invokevirtual 116, 3) := am_row (r := (47, .invokevirtual 116, 3)) ro_WD_reader 24 rfl
theorem d_WD_reader_50 : decode prog_1_method_7_code 50 = .ok (.aload_n 0, 1) := am_row (r := (50, .aload_n 0, 1)) ro_WD_reader 25 rfl
theorem d_WD_reader_51 : decode prog_1_method_7_code 51 = .ok (.aload_n 0, 1) := am_row (r := (51, .aload_n 0, 1)) ro_WD_reader 26 rfl
theorem d_WD_reader_52 : decode prog_1_method_7_code 52 = .ok (.getfield 19, 3) := am_row (r := (52, .getfield 19, 3)) ro_WD_reader 27 rfl
theorem d_WD_reader_55 : decode prog_1_method_7_code 55 = .ok (.iload_n 1, 1) := am_row (r := (55, .iload_n 1, 1)) ro_WD_reader 28 rfl
theorem d_WD_reader_56 : decode prog_1_method_7_code 56 = .ok (.iload_n 2, 1) := am_row (r := (56, .iload_n 2, 1)) ro_WD_reader 29 rfl
theorem d_WD_reader_57 : decode prog_1_method_7_code 57 = .ok (.invokevirtual 155, 3) := am_row (r := (57, .invokevirtual 155, 3)) ro_WD_reader 30 rfl
theorem d_WD_reader_60 : decode prog_1_method_7_code 60 = .ok (.invokevirtual 91, 3) := am_row (r := (60, .invokevirtual 91, 3)) ro_WD_reader 31 rfl
theorem d_WD_reader_63 : decode prog_1_method_7_code 63 = .ok (.ireturn, 1) := am_row (r := (63, .ireturn, 1)) ro_WD_reader 32 rfl
abbrev y_Disc_hasReader : MethodName := ⟨"WheelDisc$Disc", "hasReader", "(I)Z"⟩
theorem c_Disc_hasReader : Cond.code y_Disc_hasReader prog_2_method_6_code 2 (some .boolean) ∈ am_T := am_mem 479 (by decide +kernel) rfl
def rw_Disc_hasReader : List (Nat × Instr × Nat) := [(0, .iload_n 1, 1), (1, .ifCond .lt 15, 3), (4, .iload_n 1, 1), (5, .aload_n 0, 1), (6, .getfield 29, 3), (9, .if_icmp .ge 7, 3), (12, .iconst 1, 1), (13, .goto 4, 3), (16, .iconst 0, 1), (17, .ireturn, 1)]
theorem ro_Disc_hasReader : rw_Disc_hasReader.all (fun r => decide (decode prog_2_method_6_code r.1 = .ok r.2)) = true := by decide +kernel
theorem d_Disc_hasReader_0 : decode prog_2_method_6_code 0 = .ok (.iload_n 1, 1) := am_row (r := (0, .iload_n 1, 1)) ro_Disc_hasReader 0 rfl
theorem d_Disc_hasReader_1 : decode prog_2_method_6_code 1 = .ok (.ifCond .lt 15, 3) := am_row (r := (1, .ifCond .lt 15, 3)) ro_Disc_hasReader 1 rfl
theorem d_Disc_hasReader_4 : decode prog_2_method_6_code 4 = .ok (.iload_n 1, 1) := am_row (r := (4, .iload_n 1, 1)) ro_Disc_hasReader 2 rfl
theorem d_Disc_hasReader_5 : decode prog_2_method_6_code 5 = .ok (.aload_n 0, 1) := am_row (r := (5, .aload_n 0, 1)) ro_Disc_hasReader 3 rfl
theorem d_Disc_hasReader_6 : decode prog_2_method_6_code 6 = .ok (.getfield 29, 3) := am_row (r := (6, .getfield 29, 3)) ro_Disc_hasReader 4 rfl
theorem d_Disc_hasReader_9 : decode prog_2_method_6_code 9 = .ok (.if_icmp .ge 7, 3) := am_row (r := (9, .if_icmp .ge 7, 3)) ro_Disc_hasReader 5 rfl
theorem d_Disc_hasReader_12 : decode prog_2_method_6_code 12 = .ok (.iconst 1, 1) := am_row (r := (12, .iconst 1, 1)) ro_Disc_hasReader 6 rfl
theorem d_Disc_hasReader_13 : decode prog_2_method_6_code 13 = .ok (.goto 4, 3) := am_row (r := (13, .goto 4, 3)) ro_Disc_hasReader 7 rfl
theorem d_Disc_hasReader_16 : decode prog_2_method_6_code 16 = .ok (.iconst 0, 1) := am_row (r := (16, .iconst 0, 1)) ro_Disc_hasReader 8 rfl
theorem d_Disc_hasReader_17 : decode prog_2_method_6_code 17 = .ok (.ireturn, 1) := am_row (r := (17, .ireturn, 1)) ro_Disc_hasReader 9 rfl
abbrev y_Disc_removeReader : MethodName := ⟨"WheelDisc$Disc", "removeReader", "(I)V"⟩
theorem c_Disc_removeReader : Cond.code y_Disc_removeReader prog_2_method_11_code 3 none ∈ am_T := am_mem 483 (by decide +kernel) rfl
def rw_Disc_removeReader : List (Nat × Instr × Nat) := [(0, .iload_n 1, 1), (1, .istore_n 2, 1), (2, .iload_n 2, 1), (3, .iconst 1, 1), (4, .iadd, 1), (5, .aload_n 0, 1), (6, .getfield 29, 3), (9, .if_icmp .ge 37, 3), (12, .aload_n 0, 1), (13, .getfield 15, 3), (16, .iload_n 2, 1), (17, .aload_n 0, 1), (18, .getfield 15, 3), (21, .iload_n 2, 1), (22, .iconst 1, 1), (23, .iadd, 1), (24, .iaload, 1), (25, .iastore, 1), (26, .aload_n 0, 1), (27, .getfield 19, 3), (30, .iload_n 2, 1), (31, .aload_n 0, 1), (32, .getfield 19, 3), (35, .iload_n 2, 1), (36, .iconst 1, 1), (37, .iadd, 1), (38, .iaload, 1), (39, .iastore, 1), (40, .iinc 2 1, 3), (43, .goto (-41), 3), (46, .aload_n 0, 1), (47, .dup, 1), (48, .getfield 29, 3), (51, .iconst 1, 1), (52, .isub, 1), (53, .putfield 29, 3), (56, .return_, 1)]
theorem ro_Disc_removeReader : rw_Disc_removeReader.all (fun r => decide (decode prog_2_method_11_code r.1 = .ok r.2)) = true := by decide +kernel
theorem d_Disc_removeReader_0 : decode prog_2_method_11_code 0 = .ok (.iload_n 1, 1) := am_row (r := (0, .iload_n 1, 1)) ro_Disc_removeReader 0 rfl
theorem d_Disc_removeReader_1 : decode prog_2_method_11_code 1 = .ok (.istore_n 2, 1) := am_row (r := (1, .istore_n 2, 1)) ro_Disc_removeReader 1 rfl
theorem d_Disc_removeReader_2 : decode prog_2_method_11_code 2 = .ok (.iload_n 2, 1) := am_row (r := (2, .iload_n 2, 1)) ro_Disc_removeReader 2 rfl
theorem d_Disc_removeReader_3 : decode prog_2_method_11_code 3 = .ok (.iconst 1, 1) := am_row (r := (3, .iconst 1, 1)) ro_Disc_removeReader 3 rfl
theorem d_Disc_removeReader_4 : decode prog_2_method_11_code 4 = .ok (.iadd, 1) := am_row (r := (4, .iadd, 1)) ro_Disc_removeReader 4 rfl
theorem d_Disc_removeReader_5 : decode prog_2_method_11_code 5 = .ok (.aload_n 0, 1) := am_row (r := (5, .aload_n 0, 1)) ro_Disc_removeReader 5 rfl
theorem d_Disc_removeReader_6 : decode prog_2_method_11_code 6 = .ok (.getfield 29, 3) := am_row (r := (6, .getfield 29, 3)) ro_Disc_removeReader 6 rfl
theorem d_Disc_removeReader_9 : decode prog_2_method_11_code 9 = .ok (.if_icmp .ge 37, 3) := am_row (r := (9, .if_icmp .ge 37, 3)) ro_Disc_removeReader 7 rfl
theorem d_Disc_removeReader_12 : decode prog_2_method_11_code 12 = .ok (.aload_n 0, 1) := am_row (r := (12, .aload_n 0, 1)) ro_Disc_removeReader 8 rfl
theorem d_Disc_removeReader_13 : decode prog_2_method_11_code 13 = .ok (.getfield 15, 3) := am_row (r := (13, .getfield 15, 3)) ro_Disc_removeReader 9 rfl
theorem d_Disc_removeReader_16 : decode prog_2_method_11_code 16 = .ok (.iload_n 2, 1) := am_row (r := (16, .iload_n 2, 1)) ro_Disc_removeReader 10 rfl
theorem d_Disc_removeReader_17 : decode prog_2_method_11_code 17 = .ok (.aload_n 0, 1) := am_row (r := (17, .aload_n 0, 1)) ro_Disc_removeReader 11 rfl
theorem d_Disc_removeReader_18 : decode prog_2_method_11_code 18 = .ok (.getfield 15, 3) := am_row (r := (18, .getfield 15, 3)) ro_Disc_removeReader 12 rfl
theorem d_Disc_removeReader_21 : decode prog_2_method_11_code 21 = .ok (.iload_n 2, 1) := am_row (r := (21, .iload_n 2, 1)) ro_Disc_removeReader 13 rfl
theorem d_Disc_removeReader_22 : decode prog_2_method_11_code 22 = .ok (.iconst 1, 1) := am_row (r := (22, .iconst 1, 1)) ro_Disc_removeReader 14 rfl
theorem d_Disc_removeReader_23 : decode prog_2_method_11_code 23 = .ok (.iadd, 1) := am_row (r := (23, .iadd, 1)) ro_Disc_removeReader 15 rfl
theorem d_Disc_removeReader_24 : decode prog_2_method_11_code 24 = .ok (.iaload, 1) := am_row (r := (24, .iaload, 1)) ro_Disc_removeReader 16 rfl
theorem d_Disc_removeReader_25 : decode prog_2_method_11_code 25 = .ok (.iastore, 1) := am_row (r := (25, .iastore, 1)) ro_Disc_removeReader 17 rfl
theorem d_Disc_removeReader_26 : decode prog_2_method_11_code 26 = .ok (.aload_n 0, 1) := am_row (r := (26, .aload_n 0, 1)) ro_Disc_removeReader 18 rfl
theorem d_Disc_removeReader_27 : decode prog_2_method_11_code 27 = .ok (.getfield 19, 3) := am_row (r := (27, .getfield 19, 3)) ro_Disc_removeReader 19 rfl
theorem d_Disc_removeReader_30 : decode prog_2_method_11_code 30 = .ok (.iload_n 2, 1) := am_row (r := (30, .iload_n 2, 1)) ro_Disc_removeReader 20 rfl
theorem d_Disc_removeReader_31 : decode prog_2_method_11_code 31 = .ok (.aload_n 0, 1) := am_row (r := (31, .aload_n 0, 1)) ro_Disc_removeReader 21 rfl
theorem d_Disc_removeReader_32 : decode prog_2_method_11_code 32 = .ok (.getfield 19, 3) := am_row (r := (32, .getfield 19, 3)) ro_Disc_removeReader 22 rfl
theorem d_Disc_removeReader_35 : decode prog_2_method_11_code 35 = .ok (.iload_n 2, 1) := am_row (r := (35, .iload_n 2, 1)) ro_Disc_removeReader 23 rfl
theorem d_Disc_removeReader_36 : decode prog_2_method_11_code 36 = .ok (.iconst 1, 1) := am_row (r := (36, .iconst 1, 1)) ro_Disc_removeReader 24 rfl
theorem d_Disc_removeReader_37 : decode prog_2_method_11_code 37 = .ok (.iadd, 1) := am_row (r := (37, .iadd, 1)) ro_Disc_removeReader 25 rfl
theorem d_Disc_removeReader_38 : decode prog_2_method_11_code 38 = .ok (.iaload, 1) := am_row (r := (38, .iaload, 1)) ro_Disc_removeReader 26 rfl
theorem d_Disc_removeReader_39 : decode prog_2_method_11_code 39 = .ok (.iastore, 1) := am_row (r := (39, .iastore, 1)) ro_Disc_removeReader 27 rfl
theorem d_Disc_removeReader_40 : decode prog_2_method_11_code 40 = .ok (.iinc 2 1, 3) := am_row (r := (40, .iinc 2 1, 3)) ro_Disc_removeReader 28 rfl
theorem d_Disc_removeReader_43 : decode prog_2_method_11_code 43 = .ok (.goto (-41), 3) := am_row (r := (43, .goto (-41), 3)) ro_Disc_removeReader 29 rfl
theorem d_Disc_removeReader_46 : decode prog_2_method_11_code 46 = .ok (.aload_n 0, 1) := am_row (r := (46, .aload_n 0, 1)) ro_Disc_removeReader 30 rfl
theorem d_Disc_removeReader_47 : decode prog_2_method_11_code 47 = .ok (.dup, 1) := am_row (r := (47, .dup, 1)) ro_Disc_removeReader 31 rfl
theorem d_Disc_removeReader_48 : decode prog_2_method_11_code 48 = .ok (.getfield 29, 3) := am_row (r := (48, .getfield 29, 3)) ro_Disc_removeReader 32 rfl
theorem d_Disc_removeReader_51 : decode prog_2_method_11_code 51 = .ok (.iconst 1, 1) := am_row (r := (51, .iconst 1, 1)) ro_Disc_removeReader 33 rfl
theorem d_Disc_removeReader_52 : decode prog_2_method_11_code 52 = .ok (.isub, 1) := am_row (r := (52, .isub, 1)) ro_Disc_removeReader 34 rfl
theorem d_Disc_removeReader_53 : decode prog_2_method_11_code 53 = .ok (.putfield 29, 3) := am_row (r := (53, .putfield 29, 3)) ro_Disc_removeReader 35 rfl
theorem d_Disc_removeReader_56 : decode prog_2_method_11_code 56 = .ok (.return_, 1) := am_row (r := (56, .return_, 1)) ro_Disc_removeReader 36 rfl
abbrev y_WD_lift : MethodName := ⟨"WheelDisc", "lift", "(I)I"⟩
theorem c_WD_lift : Cond.code y_WD_lift prog_1_method_8_code 2 (some .int) ∈ am_T := am_mem 475 (by decide +kernel) rfl
def rw_WD_lift : List (Nat × Instr × Nat) := [(0, .aload_n 0, 1), (1, .getfield 19, 3), (4, .iload_n 1, 1), (5, .invokevirtual 159, 3), (8, .ifCond .ne 9, 3), (11, .aload_n 0, 1), (12, .iconst 1, 1), (13, .invokevirtual 95, 3), (16, .ireturn, 1), (17, .aload_n 0, 1), (18, .invokevirtual 116, 3), (21, .aload_n 0, 1), (22, .getfield 19, 3), (25, .iload_n 1, 1), (26, .invokevirtual 162, 3), (29, .aload_n 0, 1), (30, .aload_n 0, 1), (31, .getfield 19, 3), (34, .getfield 152, 3), (37, .invokevirtual 91, 3), (40, .ireturn, 1)]
theorem ro_WD_lift : rw_WD_lift.all (fun r => decide (decode prog_1_method_8_code r.1 = .ok r.2)) = true := by decide +kernel
theorem d_WD_lift_0 : decode prog_1_method_8_code 0 = .ok (.aload_n 0, 1) := am_row (r := (0, .aload_n 0, 1)) ro_WD_lift 0 rfl
theorem d_WD_lift_1 : decode prog_1_method_8_code 1 = .ok (.getfield 19, 3) := am_row (r := (1, .getfield 19, 3)) ro_WD_lift 1 rfl
theorem d_WD_lift_4 : decode prog_1_method_8_code 4 = .ok (.iload_n 1, 1) := am_row (r := (4, .iload_n 1, 1)) ro_WD_lift 2 rfl
theorem d_WD_lift_5 : decode prog_1_method_8_code 5 = .ok (.invokevirtual 159, 3) := am_row (r := (5, .invokevirtual 159, 3)) ro_WD_lift 3 rfl
theorem d_WD_lift_8 : decode prog_1_method_8_code 8 = .ok (.ifCond .ne 9, 3) := am_row (r := (8, .ifCond .ne 9, 3)) ro_WD_lift 4 rfl
theorem d_WD_lift_11 : decode prog_1_method_8_code 11 = .ok (.aload_n 0, 1) := am_row (r := (11, .aload_n 0, 1)) ro_WD_lift 5 rfl
theorem d_WD_lift_12 : decode prog_1_method_8_code 12 = .ok (.iconst 1, 1) := am_row (r := (12, .iconst 1, 1)) ro_WD_lift 6 rfl
theorem d_WD_lift_13 : decode prog_1_method_8_code 13 = .ok (.invokevirtual 95, 3) := am_row (r := (13, .invokevirtual 95, 3)) ro_WD_lift 7 rfl
theorem d_WD_lift_16 : decode prog_1_method_8_code 16 = .ok (.ireturn, 1) := am_row (r := (16, .ireturn, 1)) ro_WD_lift 8 rfl
theorem d_WD_lift_17 : decode prog_1_method_8_code 17 = .ok (.aload_n 0, 1) := am_row (r := (17, .aload_n 0, 1)) ro_WD_lift 9 rfl
theorem d_WD_lift_18 : decode prog_1_method_8_code 18 = .ok (.invokevirtual 116, 3) := am_row (r := (18, .invokevirtual 116, 3)) ro_WD_lift 10 rfl
theorem d_WD_lift_21 : decode prog_1_method_8_code 21 = .ok (.aload_n 0, 1) := am_row (r := (21, .aload_n 0, 1)) ro_WD_lift 11 rfl
theorem d_WD_lift_22 : decode prog_1_method_8_code 22 = .ok (.getfield 19, 3) := am_row (r := (22, .getfield 19, 3)) ro_WD_lift 12 rfl
theorem d_WD_lift_25 : decode prog_1_method_8_code 25 = .ok (.iload_n 1, 1) := am_row (r := (25, .iload_n 1, 1)) ro_WD_lift 13 rfl
theorem d_WD_lift_26 : decode prog_1_method_8_code 26 = .ok (.invokevirtual 162, 3) := am_row (r := (26, .invokevirtual 162, 3)) ro_WD_lift 14 rfl
theorem d_WD_lift_29 : decode prog_1_method_8_code 29 = .ok (.aload_n 0, 1) := am_row (r := (29, .aload_n 0, 1)) ro_WD_lift 15 rfl
theorem d_WD_lift_30 : decode prog_1_method_8_code 30 = .ok (.aload_n 0, 1) := am_row (r := (30, .aload_n 0, 1)) ro_WD_lift 16 rfl
theorem d_WD_lift_31 : decode prog_1_method_8_code 31 = .ok (.getfield 19, 3) := am_row (r := (31, .getfield 19, 3)) ro_WD_lift 17 rfl
theorem d_WD_lift_34 : decode prog_1_method_8_code 34 = .ok (.getfield 152, 3) := am_row (r := (34, .getfield 152, 3)) ro_WD_lift 18 rfl
theorem d_WD_lift_37 : decode prog_1_method_8_code 37 = .ok (.invokevirtual 91, 3) := am_row (r := (37, .invokevirtual 91, 3)) ro_WD_lift 19 rfl
theorem d_WD_lift_40 : decode prog_1_method_8_code 40 = .ok (.ireturn, 1) := am_row (r := (40, .ireturn, 1)) ro_WD_lift 20 rfl
abbrev y_Math_floorMod : MethodName := ⟨"java/lang/Math", "floorMod", "(II)I"⟩
theorem c_Math_floorMod : Cond.code y_Math_floorMod prog_15_method_50_code 3 (some .int) ∈ am_T := am_mem 494 (by decide +kernel) rfl
def rw_Math_floorMod : List (Nat × Instr × Nat) := [(0, .iload_n 0, 1), (1, .iload_n 1, 1), (2, .irem, 1), (3, .istore_n 2, 1), (4, .iload_n 0, 1), (5, .iload_n 1, 1), (6, .ixor, 1), (7, .ifCond .ge 11, 3), (10, .iload_n 2, 1), (11, .ifCond .eq 7, 3), (14, .iload_n 2, 1), (15, .iload_n 1, 1), (16, .iadd, 1), (17, .ireturn, 1), (18, .iload_n 2, 1), (19, .ireturn, 1)]
theorem ro_Math_floorMod : rw_Math_floorMod.all (fun r => decide (decode prog_15_method_50_code r.1 = .ok r.2)) = true := by decide +kernel
theorem d_Math_floorMod_0 : decode prog_15_method_50_code 0 = .ok (.iload_n 0, 1) := am_row (r := (0, .iload_n 0, 1)) ro_Math_floorMod 0 rfl
theorem d_Math_floorMod_1 : decode prog_15_method_50_code 1 = .ok (.iload_n 1, 1) := am_row (r := (1, .iload_n 1, 1)) ro_Math_floorMod 1 rfl
theorem d_Math_floorMod_2 : decode prog_15_method_50_code 2 = .ok (.irem, 1) := am_row (r := (2, .irem, 1)) ro_Math_floorMod 2 rfl
theorem d_Math_floorMod_3 : decode prog_15_method_50_code 3 = .ok (.istore_n 2, 1) := am_row (r := (3, .istore_n 2, 1)) ro_Math_floorMod 3 rfl
theorem d_Math_floorMod_4 : decode prog_15_method_50_code 4 = .ok (.iload_n 0, 1) := am_row (r := (4, .iload_n 0, 1)) ro_Math_floorMod 4 rfl
theorem d_Math_floorMod_5 : decode prog_15_method_50_code 5 = .ok (.iload_n 1, 1) := am_row (r := (5, .iload_n 1, 1)) ro_Math_floorMod 5 rfl
theorem d_Math_floorMod_6 : decode prog_15_method_50_code 6 = .ok (.ixor, 1) := am_row (r := (6, .ixor, 1)) ro_Math_floorMod 6 rfl
theorem d_Math_floorMod_7 : decode prog_15_method_50_code 7 = .ok (.ifCond .ge 11, 3) := am_row (r := (7, .ifCond .ge 11, 3)) ro_Math_floorMod 7 rfl
theorem d_Math_floorMod_10 : decode prog_15_method_50_code 10 = .ok (.iload_n 2, 1) := am_row (r := (10, .iload_n 2, 1)) ro_Math_floorMod 8 rfl
theorem d_Math_floorMod_11 : decode prog_15_method_50_code 11 = .ok (.ifCond .eq 7, 3) := am_row (r := (11, .ifCond .eq 7, 3)) ro_Math_floorMod 9 rfl
theorem d_Math_floorMod_14 : decode prog_15_method_50_code 14 = .ok (.iload_n 2, 1) := am_row (r := (14, .iload_n 2, 1)) ro_Math_floorMod 10 rfl
theorem d_Math_floorMod_15 : decode prog_15_method_50_code 15 = .ok (.iload_n 1, 1) := am_row (r := (15, .iload_n 1, 1)) ro_Math_floorMod 11 rfl
theorem d_Math_floorMod_16 : decode prog_15_method_50_code 16 = .ok (.iadd, 1) := am_row (r := (16, .iadd, 1)) ro_Math_floorMod 12 rfl
theorem d_Math_floorMod_17 : decode prog_15_method_50_code 17 = .ok (.ireturn, 1) := am_row (r := (17, .ireturn, 1)) ro_Math_floorMod 13 rfl
theorem d_Math_floorMod_18 : decode prog_15_method_50_code 18 = .ok (.iload_n 2, 1) := am_row (r := (18, .iload_n 2, 1)) ro_Math_floorMod 14 rfl
theorem d_Math_floorMod_19 : decode prog_15_method_50_code 19 = .ok (.ireturn, 1) := am_row (r := (19, .ireturn, 1)) ro_Math_floorMod 15 rfl
abbrev y_Disc_standRound : MethodName := ⟨"WheelDisc$Disc", "standRound", "(I)I"⟩
theorem c_Disc_standRound : Cond.code y_Disc_standRound prog_2_method_13_code 2 (some .int) ∈ am_T := am_mem 491 (by decide +kernel) rfl
def rw_Disc_standRound : List (Nat × Instr × Nat) := [(0, .aload_n 0, 1), (1, .getfield 22, 3), (4, .iconst 1, 1), (5, .if_icmp .ge 7, 3), (8, .iconst 0, 1), (9, .goto 11, 3), (12, .iload_n 1, 1), (13, .aload_n 0, 1), (14, .getfield 22, 3), (17, .invokestatic 50, 3), (20, .ireturn, 1)]
theorem ro_Disc_standRound : rw_Disc_standRound.all (fun r => decide (decode prog_2_method_13_code r.1 = .ok r.2)) = true := by decide +kernel
theorem d_Disc_standRound_0 : decode prog_2_method_13_code 0 = .ok (.aload_n 0, 1) := am_row (r := (0, .aload_n 0, 1)) ro_Disc_standRound 0 rfl
theorem d_Disc_standRound_1 : decode prog_2_method_13_code 1 = .ok (.getfield 22, 3) := am_row (r := (1, .getfield 22, 3)) ro_Disc_standRound 1 rfl
theorem d_Disc_standRound_4 : decode prog_2_method_13_code 4 = .ok (.iconst 1, 1) := am_row (r := (4, .iconst 1, 1)) ro_Disc_standRound 2 rfl
theorem d_Disc_standRound_5 : decode prog_2_method_13_code 5 = .ok (.if_icmp .ge 7, 3) := am_row (r := (5, .if_icmp .ge 7, 3)) ro_Disc_standRound 3 rfl
theorem d_Disc_standRound_8 : decode prog_2_method_13_code 8 = .ok (.iconst 0, 1) := am_row (r := (8, .iconst 0, 1)) ro_Disc_standRound 4 rfl
theorem d_Disc_standRound_9 : decode prog_2_method_13_code 9 = .ok (.goto 11, 3) := am_row (r := (9, .goto 11, 3)) ro_Disc_standRound 5 rfl
theorem d_Disc_standRound_12 : decode prog_2_method_13_code 12 = .ok (.iload_n 1, 1) := am_row (r := (12, .iload_n 1, 1)) ro_Disc_standRound 6 rfl
theorem d_Disc_standRound_13 : decode prog_2_method_13_code 13 = .ok (.aload_n 0, 1) := am_row (r := (13, .aload_n 0, 1)) ro_Disc_standRound 7 rfl
theorem d_Disc_standRound_14 : decode prog_2_method_13_code 14 = .ok (.getfield 22, 3) := am_row (r := (14, .getfield 22, 3)) ro_Disc_standRound 8 rfl
theorem d_Disc_standRound_17 : decode prog_2_method_13_code 17 = .ok (.invokestatic 50, 3) := am_row (r := (17, .invokestatic 50, 3)) ro_Disc_standRound 9 rfl
theorem d_Disc_standRound_20 : decode prog_2_method_13_code 20 = .ok (.ireturn, 1) := am_row (r := (20, .ireturn, 1)) ro_Disc_standRound 10 rfl
abbrev y_Disc_layTracksAnew : MethodName := ⟨"WheelDisc$Disc", "layTracksAnew", "(II[J)V"⟩
theorem c_Disc_layTracksAnew : Cond.code y_Disc_layTracksAnew prog_2_method_16_code 7 none ∈ am_T := am_mem 502 (by decide +kernel) rfl
def rw_Disc_layTracksAnew : List (Nat × Instr × Nat) := [(0, .iconst 0, 1), (1, .istore 4, 2), (3, .iload 4, 2), (5, .aload_n 0, 1), (6, .getfield 26, 3), (9, .if_icmp .ge 73, 3), (12, .aload_n 0, 1), (13, .getfield 11, 3), (16, .iload 4, 2), (18, .bipush 8, 2), (20, .imul, 1), (21, .aload_n 3, 1), (22, .iconst 0, 1), (23, .bipush 8, 2), (25, .invokestatic 38, 3), (28, .iload_n 1, 1), (29, .istore 5, 2), (31, .iconst 0, 1), (32, .istore 6, 2), (34, .iload 6, 2), (36, .aload_n 0, 1), (37, .getfield 22, 3), (40, .if_icmp .ge 36, 3), (43, .aload_n 0, 1), (44, .iload 4, 2), (46, .iload 6, 2), (48, .aload_n 3, 1), (49, .iconst 0, 1), (50, .iload 5, 2), (52, .invokestatic 44, 3), (55, .invokevirtual 60, 3), (58, .iload 5, 2), (60, .iload_n 2, 1), (61, .aload_n 0, 1), (62, .getfield 22, 3), (65, .invokestatic 64, 3), (68, .istore 5, 2), (70, .iinc 6 1, 3), (73, .goto (-39), 3), (76, .iinc 4 1, 3), (79, .goto (-76), 3), (82, .return_, 1)]
theorem ro_Disc_layTracksAnew : rw_Disc_layTracksAnew.all (fun r => decide (decode prog_2_method_16_code r.1 = .ok r.2)) = true := by decide +kernel
theorem d_Disc_layTracksAnew_0 : decode prog_2_method_16_code 0 = .ok (.iconst 0, 1) := am_row (r := (0, .iconst 0, 1)) ro_Disc_layTracksAnew 0 rfl
theorem d_Disc_layTracksAnew_1 : decode prog_2_method_16_code 1 = .ok (.istore 4, 2) := am_row (r := (1, .istore 4, 2)) ro_Disc_layTracksAnew 1 rfl
theorem d_Disc_layTracksAnew_3 : decode prog_2_method_16_code 3 = .ok (.iload 4, 2) := am_row (r := (3, .iload 4, 2)) ro_Disc_layTracksAnew 2 rfl
theorem d_Disc_layTracksAnew_5 : decode prog_2_method_16_code 5 = .ok (.aload_n 0, 1) := am_row (r := (5, .aload_n 0, 1)) ro_Disc_layTracksAnew 3 rfl
theorem d_Disc_layTracksAnew_6 : decode prog_2_method_16_code 6 = .ok (.getfield 26, 3) := am_row (r := (6, .getfield 26, 3)) ro_Disc_layTracksAnew 4 rfl
theorem d_Disc_layTracksAnew_9 : decode prog_2_method_16_code 9 = .ok (.if_icmp .ge 73, 3) := am_row (r := (9, .if_icmp .ge 73, 3)) ro_Disc_layTracksAnew 5 rfl
theorem d_Disc_layTracksAnew_12 : decode prog_2_method_16_code 12 = .ok (.aload_n 0, 1) := am_row (r := (12, .aload_n 0, 1)) ro_Disc_layTracksAnew 6 rfl
theorem d_Disc_layTracksAnew_13 : decode prog_2_method_16_code 13 = .ok (.getfield 11, 3) := am_row (r := (13, .getfield 11, 3)) ro_Disc_layTracksAnew 7 rfl
theorem d_Disc_layTracksAnew_16 : decode prog_2_method_16_code 16 = .ok (.iload 4, 2) := am_row (r := (16, .iload 4, 2)) ro_Disc_layTracksAnew 8 rfl
theorem d_Disc_layTracksAnew_18 : decode prog_2_method_16_code 18 = .ok (.bipush 8, 2) := am_row (r := (18, .bipush 8, 2)) ro_Disc_layTracksAnew 9 rfl
theorem d_Disc_layTracksAnew_20 : decode prog_2_method_16_code 20 = .ok (.imul, 1) := am_row (r := (20, .imul, 1)) ro_Disc_layTracksAnew 10 rfl
theorem d_Disc_layTracksAnew_21 : decode prog_2_method_16_code 21 = .ok (.aload_n 3, 1) := am_row (r := (21, .aload_n 3, 1)) ro_Disc_layTracksAnew 11 rfl
theorem d_Disc_layTracksAnew_22 : decode prog_2_method_16_code 22 = .ok (.iconst 0, 1) := am_row (r := (22, .iconst 0, 1)) ro_Disc_layTracksAnew 12 rfl
theorem d_Disc_layTracksAnew_23 : decode prog_2_method_16_code 23 = .ok (.bipush 8, 2) := am_row (r := (23, .bipush 8, 2)) ro_Disc_layTracksAnew 13 rfl
theorem d_Disc_layTracksAnew_25 : decode prog_2_method_16_code 25 = .ok (.invokestatic 38, 3) := am_row (r := (25, .invokestatic 38, 3)) ro_Disc_layTracksAnew 14 rfl
theorem d_Disc_layTracksAnew_28 : decode prog_2_method_16_code 28 = .ok (.iload_n 1, 1) := am_row (r := (28, .iload_n 1, 1)) ro_Disc_layTracksAnew 15 rfl
theorem d_Disc_layTracksAnew_29 : decode prog_2_method_16_code 29 = .ok (.istore 5, 2) := am_row (r := (29, .istore 5, 2)) ro_Disc_layTracksAnew 16 rfl
theorem d_Disc_layTracksAnew_31 : decode prog_2_method_16_code 31 = .ok (.iconst 0, 1) := am_row (r := (31, .iconst 0, 1)) ro_Disc_layTracksAnew 17 rfl
theorem d_Disc_layTracksAnew_32 : decode prog_2_method_16_code 32 = .ok (.istore 6, 2) := am_row (r := (32, .istore 6, 2)) ro_Disc_layTracksAnew 18 rfl
theorem d_Disc_layTracksAnew_34 : decode prog_2_method_16_code 34 = .ok (.iload 6, 2) := am_row (r := (34, .iload 6, 2)) ro_Disc_layTracksAnew 19 rfl
theorem d_Disc_layTracksAnew_36 : decode prog_2_method_16_code 36 = .ok (.aload_n 0, 1) := am_row (r := (36, .aload_n 0, 1)) ro_Disc_layTracksAnew 20 rfl
theorem d_Disc_layTracksAnew_37 : decode prog_2_method_16_code 37 = .ok (.getfield 22, 3) := am_row (r := (37, .getfield 22, 3)) ro_Disc_layTracksAnew 21 rfl
theorem d_Disc_layTracksAnew_40 : decode prog_2_method_16_code 40 = .ok (.if_icmp .ge 36, 3) := am_row (r := (40, .if_icmp .ge 36, 3)) ro_Disc_layTracksAnew 22 rfl
theorem d_Disc_layTracksAnew_43 : decode prog_2_method_16_code 43 = .ok (.aload_n 0, 1) := am_row (r := (43, .aload_n 0, 1)) ro_Disc_layTracksAnew 23 rfl
theorem d_Disc_layTracksAnew_44 : decode prog_2_method_16_code 44 = .ok (.iload 4, 2) := am_row (r := (44, .iload 4, 2)) ro_Disc_layTracksAnew 24 rfl
theorem d_Disc_layTracksAnew_46 : decode prog_2_method_16_code 46 = .ok (.iload 6, 2) := am_row (r := (46, .iload 6, 2)) ro_Disc_layTracksAnew 25 rfl
theorem d_Disc_layTracksAnew_48 : decode prog_2_method_16_code 48 = .ok (.aload_n 3, 1) := am_row (r := (48, .aload_n 3, 1)) ro_Disc_layTracksAnew 26 rfl
theorem d_Disc_layTracksAnew_49 : decode prog_2_method_16_code 49 = .ok (.iconst 0, 1) := am_row (r := (49, .iconst 0, 1)) ro_Disc_layTracksAnew 27 rfl
theorem d_Disc_layTracksAnew_50 : decode prog_2_method_16_code 50 = .ok (.iload 5, 2) := am_row (r := (50, .iload 5, 2)) ro_Disc_layTracksAnew 28 rfl
theorem d_Disc_layTracksAnew_52 : decode prog_2_method_16_code 52 = .ok (.invokestatic 44, 3) := am_row (r := (52, .invokestatic 44, 3)) ro_Disc_layTracksAnew 29 rfl
theorem d_Disc_layTracksAnew_55 : decode prog_2_method_16_code 55 = .ok (.invokevirtual 60, 3) := am_row (r := (55, .invokevirtual 60, 3)) ro_Disc_layTracksAnew 30 rfl
theorem d_Disc_layTracksAnew_58 : decode prog_2_method_16_code 58 = .ok (.iload 5, 2) := am_row (r := (58, .iload 5, 2)) ro_Disc_layTracksAnew 31 rfl
theorem d_Disc_layTracksAnew_60 : decode prog_2_method_16_code 60 = .ok (.iload_n 2, 1) := am_row (r := (60, .iload_n 2, 1)) ro_Disc_layTracksAnew 32 rfl
theorem d_Disc_layTracksAnew_61 : decode prog_2_method_16_code 61 = .ok (.aload_n 0, 1) := am_row (r := (61, .aload_n 0, 1)) ro_Disc_layTracksAnew 33 rfl
theorem d_Disc_layTracksAnew_62 : decode prog_2_method_16_code 62 = .ok (.getfield 22, 3) := am_row (r := (62, .getfield 22, 3)) ro_Disc_layTracksAnew 34 rfl
theorem d_Disc_layTracksAnew_65 : decode prog_2_method_16_code 65 = .ok (.invokestatic 64, 3) := am_row (r := (65, .invokestatic 64, 3)) ro_Disc_layTracksAnew 35 rfl
theorem d_Disc_layTracksAnew_68 : decode prog_2_method_16_code 68 = .ok (.istore 5, 2) := am_row (r := (68, .istore 5, 2)) ro_Disc_layTracksAnew 36 rfl
theorem d_Disc_layTracksAnew_70 : decode prog_2_method_16_code 70 = .ok (.iinc 6 1, 3) := am_row (r := (70, .iinc 6 1, 3)) ro_Disc_layTracksAnew 37 rfl
theorem d_Disc_layTracksAnew_73 : decode prog_2_method_16_code 73 = .ok (.goto (-39), 3) := am_row (r := (73, .goto (-39), 3)) ro_Disc_layTracksAnew 38 rfl
theorem d_Disc_layTracksAnew_76 : decode prog_2_method_16_code 76 = .ok (.iinc 4 1, 3) := am_row (r := (76, .iinc 4 1, 3)) ro_Disc_layTracksAnew 39 rfl
theorem d_Disc_layTracksAnew_79 : decode prog_2_method_16_code 79 = .ok (.goto (-76), 3) := am_row (r := (79, .goto (-76), 3)) ro_Disc_layTracksAnew 40 rfl
theorem d_Disc_layTracksAnew_82 : decode prog_2_method_16_code 82 = .ok (.return_, 1) := am_row (r := (82, .return_, 1)) ro_Disc_layTracksAnew 41 rfl
abbrev y_Disc_turnBy : MethodName := ⟨"WheelDisc$Disc", "turnBy", "(I[J)V"⟩
theorem c_Disc_turnBy : Cond.code y_Disc_turnBy prog_2_method_14_code 3 none ∈ am_T := am_mem 498 (by decide +kernel) rfl
def rw_Disc_turnBy : List (Nat × Instr × Nat) := [(0, .aload_n 0, 1), (1, .iload_n 1, 1), (2, .iconst 1, 1), (3, .aload_n 2, 1), (4, .invokevirtual 56, 3), (7, .return_, 1)]
theorem ro_Disc_turnBy : rw_Disc_turnBy.all (fun r => decide (decode prog_2_method_14_code r.1 = .ok r.2)) = true := by decide +kernel
theorem d_Disc_turnBy_0 : decode prog_2_method_14_code 0 = .ok (.aload_n 0, 1) := am_row (r := (0, .aload_n 0, 1)) ro_Disc_turnBy 0 rfl
theorem d_Disc_turnBy_1 : decode prog_2_method_14_code 1 = .ok (.iload_n 1, 1) := am_row (r := (1, .iload_n 1, 1)) ro_Disc_turnBy 1 rfl
theorem d_Disc_turnBy_2 : decode prog_2_method_14_code 2 = .ok (.iconst 1, 1) := am_row (r := (2, .iconst 1, 1)) ro_Disc_turnBy 2 rfl
theorem d_Disc_turnBy_3 : decode prog_2_method_14_code 3 = .ok (.aload_n 2, 1) := am_row (r := (3, .aload_n 2, 1)) ro_Disc_turnBy 3 rfl
theorem d_Disc_turnBy_4 : decode prog_2_method_14_code 4 = .ok (.invokevirtual 56, 3) := am_row (r := (4, .invokevirtual 56, 3)) ro_Disc_turnBy 4 rfl
theorem d_Disc_turnBy_7 : decode prog_2_method_14_code 7 = .ok (.return_, 1) := am_row (r := (7, .return_, 1)) ro_Disc_turnBy 5 rfl
abbrev y_WD_turn : MethodName := ⟨"WheelDisc", "turn", "(I)Z"⟩
theorem c_WD_turn : Cond.code y_WD_turn prog_1_method_9_code 2 (some .boolean) ∈ am_T := am_mem 487 (by decide +kernel) rfl
def rw_WD_turn : List (Nat × Instr × Nat) := [(0, .aload_n 0, 1), (1, .invokevirtual 116, 3), (4, .aload_n 0, 1), (5, .getfield 19, 3), (8, .aload_n 0, 1), (9, .getfield 19, 3), (12, .iload_n 1, 1), (13, .invokevirtual 165, 3), (16, .aload_n 0, 1), (17, .getfield 75, 3), (20, .invokevirtual 168, 3), (23, .aload_n 0, 1), (24, .iconst 1, 1), (25, .invokevirtual 112, 3), (28, .ireturn, 1)]
theorem ro_WD_turn : rw_WD_turn.all (fun r => decide (decode prog_1_method_9_code r.1 = .ok r.2)) = true := by decide +kernel
theorem d_WD_turn_0 : decode prog_1_method_9_code 0 = .ok (.aload_n 0, 1) := am_row (r := (0, .aload_n 0, 1)) ro_WD_turn 0 rfl
theorem d_WD_turn_1 : decode prog_1_method_9_code 1 = .ok (.invokevirtual 116, 3) := am_row (r := (1, .invokevirtual 116, 3)) ro_WD_turn 1 rfl
theorem d_WD_turn_4 : decode prog_1_method_9_code 4 = .ok (.aload_n 0, 1) := am_row (r := (4, .aload_n 0, 1)) ro_WD_turn 2 rfl
theorem d_WD_turn_5 : decode prog_1_method_9_code 5 = .ok (.getfield 19, 3) := am_row (r := (5, .getfield 19, 3)) ro_WD_turn 3 rfl
theorem d_WD_turn_8 : decode prog_1_method_9_code 8 = .ok (.aload_n 0, 1) := am_row (r := (8, .aload_n 0, 1)) ro_WD_turn 4 rfl
theorem d_WD_turn_9 : decode prog_1_method_9_code 9 = .ok (.getfield 19, 3) := am_row (r := (9, .getfield 19, 3)) ro_WD_turn 5 rfl
theorem d_WD_turn_12 : decode prog_1_method_9_code 12 = .ok (.iload_n 1, 1) := am_row (r := (12, .iload_n 1, 1)) ro_WD_turn 6 rfl
theorem d_WD_turn_13 : decode prog_1_method_9_code 13 = .ok (.invokevirtual 165, 3) := am_row (r := (13, .invokevirtual 165, 3)) ro_WD_turn 7 rfl
theorem d_WD_turn_16 : decode prog_1_method_9_code 16 = .ok (.aload_n 0, 1) := am_row (r := (16, .aload_n 0, 1)) ro_WD_turn 8 rfl
theorem d_WD_turn_17 : decode prog_1_method_9_code 17 = .ok (.getfield 75, 3) := am_row (r := (17, .getfield 75, 3)) ro_WD_turn 9 rfl
theorem d_WD_turn_20 : decode prog_1_method_9_code 20 = .ok (.invokevirtual 168, 3) := am_row (r := (20, .invokevirtual 168, 3)) ro_WD_turn 10 rfl
theorem d_WD_turn_23 : decode prog_1_method_9_code 23 = .ok (.aload_n 0, 1) := am_row (r := (23, .aload_n 0, 1)) ro_WD_turn 11 rfl
theorem d_WD_turn_24 : decode prog_1_method_9_code 24 = .ok (.iconst 1, 1) := am_row (r := (24, .iconst 1, 1)) ro_WD_turn 12 rfl
theorem d_WD_turn_25 : decode prog_1_method_9_code 25 = .ok (.invokevirtual 112, 3) := am_row (r := (25, .invokevirtual 112, 3)) ro_WD_turn 13 rfl
theorem d_WD_turn_28 : decode prog_1_method_9_code 28 = .ok (.ireturn, 1) := am_row (r := (28, .ireturn, 1)) ro_WD_turn 14 rfl
abbrev y_Disc_mirrorAll : MethodName := ⟨"WheelDisc$Disc", "mirrorAll", "([J)V"⟩
theorem c_Disc_mirrorAll : Cond.code y_Disc_mirrorAll prog_2_method_15_code 3 none ∈ am_T := am_mem 512 (by decide +kernel) rfl
def rw_Disc_mirrorAll : List (Nat × Instr × Nat) := [(0, .aload_n 0, 1), (1, .aload_n 0, 1), (2, .getfield 22, 3), (5, .iconst 1, 1), (6, .isub, 1), (7, .iconst (-1), 1), (8, .aload_n 1, 1), (9, .invokevirtual 56, 3), (12, .iconst 0, 1), (13, .istore_n 2, 1), (14, .iload_n 2, 1), (15, .aload_n 0, 1), (16, .getfield 29, 3), (19, .if_icmp .ge 39, 3), (22, .aload_n 0, 1), (23, .getfield 19, 3), (26, .iload_n 2, 1), (27, .aload_n 0, 1), (28, .getfield 19, 3), (31, .iload_n 2, 1), (32, .iaload, 1), (33, .ifCond .ne 7, 3), (36, .iconst 0, 1), (37, .goto 14, 3), (40, .aload_n 0, 1), (41, .getfield 22, 3), (44, .aload_n 0, 1), (45, .getfield 19, 3), (48, .iload_n 2, 1), (49, .iaload, 1), (50, .isub, 1), (51, .iastore, 1), (52, .iinc 2 1, 3), (55, .goto (-41), 3), (58, .return_, 1)]
theorem ro_Disc_mirrorAll : rw_Disc_mirrorAll.all (fun r => decide (decode prog_2_method_15_code r.1 = .ok r.2)) = true := by decide +kernel
theorem d_Disc_mirrorAll_0 : decode prog_2_method_15_code 0 = .ok (.aload_n 0, 1) := am_row (r := (0, .aload_n 0, 1)) ro_Disc_mirrorAll 0 rfl
theorem d_Disc_mirrorAll_1 : decode prog_2_method_15_code 1 = .ok (.aload_n 0, 1) := am_row (r := (1, .aload_n 0, 1)) ro_Disc_mirrorAll 1 rfl
theorem d_Disc_mirrorAll_2 : decode prog_2_method_15_code 2 = .ok (.getfield 22, 3) := am_row (r := (2, .getfield 22, 3)) ro_Disc_mirrorAll 2 rfl
theorem d_Disc_mirrorAll_5 : decode prog_2_method_15_code 5 = .ok (.iconst 1, 1) := am_row (r := (5, .iconst 1, 1)) ro_Disc_mirrorAll 3 rfl
theorem d_Disc_mirrorAll_6 : decode prog_2_method_15_code 6 = .ok (.isub, 1) := am_row (r := (6, .isub, 1)) ro_Disc_mirrorAll 4 rfl
theorem d_Disc_mirrorAll_7 : decode prog_2_method_15_code 7 = .ok (.iconst (-1), 1) := am_row (r := (7, .iconst (-1), 1)) ro_Disc_mirrorAll 5 rfl
theorem d_Disc_mirrorAll_8 : decode prog_2_method_15_code 8 = .ok (.aload_n 1, 1) := am_row (r := (8, .aload_n 1, 1)) ro_Disc_mirrorAll 6 rfl
theorem d_Disc_mirrorAll_9 : decode prog_2_method_15_code 9 = .ok (.invokevirtual 56, 3) := am_row (r := (9, .invokevirtual 56, 3)) ro_Disc_mirrorAll 7 rfl
theorem d_Disc_mirrorAll_12 : decode prog_2_method_15_code 12 = .ok (.iconst 0, 1) := am_row (r := (12, .iconst 0, 1)) ro_Disc_mirrorAll 8 rfl
theorem d_Disc_mirrorAll_13 : decode prog_2_method_15_code 13 = .ok (.istore_n 2, 1) := am_row (r := (13, .istore_n 2, 1)) ro_Disc_mirrorAll 9 rfl
theorem d_Disc_mirrorAll_14 : decode prog_2_method_15_code 14 = .ok (.iload_n 2, 1) := am_row (r := (14, .iload_n 2, 1)) ro_Disc_mirrorAll 10 rfl
theorem d_Disc_mirrorAll_15 : decode prog_2_method_15_code 15 = .ok (.aload_n 0, 1) := am_row (r := (15, .aload_n 0, 1)) ro_Disc_mirrorAll 11 rfl
theorem d_Disc_mirrorAll_16 : decode prog_2_method_15_code 16 = .ok (.getfield 29, 3) := am_row (r := (16, .getfield 29, 3)) ro_Disc_mirrorAll 12 rfl
theorem d_Disc_mirrorAll_19 : decode prog_2_method_15_code 19 = .ok (.if_icmp .ge 39, 3) := am_row (r := (19, .if_icmp .ge 39, 3)) ro_Disc_mirrorAll 13 rfl
theorem d_Disc_mirrorAll_22 : decode prog_2_method_15_code 22 = .ok (.aload_n 0, 1) := am_row (r := (22, .aload_n 0, 1)) ro_Disc_mirrorAll 14 rfl
theorem d_Disc_mirrorAll_23 : decode prog_2_method_15_code 23 = .ok (.getfield 19, 3) := am_row (r := (23, .getfield 19, 3)) ro_Disc_mirrorAll 15 rfl
theorem d_Disc_mirrorAll_26 : decode prog_2_method_15_code 26 = .ok (.iload_n 2, 1) := am_row (r := (26, .iload_n 2, 1)) ro_Disc_mirrorAll 16 rfl
theorem d_Disc_mirrorAll_27 : decode prog_2_method_15_code 27 = .ok (.aload_n 0, 1) := am_row (r := (27, .aload_n 0, 1)) ro_Disc_mirrorAll 17 rfl
theorem d_Disc_mirrorAll_28 : decode prog_2_method_15_code 28 = .ok (.getfield 19, 3) := am_row (r := (28, .getfield 19, 3)) ro_Disc_mirrorAll 18 rfl
theorem d_Disc_mirrorAll_31 : decode prog_2_method_15_code 31 = .ok (.iload_n 2, 1) := am_row (r := (31, .iload_n 2, 1)) ro_Disc_mirrorAll 19 rfl
theorem d_Disc_mirrorAll_32 : decode prog_2_method_15_code 32 = .ok (.iaload, 1) := am_row (r := (32, .iaload, 1)) ro_Disc_mirrorAll 20 rfl
theorem d_Disc_mirrorAll_33 : decode prog_2_method_15_code 33 = .ok (.ifCond .ne 7, 3) := am_row (r := (33, .ifCond .ne 7, 3)) ro_Disc_mirrorAll 21 rfl
theorem d_Disc_mirrorAll_36 : decode prog_2_method_15_code 36 = .ok (.iconst 0, 1) := am_row (r := (36, .iconst 0, 1)) ro_Disc_mirrorAll 22 rfl
theorem d_Disc_mirrorAll_37 : decode prog_2_method_15_code 37 = .ok (.goto 14, 3) := am_row (r := (37, .goto 14, 3)) ro_Disc_mirrorAll 23 rfl
theorem d_Disc_mirrorAll_40 : decode prog_2_method_15_code 40 = .ok (.aload_n 0, 1) := am_row (r := (40, .aload_n 0, 1)) ro_Disc_mirrorAll 24 rfl
theorem d_Disc_mirrorAll_41 : decode prog_2_method_15_code 41 = .ok (.getfield 22, 3) := am_row (r := (41, .getfield 22, 3)) ro_Disc_mirrorAll 25 rfl
theorem d_Disc_mirrorAll_44 : decode prog_2_method_15_code 44 = .ok (.aload_n 0, 1) := am_row (r := (44, .aload_n 0, 1)) ro_Disc_mirrorAll 26 rfl
theorem d_Disc_mirrorAll_45 : decode prog_2_method_15_code 45 = .ok (.getfield 19, 3) := am_row (r := (45, .getfield 19, 3)) ro_Disc_mirrorAll 27 rfl
theorem d_Disc_mirrorAll_48 : decode prog_2_method_15_code 48 = .ok (.iload_n 2, 1) := am_row (r := (48, .iload_n 2, 1)) ro_Disc_mirrorAll 28 rfl
theorem d_Disc_mirrorAll_49 : decode prog_2_method_15_code 49 = .ok (.iaload, 1) := am_row (r := (49, .iaload, 1)) ro_Disc_mirrorAll 29 rfl
theorem d_Disc_mirrorAll_50 : decode prog_2_method_15_code 50 = .ok (.isub, 1) := am_row (r := (50, .isub, 1)) ro_Disc_mirrorAll 30 rfl
theorem d_Disc_mirrorAll_51 : decode prog_2_method_15_code 51 = .ok (.iastore, 1) := am_row (r := (51, .iastore, 1)) ro_Disc_mirrorAll 31 rfl
theorem d_Disc_mirrorAll_52 : decode prog_2_method_15_code 52 = .ok (.iinc 2 1, 3) := am_row (r := (52, .iinc 2 1, 3)) ro_Disc_mirrorAll 32 rfl
theorem d_Disc_mirrorAll_55 : decode prog_2_method_15_code 55 = .ok (.goto (-41), 3) := am_row (r := (55, .goto (-41), 3)) ro_Disc_mirrorAll 33 rfl
theorem d_Disc_mirrorAll_58 : decode prog_2_method_15_code 58 = .ok (.return_, 1) := am_row (r := (58, .return_, 1)) ro_Disc_mirrorAll 34 rfl
