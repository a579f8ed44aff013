abbrev y_WL_isLikeOneAhead : MethodName := ⟨"WheelDisc$WordList", "isLikeOneAhead", "(I)Z"⟩
theorem c_WL_isLikeOneAhead : Cond.code y_WL_isLikeOneAhead prog_11_method_5_code 3 (some .boolean) ∈ am_T := am_mem 916 (by decide +kernel) rfl
def rw_WL_isLikeOneAhead : List (Nat × Instr × Nat) := [(0, .iconst 0, 1), (1, .istore_n 2, 1), (2, .iload_n 2, 1), (3, .iload_n 1, 1), (4, .if_icmp .ge 26, 3), (7, .aload_n 0, 1), (8, .getfield 11, 3), (11, .iload_n 2, 1), (12, .iaload, 1), (13, .aload_n 0, 1), (14, .getfield 11, 3), (17, .iload_n 1, 1), (18, .iaload, 1), (19, .if_icmp .ne 5, 3), (22, .iconst 1, 1), (23, .ireturn, 1), (24, .iinc 2 1, 3), (27, .goto (-25), 3), (30, .iconst 0, 1), (31, .ireturn, 1)]
theorem ro_WL_isLikeOneAhead : rw_WL_isLikeOneAhead.all (fun r => decide (decode prog_11_method_5_code r.1 = .ok r.2)) = true := by decide +kernel
theorem d_WL_isLikeOneAhead_0 : decode prog_11_method_5_code 0 = .ok (.iconst 0, 1) := am_row (r := (0, .iconst 0, 1)) ro_WL_isLikeOneAhead 0 rfl
theorem d_WL_isLikeOneAhead_1 : decode prog_11_method_5_code 1 = .ok (.istore_n 2, 1) := am_row (r := (1, .istore_n 2, 1)) ro_WL_isLikeOneAhead 1 rfl
theorem d_WL_isLikeOneAhead_2 : decode prog_11_method_5_code 2 = .ok (.iload_n 2, 1) := am_row (r := (2, .iload_n 2, 1)) ro_WL_isLikeOneAhead 2 rfl
theorem d_WL_isLikeOneAhead_3 : decode prog_11_method_5_code 3 = .ok (.iload_n 1, 1) := am_row (r := (3, .iload_n 1, 1)) ro_WL_isLikeOneAhead 3 rfl
theorem d_WL_isLikeOneAhead_4 : decode prog_11_method_5_code 4 = .ok (.if_icmp .ge 26, 3) := am_row (r := (4, .if_icmp .ge 26, 3)) ro_WL_isLikeOneAhead 4 rfl
theorem d_WL_isLikeOneAhead_7 : decode prog_11_method_5_code 7 = .ok (.aload_n 0, 1) := am_row (r := (7, .aload_n 0, 1)) ro_WL_isLikeOneAhead 5 rfl
theorem d_WL_isLikeOneAhead_8 : decode prog_11_method_5_code 8 = .ok (.getfield 11, 3) := am_row (r := (8, .getfield 11, 3)) ro_WL_isLikeOneAhead 6 rfl
theorem d_WL_isLikeOneAhead_11 : decode prog_11_method_5_code 11 = .ok (.iload_n 2, 1) := am_row (r := (11, .iload_n 2, 1)) ro_WL_isLikeOneAhead 7 rfl
theorem d_WL_isLikeOneAhead_12 : decode prog_11_method_5_code 12 = .ok (.iaload, 1) := am_row (r := (12, .iaload, 1)) ro_WL_isLikeOneAhead 8 rfl
theorem d_WL_isLikeOneAhead_13 : decode prog_11_method_5_code 13 = .ok (.aload_n 0, 1) := am_row (r := (13, .aload_n 0, 1)) ro_WL_isLikeOneAhead 9 rfl
theorem d_WL_isLikeOneAhead_14 : decode prog_11_method_5_code 14 = .ok (.getfield 11, 3) := am_row (r := (14, .getfield 11, 3)) ro_WL_isLikeOneAhead 10 rfl
theorem d_WL_isLikeOneAhead_17 : decode prog_11_method_5_code 17 = .ok (.iload_n 1, 1) := am_row (r := (17, .iload_n 1, 1)) ro_WL_isLikeOneAhead 11 rfl
theorem d_WL_isLikeOneAhead_18 : decode prog_11_method_5_code 18 = .ok (.iaload, 1) := am_row (r := (18, .iaload, 1)) ro_WL_isLikeOneAhead 12 rfl
theorem d_WL_isLikeOneAhead_19 : decode prog_11_method_5_code 19 = .ok (.if_icmp .ne 5, 3) := am_row (r := (19, .if_icmp .ne 5, 3)) ro_WL_isLikeOneAhead 13 rfl
theorem d_WL_isLikeOneAhead_22 : decode prog_11_method_5_code 22 = .ok (.iconst 1, 1) := am_row (r := (22, .iconst 1, 1)) ro_WL_isLikeOneAhead 14 rfl
theorem d_WL_isLikeOneAhead_23 : decode prog_11_method_5_code 23 = .ok (.ireturn, 1) := am_row (r := (23, .ireturn, 1)) ro_WL_isLikeOneAhead 15 rfl
theorem d_WL_isLikeOneAhead_24 : decode prog_11_method_5_code 24 = .ok (.iinc 2 1, 3) := am_row (r := (24, .iinc 2 1, 3)) ro_WL_isLikeOneAhead 16 rfl
theorem d_WL_isLikeOneAhead_27 : decode prog_11_method_5_code 27 = .ok (.goto (-25), 3) := am_row (r := (27, .goto (-25), 3)) ro_WL_isLikeOneAhead 17 rfl
theorem d_WL_isLikeOneAhead_30 : decode prog_11_method_5_code 30 = .ok (.iconst 0, 1) := am_row (r := (30, .iconst 0, 1)) ro_WL_isLikeOneAhead 18 rfl
theorem d_WL_isLikeOneAhead_31 : decode prog_11_method_5_code 31 = .ok (.ireturn, 1) := am_row (r := (31, .ireturn, 1)) ro_WL_isLikeOneAhead 19 rfl
abbrev y_WL_isSingleStep : MethodName := ⟨"WheelDisc$WordList", "isSingleStep", "(I)Z"⟩
theorem c_WL_isSingleStep : Cond.code y_WL_isSingleStep prog_11_method_6_code 2 (some .boolean) ∈ am_T := am_mem 920 (by decide +kernel) rfl
def rw_WL_isSingleStep : List (Nat × Instr × Nat) := [(0, .aload_n 0, 1), (1, .getfield 11, 3), (4, .iload_n 1, 1), (5, .iaload, 1), (6, .aload_n 0, 1), (7, .getfield 11, 3), (10, .iload_n 1, 1), (11, .iconst (-1), 1), (12, .aload_n 0, 1), (13, .getfield 15, 3), (16, .invokestatic 26, 3), (19, .iaload, 1), (20, .ixor, 1), (21, .invokestatic 30, 3), (24, .iconst 1, 1), (25, .if_icmp .ne 7, 3), (28, .iconst 1, 1), (29, .goto 4, 3), (32, .iconst 0, 1), (33, .ireturn, 1)]
theorem ro_WL_isSingleStep : rw_WL_isSingleStep.all (fun r => decide (decode prog_11_method_6_code r.1 = .ok r.2)) = true := by decide +kernel
theorem d_WL_isSingleStep_0 : decode prog_11_method_6_code 0 = .ok (.aload_n 0, 1) := am_row (r := (0, .aload_n 0, 1)) ro_WL_isSingleStep 0 rfl
theorem d_WL_isSingleStep_1 : decode prog_11_method_6_code 1 = .ok (.getfield 11, 3) := am_row (r := (1, .getfield 11, 3)) ro_WL_isSingleStep 1 rfl
theorem d_WL_isSingleStep_4 : decode prog_11_method_6_code 4 = .ok (.iload_n 1, 1) := am_row (r := (4, .iload_n 1, 1)) ro_WL_isSingleStep 2 rfl
theorem d_WL_isSingleStep_5 : decode prog_11_method_6_code 5 = .ok (.iaload, 1) := am_row (r := (5, .iaload, 1)) ro_WL_isSingleStep 3 rfl
theorem d_WL_isSingleStep_6 : decode prog_11_method_6_code 6 = .ok (.aload_n 0, 1) := am_row (r := (6, .aload_n 0, 1)) ro_WL_isSingleStep 4 rfl
theorem d_WL_isSingleStep_7 : decode prog_11_method_6_code 7 = .ok (.getfield 11, 3) := am_row (r := (7, .getfield 11, 3)) ro_WL_isSingleStep 5 rfl
theorem d_WL_isSingleStep_10 : decode prog_11_method_6_code 10 = .ok (.iload_n 1, 1) := am_row (r := (10, .iload_n 1, 1)) ro_WL_isSingleStep 6 rfl
theorem d_WL_isSingleStep_11 : decode prog_11_method_6_code 11 = .ok (.iconst (-1), 1) := am_row (r := (11, .iconst (-1), 1)) ro_WL_isSingleStep 7 rfl
theorem d_WL_isSingleStep_12 : decode prog_11_method_6_code 12 = .ok (.aload_n 0, 1) := am_row (r := (12, .aload_n 0, 1)) ro_WL_isSingleStep 8 rfl
theorem d_WL_isSingleStep_13 : decode prog_11_method_6_code 13 = .ok (.getfield 15, 3) := am_row (r := (13, .getfield 15, 3)) ro_WL_isSingleStep 9 rfl
theorem d_WL_isSingleStep_16 : decode prog_11_method_6_code 16 = .ok (.invokestatic 26, 3) := am_row (r := (16, .invokestatic 26, 3)) ro_WL_isSingleStep 10 rfl
theorem d_WL_isSingleStep_19 : decode prog_11_method_6_code 19 = .ok (.iaload, 1) := am_row (r := (19, .iaload, 1)) ro_WL_isSingleStep 11 rfl
theorem d_WL_isSingleStep_20 : decode prog_11_method_6_code 20 = .ok (.ixor, 1) := am_row (r := (20, .ixor, 1)) ro_WL_isSingleStep 12 rfl
theorem d_WL_isSingleStep_21 : decode prog_11_method_6_code 21 = .ok (.invokestatic 30, 3) := am_row (r := (21, .invokestatic 30, 3)) ro_WL_isSingleStep 13 rfl
theorem d_WL_isSingleStep_24 : decode prog_11_method_6_code 24 = .ok (.iconst 1, 1) := am_row (r := (24, .iconst 1, 1)) ro_WL_isSingleStep 14 rfl
theorem d_WL_isSingleStep_25 : decode prog_11_method_6_code 25 = .ok (.if_icmp .ne 7, 3) := am_row (r := (25, .if_icmp .ne 7, 3)) ro_WL_isSingleStep 15 rfl
theorem d_WL_isSingleStep_28 : decode prog_11_method_6_code 28 = .ok (.iconst 1, 1) := am_row (r := (28, .iconst 1, 1)) ro_WL_isSingleStep 16 rfl
theorem d_WL_isSingleStep_29 : decode prog_11_method_6_code 29 = .ok (.goto 4, 3) := am_row (r := (29, .goto 4, 3)) ro_WL_isSingleStep 17 rfl
theorem d_WL_isSingleStep_32 : decode prog_11_method_6_code 32 = .ok (.iconst 0, 1) := am_row (r := (32, .iconst 0, 1)) ro_WL_isSingleStep 18 rfl
theorem d_WL_isSingleStep_33 : decode prog_11_method_6_code 33 = .ok (.ireturn, 1) := am_row (r := (33, .ireturn, 1)) ro_WL_isSingleStep 19 rfl
abbrev y_WL_firstWrong : MethodName := ⟨"WheelDisc$WordList", "firstWrong", "(Z)I"⟩
theorem c_WL_firstWrong : Cond.code y_WL_firstWrong prog_11_method_4_code 3 (some .int) ∈ am_T := am_mem 912 (by decide +kernel) rfl
def rw_WL_firstWrong : List (Nat × Instr × Nat) := [(0, .iconst 0, 1), (1, .istore_n 2, 1), (2, .iload_n 2, 1), (3, .aload_n 0, 1), (4, .getfield 15, 3), (7, .if_icmp .ge 31, 3), (10, .aload_n 0, 1), (11, .iload_n 2, 1), (12, .invokevirtual 19, 3), (15, .ifCond .ne 15, 3), (18, .iload_n 1, 1), (19, .ifCond .eq 13, 3), (22, .aload_n 0, 1), (23, .iload_n 2, 1), (24, .invokevirtual 23, 3), (27, .ifCond .ne 5, 3), (30, .iload_n 2, 1), (31, .ireturn, 1), (32, .iinc 2 1, 3), (35, .goto (-33), 3), (38, .iconst (-1), 1), (39, .ireturn, 1)]
theorem ro_WL_firstWrong : rw_WL_firstWrong.all (fun r => decide (decode prog_11_method_4_code r.1 = .ok r.2)) = true := by decide +kernel
theorem d_WL_firstWrong_0 : decode prog_11_method_4_code 0 = .ok (.iconst 0, 1) := am_row (r := (0, .iconst 0, 1)) ro_WL_firstWrong 0 rfl
theorem d_WL_firstWrong_1 : decode prog_11_method_4_code 1 = .ok (.istore_n 2, 1) := am_row (r := (1, .istore_n 2, 1)) ro_WL_firstWrong 1 rfl
theorem d_WL_firstWrong_2 : decode prog_11_method_4_code 2 = .ok (.iload_n 2, 1) := am_row (r := (2, .iload_n 2, 1)) ro_WL_firstWrong 2 rfl
theorem d_WL_firstWrong_3 : decode prog_11_method_4_code 3 = .ok (.aload_n 0, 1) := am_row (r := (3, .aload_n 0, 1)) ro_WL_firstWrong 3 rfl
theorem d_WL_firstWrong_4 : decode prog_11_method_4_code 4 = .ok (.getfield 15, 3) := am_row (r := (4, .getfield 15, 3)) ro_WL_firstWrong 4 rfl
theorem d_WL_firstWrong_7 : decode prog_11_method_4_code 7 = .ok (.if_icmp .ge 31, 3) := am_row (r := (7, .if_icmp .ge 31, 3)) ro_WL_firstWrong 5 rfl
theorem d_WL_firstWrong_10 : decode prog_11_method_4_code 10 = .ok (.aload_n 0, 1) := am_row (r := (10, .aload_n 0, 1)) ro_WL_firstWrong 6 rfl
theorem d_WL_firstWrong_11 : decode prog_11_method_4_code 11 = .ok (.iload_n 2, 1) := am_row (r := (11, .iload_n 2, 1)) ro_WL_firstWrong 7 rfl
theorem d_WL_firstWrong_12 : decode prog_11_method_4_code 12 = .ok (.invokevirtual 19, 3) := am_row (r := (12, .invokevirtual 19, 3)) ro_WL_firstWrong 8 rfl
theorem d_WL_firstWrong_15 : decode prog_11_method_4_code 15 = .ok (.ifCond .ne 15, 3) := am_row (r := (15, .ifCond .ne 15, 3)) ro_WL_firstWrong 9 rfl
theorem d_WL_firstWrong_18 : decode prog_11_method_4_code 18 = .ok (.iload_n 1, 1) := am_row (r := (18, .iload_n 1, 1)) ro_WL_firstWrong 10 rfl
theorem d_WL_firstWrong_19 : decode prog_11_method_4_code 19 = .ok (.ifCond .eq 13, 3) := am_row (r := (19, .ifCond .eq 13, 3)) ro_WL_firstWrong 11 rfl
theorem d_WL_firstWrong_22 : decode prog_11_method_4_code 22 = .ok (.aload_n 0, 1) := am_row (r := (22, .aload_n 0, 1)) ro_WL_firstWrong 12 rfl
theorem d_WL_firstWrong_23 : decode prog_11_method_4_code 23 = .ok (.iload_n 2, 1) := am_row (r := (23, .iload_n 2, 1)) ro_WL_firstWrong 13 rfl
theorem d_WL_firstWrong_24 : decode prog_11_method_4_code 24 = .ok (.invokevirtual 23, 3) := am_row (r := (24, .invokevirtual 23, 3)) ro_WL_firstWrong 14 rfl
theorem d_WL_firstWrong_27 : decode prog_11_method_4_code 27 = .ok (.ifCond .ne 5, 3) := am_row (r := (27, .ifCond .ne 5, 3)) ro_WL_firstWrong 15 rfl
theorem d_WL_firstWrong_30 : decode prog_11_method_4_code 30 = .ok (.iload_n 2, 1) := am_row (r := (30, .iload_n 2, 1)) ro_WL_firstWrong 16 rfl
theorem d_WL_firstWrong_31 : decode prog_11_method_4_code 31 = .ok (.ireturn, 1) := am_row (r := (31, .ireturn, 1)) ro_WL_firstWrong 17 rfl
theorem d_WL_firstWrong_32 : decode prog_11_method_4_code 32 = .ok (.iinc 2 1, 3) := am_row (r := (32, .iinc 2 1, 3)) ro_WL_firstWrong 18 rfl
theorem d_WL_firstWrong_35 : decode prog_11_method_4_code 35 = .ok (.goto (-33), 3) := am_row (r := (35, .goto (-33), 3)) ro_WL_firstWrong 19 rfl
theorem d_WL_firstWrong_38 : decode prog_11_method_4_code 38 = .ok (.iconst (-1), 1) := am_row (r := (38, .iconst (-1), 1)) ro_WL_firstWrong 20 rfl
theorem d_WL_firstWrong_39 : decode prog_11_method_4_code 39 = .ok (.ireturn, 1) := am_row (r := (39, .ireturn, 1)) ro_WL_firstWrong 21 rfl
abbrev y_WD_check : MethodName := ⟨"WheelDisc", "check", "(I)I"⟩
theorem c_WD_check : Cond.code y_WD_check prog_1_method_38_code 2 (some .int) ∈ am_T := am_mem 908 (by decide +kernel) rfl
def rw_WD_check : List (Nat × Instr × Nat) := [(0, .iload_n 1, 1), (1, .iconst 1, 1), (2, .if_icmp .eq 14, 3), (5, .iload_n 1, 1), (6, .iconst 2, 1), (7, .if_icmp .eq 9, 3), (10, .aload_n 0, 1), (11, .iconst 1, 1), (12, .invokevirtual 95, 3), (15, .ireturn, 1), (16, .aload_n 0, 1), (17, .getfield 64, 3), (20, .getfield 196, 3), (23, .ifCond .ne 9, 3), (26, .aload_n 0, 1), (27, .iconst 2, 1), (28, .invokevirtual 95, 3), (31, .ireturn, 1), (32, .aload_n 0, 1), (33, .aload_n 0, 1), (34, .getfield 64, 3), (37, .iload_n 1, 1), (38, .iconst 2, 1), (39, .if_icmp .ne 7, 3), (42, .iconst 1, 1), (43, .goto 4, 3), (46, .iconst 0, 1), (47, .invokevirtual 304, 3), (50, .invokevirtual 91, 3), (53, .ireturn, 1)]
theorem ro_WD_check : rw_WD_check.all (fun r => decide (decode prog_1_method_38_code r.1 = .ok r.2)) = true := by decide +kernel
theorem d_WD_check_0 : decode prog_1_method_38_code 0 = .ok (.iload_n 1, 1) := am_row (r := (0, .iload_n 1, 1)) ro_WD_check 0 rfl
theorem d_WD_check_1 : decode prog_1_method_38_code 1 = .ok (.iconst 1, 1) := am_row (r := (1, .iconst 1, 1)) ro_WD_check 1 rfl
theorem d_WD_check_2 : decode prog_1_method_38_code 2 = .ok (.if_icmp .eq 14, 3) := am_row (r := (2, .if_icmp .eq 14, 3)) ro_WD_check 2 rfl
theorem d_WD_check_5 : decode prog_1_method_38_code 5 = .ok (.iload_n 1, 1) := am_row (r := (5, .iload_n 1, 1)) ro_WD_check 3 rfl
theorem d_WD_check_6 : decode prog_1_method_38_code 6 = .ok (.iconst 2, 1) := am_row (r := (6, .iconst 2, 1)) ro_WD_check 4 rfl
theorem d_WD_check_7 : decode prog_1_method_38_code 7 = .ok (.if_icmp .eq 9, 3) := am_row (r := (7, .if_icmp .eq 9, 3)) ro_WD_check 5 rfl
theorem d_WD_check_10 : decode prog_1_method_38_code 10 = .ok (.aload_n 0, 1) := am_row (r := (10, .aload_n 0, 1)) ro_WD_check 6 rfl
theorem d_WD_check_11 : decode prog_1_method_38_code 11 = .ok (.iconst 1, 1) := am_row (r := (11, .iconst 1, 1)) ro_WD_check 7 rfl
theorem d_WD_check_12 : decode prog_1_method_38_code 12 = .ok (.invokevirtual 95, 3) := am_row (r := (12, .invokevirtual 95, 3)) ro_WD_check 8 rfl
theorem d_WD_check_15 : decode prog_1_method_38_code 15 = .ok (.ireturn, 1) := am_row (r := (15, .ireturn, 1)) ro_WD_check 9 rfl
theorem d_WD_check_16 : decode prog_1_method_38_code 16 = .ok (.aload_n 0, 1) := am_row (r := (16, .aload_n 0, 1)) ro_WD_check 10 rfl
theorem d_WD_check_17 : decode prog_1_method_38_code 17 = .ok (.getfield 64, 3) := am_row (r := (17, .getfield 64, 3)) ro_WD_check 11 rfl
theorem d_WD_check_20 : decode prog_1_method_38_code 20 = .ok (.getfield 196, 3) := am_row (r := (20, .getfield 196, 3)) ro_WD_check 12 rfl
theorem d_WD_check_23 : decode prog_1_method_38_code 23 = .ok (.ifCond .ne 9, 3) := am_row (r := (23, .ifCond .ne 9, 3)) ro_WD_check 13 rfl
theorem d_WD_check_26 : decode prog_1_method_38_code 26 = .ok (.aload_n 0, 1) := am_row (r := (26, .aload_n 0, 1)) ro_WD_check 14 rfl
theorem d_WD_check_27 : decode prog_1_method_38_code 27 = .ok (.iconst 2, 1) := am_row (r := (27, .iconst 2, 1)) ro_WD_check 15 rfl
theorem d_WD_check_28 : decode prog_1_method_38_code 28 = .ok (.invokevirtual 95, 3) := am_row (r := (28, .invokevirtual 95, 3)) ro_WD_check 16 rfl
theorem d_WD_check_31 : decode prog_1_method_38_code 31 = .ok (.ireturn, 1) := am_row (r := (31, .ireturn, 1)) ro_WD_check 17 rfl
theorem d_WD_check_32 : decode prog_1_method_38_code 32 = .ok (.aload_n 0, 1) := am_row (r := (32, .aload_n 0, 1)) ro_WD_check 18 rfl
theorem d_WD_check_33 : decode prog_1_method_38_code 33 = .ok (.aload_n 0, 1) := am_row (r := (33, .aload_n 0, 1)) ro_WD_check 19 rfl
theorem d_WD_check_34 : decode prog_1_method_38_code 34 = .ok (.getfield 64, 3) := am_row (r := (34, .getfield 64, 3)) ro_WD_check 20 rfl
theorem d_WD_check_37 : decode prog_1_method_38_code 37 = .ok (.iload_n 1, 1) := am_row (r := (37, .iload_n 1, 1)) ro_WD_check 21 rfl
theorem d_WD_check_38 : decode prog_1_method_38_code 38 = .ok (.iconst 2, 1) := am_row (r := (38, .iconst 2, 1)) ro_WD_check 22 rfl
theorem d_WD_check_39 : decode prog_1_method_38_code 39 = .ok (.if_icmp .ne 7, 3) := am_row (r := (39, .if_icmp .ne 7, 3)) ro_WD_check 23 rfl
theorem d_WD_check_42 : decode prog_1_method_38_code 42 = .ok (.iconst 1, 1) := am_row (r := (42, .iconst 1, 1)) ro_WD_check 24 rfl
theorem d_WD_check_43 : decode prog_1_method_38_code 43 = .ok (.goto 4, 3) := am_row (r := (43, .goto 4, 3)) ro_WD_check 25 rfl
theorem d_WD_check_46 : decode prog_1_method_38_code 46 = .ok (.iconst 0, 1) := am_row (r := (46, .iconst 0, 1)) ro_WD_check 26 rfl
theorem d_WD_check_47 : decode prog_1_method_38_code 47 = .ok (.invokevirtual 304, 3) := am_row (r := (47, .invokevirtual 304, 3)) ro_WD_check 27 rfl
theorem d_WD_check_50 : decode prog_1_method_38_code 50 = .ok (.invokevirtual 91, 3) := am_row (r := (50, .invokevirtual 91, 3)) ro_WD_check 28 rfl
theorem d_WD_check_53 : decode prog_1_method_38_code 53 = .ok (.ireturn, 1) := am_row (r := (53, .ireturn, 1)) ro_WD_check 29 rfl
abbrev y_WD_clear : MethodName := ⟨"WheelDisc", "clear", "()I"⟩
theorem c_WD_clear : Cond.code y_WD_clear prog_1_method_39_code 2 (some .int) ∈ am_T := am_mem 926 (by decide +kernel) rfl
def rw_WD_clear : List (Nat × Instr × Nat) := [(0, .aload_n 0, 1), (1, .getfield 64, 3), (4, .getfield 196, 3), (7, .istore_n 1, 1), (8, .aload_n 0, 1), (9, .getfield 64, 3), (12, .iconst 0, 1), (13, .putfield 196, 3), (16, .aload_n 0, 1), (17, .iload_n 1, 1), (18, .invokevirtual 91, 3), (21, .ireturn, 1)]
theorem ro_WD_clear : rw_WD_clear.all (fun r => decide (decode prog_1_method_39_code r.1 = .ok r.2)) = true := by decide +kernel
theorem d_WD_clear_0 : decode prog_1_method_39_code 0 = .ok (.aload_n 0, 1) := am_row (r := (0, .aload_n 0, 1)) ro_WD_clear 0 rfl
theorem d_WD_clear_1 : decode prog_1_method_39_code 1 = .ok (.getfield 64, 3) := am_row (r := (1, .getfield 64, 3)) ro_WD_clear 1 rfl
theorem d_WD_clear_4 : decode prog_1_method_39_code 4 = .ok (.getfield 196, 3) := am_row (r := (4, .getfield 196, 3)) ro_WD_clear 2 rfl
theorem d_WD_clear_7 : decode prog_1_method_39_code 7 = .ok (.istore_n 1, 1) := am_row (r := (7, .istore_n 1, 1)) ro_WD_clear 3 rfl
theorem d_WD_clear_8 : decode prog_1_method_39_code 8 = .ok (.aload_n 0, 1) := am_row (r := (8, .aload_n 0, 1)) ro_WD_clear 4 rfl
theorem d_WD_clear_9 : decode prog_1_method_39_code 9 = .ok (.getfield 64, 3) := am_row (r := (9, .getfield 64, 3)) ro_WD_clear 5 rfl
theorem d_WD_clear_12 : decode prog_1_method_39_code 12 = .ok (.iconst 0, 1) := am_row (r := (12, .iconst 0, 1)) ro_WD_clear 6 rfl
theorem d_WD_clear_13 : decode prog_1_method_39_code 13 = .ok (.putfield 196, 3) := am_row (r := (13, .putfield 196, 3)) ro_WD_clear 7 rfl
theorem d_WD_clear_16 : decode prog_1_method_39_code 16 = .ok (.aload_n 0, 1) := am_row (r := (16, .aload_n 0, 1)) ro_WD_clear 8 rfl
theorem d_WD_clear_17 : decode prog_1_method_39_code 17 = .ok (.iload_n 1, 1) := am_row (r := (17, .iload_n 1, 1)) ro_WD_clear 9 rfl
theorem d_WD_clear_18 : decode prog_1_method_39_code 18 = .ok (.invokevirtual 91, 3) := am_row (r := (18, .invokevirtual 91, 3)) ro_WD_clear 10 rfl
theorem d_WD_clear_21 : decode prog_1_method_39_code 21 = .ok (.ireturn, 1) := am_row (r := (21, .ireturn, 1)) ro_WD_clear 11 rfl
abbrev y_WD_fault : MethodName := ⟨"WheelDisc", "fault", "()I"⟩
theorem c_WD_fault : Cond.code y_WD_fault prog_1_method_40_code 1 (some .int) ∈ am_T := am_mem 930 (by decide +kernel) rfl
def rw_WD_fault : List (Nat × Instr × Nat) := [(0, .aload_n 0, 1), (1, .getfield 83, 3), (4, .ireturn, 1)]
theorem ro_WD_fault : rw_WD_fault.all (fun r => decide (decode prog_1_method_40_code r.1 = .ok r.2)) = true := by decide +kernel
theorem d_WD_fault_0 : decode prog_1_method_40_code 0 = .ok (.aload_n 0, 1) := am_row (r := (0, .aload_n 0, 1)) ro_WD_fault 0 rfl
theorem d_WD_fault_1 : decode prog_1_method_40_code 1 = .ok (.getfield 83, 3) := am_row (r := (1, .getfield 83, 3)) ro_WD_fault 1 rfl
theorem d_WD_fault_4 : decode prog_1_method_40_code 4 = .ok (.ireturn, 1) := am_row (r := (4, .ireturn, 1)) ro_WD_fault 2 rfl
abbrev y_Mod_no : MethodName := ⟨"WheelDiscModel", "no", "(I)I"⟩
theorem c_Mod_no : Cond.code y_Mod_no prog_13_method_2_code 2 (some .int) ∈ am_T := am_mem 1039 (by decide +kernel) rfl
def rw_Mod_no : List (Nat × Instr × Nat) := [(0, .aload_n 0, 1), (1, .iload_n 1, 1), (2, .putfield 62, 3), (5, .iconst (-1), 1), (6, .ireturn, 1)]
theorem ro_Mod_no : rw_Mod_no.all (fun r => decide (decode prog_13_method_2_code r.1 = .ok r.2)) = true := by decide +kernel
theorem d_Mod_no_0 : decode prog_13_method_2_code 0 = .ok (.aload_n 0, 1) := am_row (r := (0, .aload_n 0, 1)) ro_Mod_no 0 rfl
theorem d_Mod_no_1 : decode prog_13_method_2_code 1 = .ok (.iload_n 1, 1) := am_row (r := (1, .iload_n 1, 1)) ro_Mod_no 1 rfl
theorem d_Mod_no_2 : decode prog_13_method_2_code 2 = .ok (.putfield 62, 3) := am_row (r := (2, .putfield 62, 3)) ro_Mod_no 2 rfl
theorem d_Mod_no_5 : decode prog_13_method_2_code 5 = .ok (.iconst (-1), 1) := am_row (r := (5, .iconst (-1), 1)) ro_Mod_no 3 rfl
theorem d_Mod_no_6 : decode prog_13_method_2_code 6 = .ok (.ireturn, 1) := am_row (r := (6, .ireturn, 1)) ro_Mod_no 4 rfl
abbrev y_Mod_rim : MethodName := ⟨"WheelDiscModel", "rim", "(II)I"⟩
theorem c_Mod_rim : Cond.code y_Mod_rim prog_13_method_8_code 4 (some .int) ∈ am_T := am_mem 1035 (by decide +kernel) rfl
def rw_Mod_rim : List (Nat × Instr × Nat) := [(0, .aload_n 0, 1), (1, .iconst 0, 1), (2, .putfield 62, 3), (5, .iload_n 1, 1), (6, .ifCond .lt 19, 3), (9, .iload_n 1, 1), (10, .iconst 3, 1), (11, .if_icmp .gt 14, 3), (14, .iload_n 1, 1), (15, .iconst 3, 1), (16, .if_icmp .ge 15, 3), (19, .iload_n 2, 1), (20, .bipush 64, 2), (22, .if_icmp .le 9, 3), (25, .aload_n 0, 1), (26, .iconst 1, 1), (27, .invokevirtual 75, 3), (30, .ireturn, 1), (31, .iload_n 1, 1), (32, .iconst 3, 1), (33, .if_icmp .ge 13, 3), (36, .iload_n 2, 1), (37, .ifCond .ge 9, 3), (40, .aload_n 0, 1), (41, .iconst 3, 1), (42, .invokevirtual 75, 3), (45, .ireturn, 1), (46, .aload_n 0, 1), (47, .iload_n 1, 1), (48, .putfield 24, 3), (51, .aload_n 0, 1), (52, .iload_n 1, 1), (53, .iconst 3, 1), (54, .if_icmp .ne 7, 3), (57, .iconst 0, 1), (58, .goto 4, 3), (61, .iload_n 2, 1), (62, .putfield 79, 3), (65, .iconst 0, 1), (66, .istore_n 3, 1), (67, .iload_n 3, 1), (68, .bipush 64, 2), (70, .if_icmp .ge 16, 3), (73, .aload_n 0, 1), (74, .getfield 28, 3), (77, .iload_n 3, 1), (78, .lconst 0, 1), (79, .lastore, 1), (80, .iinc 3 1, 3), (83, .goto (-16), 3), (86, .aload_n 0, 1), (87, .getfield 79, 3), (90, .ireturn, 1)]
theorem ro_Mod_rim : rw_Mod_rim.all (fun r => decide (decode prog_13_method_8_code r.1 = .ok r.2)) = true := by decide +kernel
theorem d_Mod_rim_0 : decode prog_13_method_8_code 0 = .ok (.aload_n 0, 1) := am_row (r := (0, .aload_n 0, 1)) ro_Mod_rim 0 rfl
theorem d_Mod_rim_1 : decode prog_13_method_8_code 1 = .ok (.iconst 0, 1) := am_row (r := (1, .iconst 0, 1)) ro_Mod_rim 1 rfl
theorem d_Mod_rim_2 : decode prog_13_method_8_code 2 = .ok (.putfield 62, 3) := am_row (r := (2, .putfield 62, 3)) ro_Mod_rim 2 rfl
theorem d_Mod_rim_5 : decode prog_13_method_8_code 5 = .ok (.iload_n 1, 1) := am_row (r := (5, .iload_n 1, 1)) ro_Mod_rim 3 rfl
theorem d_Mod_rim_6 : decode prog_13_method_8_code 6 = .ok (.ifCond .lt 19, 3) := am_row (r := (6, .ifCond .lt 19, 3)) ro_Mod_rim 4 rfl
theorem d_Mod_rim_9 : decode prog_13_method_8_code 9 = .ok (.iload_n 1, 1) := am_row (r := (9, .iload_n 1, 1)) ro_Mod_rim 5 rfl
theorem d_Mod_rim_10 : decode prog_13_method_8_code 10 = .ok (.iconst 3, 1) := am_row (r := (10, .iconst 3, 1)) ro_Mod_rim 6 rfl
theorem d_Mod_rim_11 : decode prog_13_method_8_code 11 = .ok (.if_icmp .gt 14, 3) := am_row (r := (11, .if_icmp .gt 14, 3)) ro_Mod_rim 7 rfl
theorem d_Mod_rim_14 : decode prog_13_method_8_code 14 = .ok (.iload_n 1, 1) := am_row (r := (14, .iload_n 1, 1)) ro_Mod_rim 8 rfl
theorem d_Mod_rim_15 : decode prog_13_method_8_code 15 = .ok (.iconst 3, 1) := am_row (r := (15, .iconst 3, 1)) ro_Mod_rim 9 rfl
theorem d_Mod_rim_16 : decode prog_13_method_8_code 16 = .ok (.if_icmp .ge 15, 3) := am_row (r := (16, .if_icmp .ge 15, 3)) ro_Mod_rim 10 rfl
theorem d_Mod_rim_19 : decode prog_13_method_8_code 19 = .ok (.iload_n 2, 1) := am_row (r := (19, .iload_n 2, 1)) ro_Mod_rim 11 rfl
theorem d_Mod_rim_20 : decode prog_13_method_8_code 20 = .ok (.bipush 64, 2) := am_row (r := (20, .bipush 64, 2)) ro_Mod_rim 12 rfl
theorem d_Mod_rim_22 : decode prog_13_method_8_code 22 = .ok (.if_icmp .le 9, 3) := am_row (r := (22, .if_icmp .le 9, 3)) ro_Mod_rim 13 rfl
theorem d_Mod_rim_25 : decode prog_13_method_8_code 25 = .ok (.aload_n 0, 1) := am_row (r := (25, .aload_n 0, 1)) ro_Mod_rim 14 rfl
theorem d_Mod_rim_26 : decode prog_13_method_8_code 26 = .ok (.iconst 1, 1) := am_row (r := (26, .iconst 1, 1)) ro_Mod_rim 15 rfl
theorem d_Mod_rim_27 : decode prog_13_method_8_code 27 = .ok (.invokevirtual 75, 3) := am_row (r := (27, .invokevirtual 75, 3)) ro_Mod_rim 16 rfl
theorem d_Mod_rim_30 : decode prog_13_method_8_code 30 = .ok (.ireturn, 1) := am_row (r := (30, .ireturn, 1)) ro_Mod_rim 17 rfl
theorem d_Mod_rim_31 : decode prog_13_method_8_code 31 = .ok (.iload_n 1, 1) := am_row (r := (31, .iload_n 1, 1)) ro_Mod_rim 18 rfl
theorem d_Mod_rim_32 : decode prog_13_method_8_code 32 = .ok (.iconst 3, 1) := am_row (r := (32, .iconst 3, 1)) ro_Mod_rim 19 rfl
theorem d_Mod_rim_33 : decode prog_13_method_8_code 33 = .ok (.if_icmp .ge 13, 3) := am_row (r := (33, .if_icmp .ge 13, 3)) ro_Mod_rim 20 rfl
theorem d_Mod_rim_36 : decode prog_13_method_8_code 36 = .ok (.iload_n 2, 1) := am_row (r := (36, .iload_n 2, 1)) ro_Mod_rim 21 rfl
theorem d_Mod_rim_37 : decode prog_13_method_8_code 37 = .ok (.ifCond .ge 9, 3) := am_row (r := (37, .ifCond .ge 9, 3)) ro_Mod_rim 22 rfl
theorem d_Mod_rim_40 : decode prog_13_method_8_code 40 = .ok (.aload_n 0, 1) := am_row (r := (40, .aload_n 0, 1)) ro_Mod_rim 23 rfl
theorem d_Mod_rim_41 : decode prog_13_method_8_code 41 = .ok (.iconst 3, 1) := am_row (r := (41, .iconst 3, 1)) ro_Mod_rim 24 rfl
theorem d_Mod_rim_42 : decode prog_13_method_8_code 42 = .ok (.invokevirtual 75, 3) := am_row (r := (42, .invokevirtual 75, 3)) ro_Mod_rim 25 rfl
theorem d_Mod_rim_45 : decode prog_13_method_8_code 45 = .ok (.ireturn, 1) := am_row (r := (45, .ireturn, 1)) ro_Mod_rim 26 rfl
theorem d_Mod_rim_46 : decode prog_13_method_8_code 46 = .ok (.aload_n 0, 1) := am_row (r := (46, .aload_n 0, 1)) ro_Mod_rim 27 rfl
theorem d_Mod_rim_47 : decode prog_13_method_8_code 47 = .ok (.iload_n 1, 1) := am_row (r := (47, .iload_n 1, 1)) ro_Mod_rim 28 rfl
theorem d_Mod_rim_48 : decode prog_13_method_8_code 48 = .ok (.putfield 24, 3) := am_row (r := (48, .putfield 24, 3)) ro_Mod_rim 29 rfl
theorem d_Mod_rim_51 : decode prog_13_method_8_code 51 = .ok (.aload_n 0, 1) := am_row (r := (51, .aload_n 0, 1)) ro_Mod_rim 30 rfl
theorem d_Mod_rim_52 : decode prog_13_method_8_code 52 = .ok (.iload_n 1, 1) := am_row (r := (52, .iload_n 1, 1)) ro_Mod_rim 31 rfl
theorem d_Mod_rim_53 : decode prog_13_method_8_code 53 = .ok (.iconst 3, 1) := am_row (r := (53, .iconst 3, 1)) ro_Mod_rim 32 rfl
theorem d_Mod_rim_54 : decode prog_13_method_8_code 54 = .ok (.if_icmp .ne 7, 3) := am_row (r := (54, .if_icmp .ne 7, 3)) ro_Mod_rim 33 rfl
theorem d_Mod_rim_57 : decode prog_13_method_8_code 57 = .ok (.iconst 0, 1) := am_row (r := (57, .iconst 0, 1)) ro_Mod_rim 34 rfl
theorem d_Mod_rim_58 : decode prog_13_method_8_code 58 = .ok (.goto 4, 3) := am_row (r := (58, .goto 4, 3)) ro_Mod_rim 35 rfl
theorem d_Mod_rim_61 : decode prog_13_method_8_code 61 = .ok (.iload_n 2, 1) := am_row (r := (61, .iload_n 2, 1)) ro_Mod_rim 36 rfl
theorem d_Mod_rim_62 : decode prog_13_method_8_code 62 = .ok (.putfield 79, 3) := am_row (r := (62, .putfield 79, 3)) ro_Mod_rim 37 rfl
theorem d_Mod_rim_65 : decode prog_13_method_8_code 65 = .ok (.iconst 0, 1) := am_row (r := (65, .iconst 0, 1)) ro_Mod_rim 38 rfl
theorem d_Mod_rim_66 : decode prog_13_method_8_code 66 = .ok (.istore_n 3, 1) := am_row (r := (66, .istore_n 3, 1)) ro_Mod_rim 39 rfl
theorem d_Mod_rim_67 : decode prog_13_method_8_code 67 = .ok (.iload_n 3, 1) := am_row (r := (67, .iload_n 3, 1)) ro_Mod_rim 40 rfl
theorem d_Mod_rim_68 : decode prog_13_method_8_code 68 = .ok (.bipush 64, 2) := am_row (r := (68, .bipush 64, 2)) ro_Mod_rim 41 rfl
theorem d_Mod_rim_70 : decode prog_13_method_8_code 70 = .ok (.if_icmp .ge 16, 3) := am_row (r := (70, .if_icmp .ge 16, 3)) ro_Mod_rim 42 rfl
theorem d_Mod_rim_73 : decode prog_13_method_8_code 73 = .ok (.aload_n 0, 1) := am_row (r := (73, .aload_n 0, 1)) ro_Mod_rim 43 rfl
theorem d_Mod_rim_74 : decode prog_13_method_8_code 74 = .ok (.getfield 28, 3) := am_row (r := (74, .getfield 28, 3)) ro_Mod_rim 44 rfl
theorem d_Mod_rim_77 : decode prog_13_method_8_code 77 = .ok (.iload_n 3, 1) := am_row (r := (77, .iload_n 3, 1)) ro_Mod_rim 45 rfl
theorem d_Mod_rim_78 : decode prog_13_method_8_code 78 = .ok (.lconst 0, 1) := am_row (r := (78, .lconst 0, 1)) ro_Mod_rim 46 rfl
theorem d_Mod_rim_79 : decode prog_13_method_8_code 79 = .ok (.lastore, 1) := am_row (r := (79, .lastore, 1)) ro_Mod_rim 47 rfl
theorem d_Mod_rim_80 : decode prog_13_method_8_code 80 = .ok (.iinc 3 1, 3) := am_row (r := (80, .iinc 3 1, 3)) ro_Mod_rim 48 rfl
theorem d_Mod_rim_83 : decode prog_13_method_8_code 83 = .ok (.goto (-16), 3) := am_row (r := (83, .goto (-16), 3)) ro_Mod_rim 49 rfl
theorem d_Mod_rim_86 : decode prog_13_method_8_code 86 = .ok (.aload_n 0, 1) := am_row (r := (86, .aload_n 0, 1)) ro_Mod_rim 50 rfl
theorem d_Mod_rim_87 : decode prog_13_method_8_code 87 = .ok (.getfield 79, 3) := am_row (r := (87, .getfield 79, 3)) ro_Mod_rim 51 rfl
theorem d_Mod_rim_90 : decode prog_13_method_8_code 90 = .ok (.ireturn, 1) := am_row (r := (90, .ireturn, 1)) ro_Mod_rim 52 rfl
abbrev y_Mod_entry : MethodName := ⟨"WheelDiscModel", "entry", "(IJ)Z"⟩
theorem c_Mod_entry : Cond.code y_Mod_entry prog_13_method_10_code 4 (some .boolean) ∈ am_T := am_mem 1043 (by decide +kernel) rfl
def rw_Mod_entry : List (Nat × Instr × Nat) := [(0, .aload_n 0, 1), (1, .iconst 0, 1), (2, .putfield 62, 3), (5, .aload_n 0, 1), (6, .getfield 24, 3), (9, .iconst (-1), 1), (10, .if_icmp .eq 11, 3), (13, .aload_n 0, 1), (14, .getfield 24, 3), (17, .iconst 3, 1), (18, .if_icmp .ne 11, 3), (21, .aload_n 0, 1), (22, .iconst 2, 1), (23, .invokevirtual 75, 3), (26, .pop, 1), (27, .iconst 0, 1), (28, .ireturn, 1), (29, .iload_n 1, 1), (30, .ifCond .lt 11, 3), (33, .iload_n 1, 1), (34, .aload_n 0, 1), (35, .getfield 79, 3), (38, .if_icmp .lt 11, 3), (41, .aload_n 0, 1), (42, .iconst 1, 1), (43, .invokevirtual 75, 3), (46, .pop, 1), (47, .iconst 0, 1), (48, .ireturn, 1), (49, .aload_n 0, 1), (50, .getfield 28, 3), (53, .iload_n 1, 1), (54, .lload_n 2, 1), (55, .lastore, 1), (56, .iconst 1, 1), (57, .ireturn, 1)]
theorem ro_Mod_entry : rw_Mod_entry.all (fun r => decide (decode prog_13_method_10_code r.1 = .ok r.2)) = true := by decide +kernel
theorem d_Mod_entry_0 : decode prog_13_method_10_code 0 = .ok (.aload_n 0, 1) := am_row (r := (0, .aload_n 0, 1)) ro_Mod_entry 0 rfl
theorem d_Mod_entry_1 : decode prog_13_method_10_code 1 = .ok (.iconst 0, 1) := am_row (r := (1, .iconst 0, 1)) ro_Mod_entry 1 rfl
theorem d_Mod_entry_2 : decode prog_13_method_10_code 2 = .ok (.putfield 62, 3) := am_row (r := (2, .putfield 62, 3)) ro_Mod_entry 2 rfl
theorem d_Mod_entry_5 : decode prog_13_method_10_code 5 = .ok (.aload_n 0, 1) := am_row (r := (5, .aload_n 0, 1)) ro_Mod_entry 3 rfl
theorem d_Mod_entry_6 : decode prog_13_method_10_code 6 = .ok (.getfield 24, 3) := am_row (r := (6, .getfield 24, 3)) ro_Mod_entry 4 rfl
theorem d_Mod_entry_9 : decode prog_13_method_10_code 9 = .ok (.iconst (-1), 1) := am_row (r := (9, .iconst (-1), 1)) ro_Mod_entry 5 rfl
theorem d_Mod_entry_10 : decode prog_13_method_10_code 10 = .ok (.if_icmp .eq 11, 3) := am_row (r := (10, .if_icmp .eq 11, 3)) ro_Mod_entry 6 rfl
theorem d_Mod_entry_13 : decode prog_13_method_10_code 13 = .ok (.aload_n 0, 1) := am_row (r := (13, .aload_n 0, 1)) ro_Mod_entry 7 rfl
theorem d_Mod_entry_14 : decode prog_13_method_10_code 14 = .ok (.getfield 24, 3) := am_row (r := (14, .getfield 24, 3)) ro_Mod_entry 8 rfl
theorem d_Mod_entry_17 : decode prog_13_method_10_code 17 = .ok (.iconst 3, 1) := am_row (r := (17, .iconst 3, 1)) ro_Mod_entry 9 rfl
theorem d_Mod_entry_18 : decode prog_13_method_10_code 18 = .ok (.if_icmp .ne 11, 3) := am_row (r := (18, .if_icmp .ne 11, 3)) ro_Mod_entry 10 rfl
theorem d_Mod_entry_21 : decode prog_13_method_10_code 21 = .ok (.aload_n 0, 1) := am_row (r := (21, .aload_n 0, 1)) ro_Mod_entry 11 rfl
theorem d_Mod_entry_22 : decode prog_13_method_10_code 22 = .ok (.iconst 2, 1) := am_row (r := (22, .iconst 2, 1)) ro_Mod_entry 12 rfl
theorem d_Mod_entry_23 : decode prog_13_method_10_code 23 = .ok (.invokevirtual 75, 3) := am_row (r := (23, .invokevirtual 75, 3)) ro_Mod_entry 13 rfl
theorem d_Mod_entry_26 : decode prog_13_method_10_code 26 = .ok (.pop, 1) := am_row (r := (26, .pop, 1)) ro_Mod_entry 14 rfl
theorem d_Mod_entry_27 : decode prog_13_method_10_code 27 = .ok (.iconst 0, 1) := am_row (r := (27, .iconst 0, 1)) ro_Mod_entry 15 rfl
theorem d_Mod_entry_28 : decode prog_13_method_10_code 28 = .ok (.ireturn, 1) := am_row (r := (28, .ireturn, 1)) ro_Mod_entry 16 rfl
theorem d_Mod_entry_29 : decode prog_13_method_10_code 29 = .ok (.iload_n 1, 1) := am_row (r := (29, .iload_n 1, 1)) ro_Mod_entry 17 rfl
theorem d_Mod_entry_30 : decode prog_13_method_10_code 30 = .ok (.ifCond .lt 11, 3) := am_row (r := (30, .ifCond .lt 11, 3)) ro_Mod_entry 18 rfl
theorem d_Mod_entry_33 : decode prog_13_method_10_code 33 = .ok (.iload_n 1, 1) := am_row (r := (33, .iload_n 1, 1)) ro_Mod_entry 19 rfl
theorem d_Mod_entry_34 : decode prog_13_method_10_code 34 = .ok (.aload_n 0, 1) := am_row (r := (34, .aload_n 0, 1)) ro_Mod_entry 20 rfl
theorem d_Mod_entry_35 : decode prog_13_method_10_code 35 = .ok (.getfield 79, 3) := am_row (r := (35, .getfield 79, 3)) ro_Mod_entry 21 rfl
theorem d_Mod_entry_38 : decode prog_13_method_10_code 38 = .ok (.if_icmp .lt 11, 3) := am_row (r := (38, .if_icmp .lt 11, 3)) ro_Mod_entry 22 rfl
theorem d_Mod_entry_41 : decode prog_13_method_10_code 41 = .ok (.aload_n 0, 1) := am_row (r := (41, .aload_n 0, 1)) ro_Mod_entry 23 rfl
theorem d_Mod_entry_42 : decode prog_13_method_10_code 42 = .ok (.iconst 1, 1) := am_row (r := (42, .iconst 1, 1)) ro_Mod_entry 24 rfl
theorem d_Mod_entry_43 : decode prog_13_method_10_code 43 = .ok (.invokevirtual 75, 3) := am_row (r := (43, .invokevirtual 75, 3)) ro_Mod_entry 25 rfl
theorem d_Mod_entry_46 : decode prog_13_method_10_code 46 = .ok (.pop, 1) := am_row (r := (46, .pop, 1)) ro_Mod_entry 26 rfl
theorem d_Mod_entry_47 : decode prog_13_method_10_code 47 = .ok (.iconst 0, 1) := am_row (r := (47, .iconst 0, 1)) ro_Mod_entry 27 rfl
theorem d_Mod_entry_48 : decode prog_13_method_10_code 48 = .ok (.ireturn, 1) := am_row (r := (48, .ireturn, 1)) ro_Mod_entry 28 rfl
theorem d_Mod_entry_49 : decode prog_13_method_10_code 49 = .ok (.aload_n 0, 1) := am_row (r := (49, .aload_n 0, 1)) ro_Mod_entry 29 rfl
theorem d_Mod_entry_50 : decode prog_13_method_10_code 50 = .ok (.getfield 28, 3) := am_row (r := (50, .getfield 28, 3)) ro_Mod_entry 30 rfl
theorem d_Mod_entry_53 : decode prog_13_method_10_code 53 = .ok (.iload_n 1, 1) := am_row (r := (53, .iload_n 1, 1)) ro_Mod_entry 31 rfl
theorem d_Mod_entry_54 : decode prog_13_method_10_code 54 = .ok (.lload_n 2, 1) := am_row (r := (54, .lload_n 2, 1)) ro_Mod_entry 32 rfl
theorem d_Mod_entry_55 : decode prog_13_method_10_code 55 = .ok (.lastore, 1) := am_row (r := (55, .lastore, 1)) ro_Mod_entry 33 rfl
theorem d_Mod_entry_56 : decode prog_13_method_10_code 56 = .ok (.iconst 1, 1) := am_row (r := (56, .iconst 1, 1)) ro_Mod_entry 34 rfl
theorem d_Mod_entry_57 : decode prog_13_method_10_code 57 = .ok (.ireturn, 1) := am_row (r := (57, .ireturn, 1)) ro_Mod_entry 35 rfl
abbrev y_Mod_copy : MethodName := ⟨"WheelDiscModel", "copy", "(II)V"⟩
theorem c_Mod_copy : Cond.code y_Mod_copy prog_13_method_5_code 4 none ∈ am_T := am_mem 1055 (by decide +kernel) rfl
def rw_Mod_copy : List (Nat × Instr × Nat) := [(0, .iconst 0, 1), (1, .istore_n 3, 1), (2, .iload_n 3, 1), (3, .iconst 3, 1), (4, .if_icmp .ge 29, 3), (7, .aload_n 0, 1), (8, .getfield 9, 3), (11, .iconst 3, 1), (12, .iload_n 2, 1), (13, .imul, 1), (14, .iload_n 3, 1), (15, .iadd, 1), (16, .aload_n 0, 1), (17, .getfield 9, 3), (20, .iconst 3, 1), (21, .iload_n 1, 1), (22, .imul, 1), (23, .iload_n 3, 1), (24, .iadd, 1), (25, .iaload, 1), (26, .iastore, 1), (27, .iinc 3 1, 3), (30, .goto (-28), 3), (33, .iconst 0, 1), (34, .istore_n 3, 1), (35, .iload_n 3, 1), (36, .bipush 10, 2), (38, .if_icmp .ge 53, 3), (41, .aload_n 0, 1), (42, .getfield 13, 3), (45, .bipush 10, 2), (47, .iload_n 2, 1), (48, .imul, 1), (49, .iload_n 3, 1), (50, .iadd, 1), (51, .aload_n 0, 1), (52, .getfield 13, 3), (55, .bipush 10, 2), (57, .iload_n 1, 1), (58, .imul, 1), (59, .iload_n 3, 1), (60, .iadd, 1), (61, .iaload, 1), (62, .iastore, 1), (63, .aload_n 0, 1), (64, .getfield 16, 3), (67, .bipush 10, 2), (69, .iload_n 2, 1), (70, .imul, 1), (71, .iload_n 3, 1), (72, .iadd, 1), (73, .aload_n 0, 1), (74, .getfield 16, 3), (77, .bipush 10, 2), (79, .iload_n 1, 1), (80, .imul, 1), (81, .iload_n 3, 1), (82, .iadd, 1), (83, .iaload, 1), (84, .iastore, 1), (85, .iinc 3 1, 3), (88, .goto (-53), 3), (91, .iconst 0, 1), (92, .istore_n 3, 1), (93, .iload_n 3, 1), (94, .sipush 5120, 3), (97, .if_icmp .ge 33, 3), (100, .aload_n 0, 1), (101, .getfield 20, 3), (104, .sipush 5120, 3), (107, .iload_n 2, 1), (108, .imul, 1), (109, .iload_n 3, 1), (110, .iadd, 1), (111, .aload_n 0, 1), (112, .getfield 20, 3), (115, .sipush 5120, 3), (118, .iload_n 1, 1), (119, .imul, 1), (120, .iload_n 3, 1), (121, .iadd, 1), (122, .baload, 1), (123, .bastore, 1), (124, .iinc 3 1, 3), (127, .goto (-34), 3), (130, .return_, 1)]
theorem ro_Mod_copy : rw_Mod_copy.all (fun r => decide (decode prog_13_method_5_code r.1 = .ok r.2)) = true := by decide +kernel
theorem d_Mod_copy_0 : decode prog_13_method_5_code 0 = .ok (.iconst 0, 1) := am_row (r := (0, .iconst 0, 1)) ro_Mod_copy 0 rfl
theorem d_Mod_copy_1 : decode prog_13_method_5_code 1 = .ok (.istore_n 3, 1) := am_row (r := (1, .istore_n 3, 1)) ro_Mod_copy 1 rfl
theorem d_Mod_copy_2 : decode prog_13_method_5_code 2 = .ok (.iload_n 3, 1) := am_row (r := (2, .iload_n 3, 1)) ro_Mod_copy 2 rfl
theorem d_Mod_copy_3 : decode prog_13_method_5_code 3 = .ok (.iconst 3, 1) := am_row (r := (3, .iconst 3, 1)) ro_Mod_copy 3 rfl
theorem d_Mod_copy_4 : decode prog_13_method_5_code 4 = .ok (.if_icmp .ge 29, 3) := am_row (r := (4, .if_icmp .ge 29, 3)) ro_Mod_copy 4 rfl
theorem d_Mod_copy_7 : decode prog_13_method_5_code 7 = .ok (.aload_n 0, 1) := am_row (r := (7, .aload_n 0, 1)) ro_Mod_copy 5 rfl
theorem d_Mod_copy_8 : decode prog_13_method_5_code 8 = .ok (.getfield 9, 3) := am_row (r := (8, .getfield 9, 3)) ro_Mod_copy 6 rfl
theorem d_Mod_copy_11 : decode prog_13_method_5_code 11 = .ok (.iconst 3, 1) := am_row (r := (11, .iconst 3, 1)) ro_Mod_copy 7 rfl
theorem d_Mod_copy_12 : decode prog_13_method_5_code 12 = .ok (.iload_n 2, 1) := am_row (r := (12, .iload_n 2, 1)) ro_Mod_copy 8 rfl
theorem d_Mod_copy_13 : decode prog_13_method_5_code 13 = .ok (.imul, 1) := am_row (r := (13, .imul, 1)) ro_Mod_copy 9 rfl
theorem d_Mod_copy_14 : decode prog_13_method_5_code 14 = .ok (.iload_n 3, 1) := am_row (r := (14, .iload_n 3, 1)) ro_Mod_copy 10 rfl
theorem d_Mod_copy_15 : decode prog_13_method_5_code 15 = .ok (.iadd, 1) := am_row (r := (15, .iadd, 1)) ro_Mod_copy 11 rfl
theorem d_Mod_copy_16 : decode prog_13_method_5_code 16 = .ok (.aload_n 0, 1) := am_row (r := (16, .aload_n 0, 1)) ro_Mod_copy 12 rfl
theorem d_Mod_copy_17 : decode prog_13_method_5_code 17 = .ok (.getfield 9, 3) := am_row (r := (17, .getfield 9, 3)) ro_Mod_copy 13 rfl
theorem d_Mod_copy_20 : decode prog_13_method_5_code 20 = .ok (.iconst 3, 1) := am_row (r := (20, .iconst 3, 1)) ro_Mod_copy 14 rfl
theorem d_Mod_copy_21 : decode prog_13_method_5_code 21 = .ok (.iload_n 1, 1) := am_row (r := (21, .iload_n 1, 1)) ro_Mod_copy 15 rfl
theorem d_Mod_copy_22 : decode prog_13_method_5_code 22 = .ok (.imul, 1) := am_row (r := (22, .imul, 1)) ro_Mod_copy 16 rfl
theorem d_Mod_copy_23 : decode prog_13_method_5_code 23 = .ok (.iload_n 3, 1) := am_row (r := (23, .iload_n 3, 1)) ro_Mod_copy 17 rfl
theorem d_Mod_copy_24 : decode prog_13_method_5_code 24 = .ok (.iadd, 1) := am_row (r := (24, .iadd, 1)) ro_Mod_copy 18 rfl
theorem d_Mod_copy_25 : decode prog_13_method_5_code 25 = .ok (.iaload, 1) := am_row (r := (25, .iaload, 1)) ro_Mod_copy 19 rfl
theorem d_Mod_copy_26 : decode prog_13_method_5_code 26 = .ok (.iastore, 1) := am_row (r := (26, .iastore, 1)) ro_Mod_copy 20 rfl
theorem d_Mod_copy_27 : decode prog_13_method_5_code 27 = .ok (.iinc 3 1, 3) := am_row (r := (27, .iinc 3 1, 3)) ro_Mod_copy 21 rfl
theorem d_Mod_copy_30 : decode prog_13_method_5_code 30 = .ok (.goto (-28), 3) := am_row (r := (30, .goto (-28), 3)) ro_Mod_copy 22 rfl
theorem d_Mod_copy_33 : decode prog_13_method_5_code 33 = .ok (.iconst 0, 1) := am_row (r := (33, .iconst 0, 1)) ro_Mod_copy 23 rfl
theorem d_Mod_copy_34 : decode prog_13_method_5_code 34 = .ok (.istore_n 3, 1) := am_row (r := (34, .istore_n 3, 1)) ro_Mod_copy 24 rfl
theorem d_Mod_copy_35 : decode prog_13_method_5_code 35 = .ok (.iload_n 3, 1) := am_row (r := (35, .iload_n 3, 1)) ro_Mod_copy 25 rfl
theorem d_Mod_copy_36 : decode prog_13_method_5_code 36 = .ok (.bipush 10, 2) := am_row (r := (36, .bipush 10, 2)) ro_Mod_copy 26 rfl
theorem d_Mod_copy_38 : decode prog_13_method_5_code 38 = .ok (.if_icmp .ge 53, 3) := am_row (r := (38, .if_icmp .ge 53, 3)) ro_Mod_copy 27 rfl
theorem d_Mod_copy_41 : decode prog_13_method_5_code 41 = .ok (.aload_n 0, 1) := am_row (r := (41, .aload_n 0, 1)) ro_Mod_copy 28 rfl
theorem d_Mod_copy_42 : decode prog_13_method_5_code 42 = .ok (.getfield 13, 3) := am_row (r := (42, .getfield 13, 3)) ro_Mod_copy 29 rfl
theorem d_Mod_copy_45 : decode prog_13_method_5_code 45 = .ok (.bipush 10, 2) := am_row (r := (45, .bipush 10, 2)) ro_Mod_copy 30 rfl
theorem d_Mod_copy_47 : decode prog_13_method_5_code 47 = .ok (.iload_n 2, 1) := am_row (r := (47, .iload_n 2, 1)) ro_Mod_copy 31 rfl
theorem d_Mod_copy_48 : decode prog_13_method_5_code 48 = .ok (.imul, 1) := am_row (r := (48, .imul, 1)) ro_Mod_copy 32 rfl
theorem d_Mod_copy_49 : decode prog_13_method_5_code 49 = .ok (.iload_n 3, 1) := am_row (r := (49, .iload_n 3, 1)) ro_Mod_copy 33 rfl
theorem d_Mod_copy_50 : decode prog_13_method_5_code 50 = .ok (.iadd, 1) := am_row (r := (50, .iadd, 1)) ro_Mod_copy 34 rfl
theorem d_Mod_copy_51 : decode prog_13_method_5_code 51 = .ok (.aload_n 0, 1) := am_row (r := (51, .aload_n 0, 1)) ro_Mod_copy 35 rfl
theorem d_Mod_copy_52 : decode prog_13_method_5_code 52 = .ok (.getfield 13, 3) := am_row (r := (52, .getfield 13, 3)) ro_Mod_copy 36 rfl
theorem d_Mod_copy_55 : decode prog_13_method_5_code 55 = .ok (.bipush 10, 2) := am_row (r := (55, .bipush 10, 2)) ro_Mod_copy 37 rfl
theorem d_Mod_copy_57 : decode prog_13_method_5_code 57 = .ok (.iload_n 1, 1) := am_row (r := (57, .iload_n 1, 1)) ro_Mod_copy 38 rfl
theorem d_Mod_copy_58 : decode prog_13_method_5_code 58 = .ok (.imul, 1) := am_row (r := (58, .imul, 1)) ro_Mod_copy 39 rfl
theorem d_Mod_copy_59 : decode prog_13_method_5_code 59 = .ok (.iload_n 3, 1) := am_row (r := (59, .iload_n 3, 1)) ro_Mod_copy 40 rfl
theorem d_Mod_copy_60 : decode prog_13_method_5_code 60 = .ok (.iadd, 1) := am_row (r := (60, .iadd, 1)) ro_Mod_copy 41 rfl
theorem d_Mod_copy_61 : decode prog_13_method_5_code 61 = .ok (.iaload, 1) := am_row (r := (61, .iaload, 1)) ro_Mod_copy 42 rfl
theorem d_Mod_copy_62 : decode prog_13_method_5_code 62 = .ok (.iastore, 1) := am_row (r := (62, .iastore, 1)) ro_Mod_copy 43 rfl
theorem d_Mod_copy_63 : decode prog_13_method_5_code 63 = .ok (.aload_n 0, 1) := am_row (r := (63, .aload_n 0, 1)) ro_Mod_copy 44 rfl
theorem d_Mod_copy_64 : decode prog_13_method_5_code 64 = .ok (.getfield 16, 3) := am_row (r := (64, .getfield 16, 3)) ro_Mod_copy 45 rfl
theorem d_Mod_copy_67 : decode prog_13_method_5_code 67 = .ok (.bipush 10, 2) := am_row (r := (67, .bipush 10, 2)) ro_Mod_copy 46 rfl
theorem d_Mod_copy_69 : decode prog_13_method_5_code 69 = .ok (.iload_n 2, 1) := am_row (r := (69, .iload_n 2, 1)) ro_Mod_copy 47 rfl
theorem d_Mod_copy_70 : decode prog_13_method_5_code 70 = .ok (.imul, 1) := am_row (r := (70, .imul, 1)) ro_Mod_copy 48 rfl
theorem d_Mod_copy_71 : decode prog_13_method_5_code 71 = .ok (.iload_n 3, 1) := am_row (r := (71, .iload_n 3, 1)) ro_Mod_copy 49 rfl
theorem d_Mod_copy_72 : decode prog_13_method_5_code 72 = .ok (.iadd, 1) := am_row (r := (72, .iadd, 1)) ro_Mod_copy 50 rfl
theorem d_Mod_copy_73 : decode prog_13_method_5_code 73 = .ok (.aload_n 0, 1) := am_row (r := (73, .aload_n 0, 1)) ro_Mod_copy 51 rfl
theorem d_Mod_copy_74 : decode prog_13_method_5_code 74 = .ok (.getfield 16, 3) := am_row (r := (74, .getfield 16, 3)) ro_Mod_copy 52 rfl
theorem d_Mod_copy_77 : decode prog_13_method_5_code 77 = .ok (.bipush 10, 2) := am_row (r := (77, .bipush 10, 2)) ro_Mod_copy 53 rfl
theorem d_Mod_copy_79 : decode prog_13_method_5_code 79 = .ok (.iload_n 1, 1) := am_row (r := (79, .iload_n 1, 1)) ro_Mod_copy 54 rfl
theorem d_Mod_copy_80 : decode prog_13_method_5_code 80 = .ok (.imul, 1) := am_row (r := (80, .imul, 1)) ro_Mod_copy 55 rfl
theorem d_Mod_copy_81 : decode prog_13_method_5_code 81 = .ok (.iload_n 3, 1) := am_row (r := (81, .iload_n 3, 1)) ro_Mod_copy 56 rfl
theorem d_Mod_copy_82 : decode prog_13_method_5_code 82 = .ok (.iadd, 1) := am_row (r := (82, .iadd, 1)) ro_Mod_copy 57 rfl
theorem d_Mod_copy_83 : decode prog_13_method_5_code 83 = .ok (.iaload, 1) := am_row (r := (83, .iaload, 1)) ro_Mod_copy 58 rfl
theorem d_Mod_copy_84 : decode prog_13_method_5_code 84 = .ok (.iastore, 1) := am_row (r := (84, .iastore, 1)) ro_Mod_copy 59 rfl
theorem d_Mod_copy_85 : decode prog_13_method_5_code 85 = .ok (.iinc 3 1, 3) := am_row (r := (85, .iinc 3 1, 3)) ro_Mod_copy 60 rfl
theorem d_Mod_copy_88 : decode prog_13_method_5_code 88 = .ok (.goto (-53), 3) := am_row (r := (88, .goto (-53), 3)) ro_Mod_copy 61 rfl
theorem d_Mod_copy_91 : decode prog_13_method_5_code 91 = .ok (.iconst 0, 1) := am_row (r := (91, .iconst 0, 1)) ro_Mod_copy 62 rfl
theorem d_Mod_copy_92 : decode prog_13_method_5_code 92 = .ok (.istore_n 3, 1) := am_row (r := (92, .istore_n 3, 1)) ro_Mod_copy 63 rfl
theorem d_Mod_copy_93 : decode prog_13_method_5_code 93 = .ok (.iload_n 3, 1) := am_row (r := (93, .iload_n 3, 1)) ro_Mod_copy 64 rfl
theorem d_Mod_copy_94 : decode prog_13_method_5_code 94 = .ok (.sipush 5120, 3) := am_row (r := (94, .sipush 5120, 3)) ro_Mod_copy 65 rfl
theorem d_Mod_copy_97 : decode prog_13_method_5_code 97 = .ok (.if_icmp .ge 33, 3) := am_row (r := (97, .if_icmp .ge 33, 3)) ro_Mod_copy 66 rfl
theorem d_Mod_copy_100 : decode prog_13_method_5_code 100 = .ok (.aload_n 0, 1) := am_row (r := (100, .aload_n 0, 1)) ro_Mod_copy 67 rfl
theorem d_Mod_copy_101 : decode prog_13_method_5_code 101 = .ok (.getfield 20, 3) := am_row (r := (101, .getfield 20, 3)) ro_Mod_copy 68 rfl
theorem d_Mod_copy_104 : decode prog_13_method_5_code 104 = .ok (.sipush 5120, 3) := am_row (r := (104, .sipush 5120, 3)) ro_Mod_copy 69 rfl
theorem d_Mod_copy_107 : decode prog_13_method_5_code 107 = .ok (.iload_n 2, 1) := am_row (r := (107, .iload_n 2, 1)) ro_Mod_copy 70 rfl
theorem d_Mod_copy_108 : decode prog_13_method_5_code 108 = .ok (.imul, 1) := am_row (r := (108, .imul, 1)) ro_Mod_copy 71 rfl
theorem d_Mod_copy_109 : decode prog_13_method_5_code 109 = .ok (.iload_n 3, 1) := am_row (r := (109, .iload_n 3, 1)) ro_Mod_copy 72 rfl
theorem d_Mod_copy_110 : decode prog_13_method_5_code 110 = .ok (.iadd, 1) := am_row (r := (110, .iadd, 1)) ro_Mod_copy 73 rfl
theorem d_Mod_copy_111 : decode prog_13_method_5_code 111 = .ok (.aload_n 0, 1) := am_row (r := (111, .aload_n 0, 1)) ro_Mod_copy 74 rfl
theorem d_Mod_copy_112 : decode prog_13_method_5_code 112 = .ok (.getfield 20, 3) := am_row (r := (112, .getfield 20, 3)) ro_Mod_copy 75 rfl
theorem d_Mod_copy_115 : decode prog_13_method_5_code 115 = .ok (.sipush 5120, 3) := am_row (r := (115, .sipush 5120, 3)) ro_Mod_copy 76 rfl
theorem d_Mod_copy_118 : decode prog_13_method_5_code 118 = .ok (.iload_n 1, 1) := am_row (r := (118, .iload_n 1, 1)) ro_Mod_copy 77 rfl
theorem d_Mod_copy_119 : decode prog_13_method_5_code 119 = .ok (.imul, 1) := am_row (r := (119, .imul, 1)) ro_Mod_copy 78 rfl
theorem d_Mod_copy_120 : decode prog_13_method_5_code 120 = .ok (.iload_n 3, 1) := am_row (r := (120, .iload_n 3, 1)) ro_Mod_copy 79 rfl
theorem d_Mod_copy_121 : decode prog_13_method_5_code 121 = .ok (.iadd, 1) := am_row (r := (121, .iadd, 1)) ro_Mod_copy 80 rfl
theorem d_Mod_copy_122 : decode prog_13_method_5_code 122 = .ok (.baload, 1) := am_row (r := (122, .baload, 1)) ro_Mod_copy 81 rfl
theorem d_Mod_copy_123 : decode prog_13_method_5_code 123 = .ok (.bastore, 1) := am_row (r := (123, .bastore, 1)) ro_Mod_copy 82 rfl
theorem d_Mod_copy_124 : decode prog_13_method_5_code 124 = .ok (.iinc 3 1, 3) := am_row (r := (124, .iinc 3 1, 3)) ro_Mod_copy 83 rfl
theorem d_Mod_copy_127 : decode prog_13_method_5_code 127 = .ok (.goto (-34), 3) := am_row (r := (127, .goto (-34), 3)) ro_Mod_copy 84 rfl
theorem d_Mod_copy_130 : decode prog_13_method_5_code 130 = .ok (.return_, 1) := am_row (r := (130, .return_, 1)) ro_Mod_copy 85 rfl
abbrev y_Mod_change : MethodName := ⟨"WheelDiscModel", "change", "()V"⟩
theorem c_Mod_change : Cond.code y_Mod_change prog_13_method_6_code 1 none ∈ am_T := am_mem 1051 (by decide +kernel) rfl
def rw_Mod_change : List (Nat × Instr × Nat) := [(0, .aload_n 0, 1), (1, .getfield 65, 3), (4, .bipush 30, 2), (6, .if_icmp .ne 19, 3), (9, .aload_n 0, 1), (10, .aload_n 0, 1), (11, .getfield 68, 3), (14, .iconst 1, 1), (15, .iadd, 1), (16, .bipush 30, 2), (18, .irem, 1), (19, .putfield 68, 3), (22, .goto 13, 3), (25, .aload_n 0, 1), (26, .dup, 1), (27, .getfield 65, 3), (30, .iconst 1, 1), (31, .iadd, 1), (32, .putfield 65, 3), (35, .aload_n 0, 1), (36, .iconst 0, 1), (37, .iconst 2, 1), (38, .aload_n 0, 1), (39, .getfield 68, 3), (42, .aload_n 0, 1), (43, .getfield 65, 3), (46, .iadd, 1), (47, .iconst 1, 1), (48, .isub, 1), (49, .bipush 30, 2), (51, .irem, 1), (52, .iadd, 1), (53, .invokevirtual 71, 3), (56, .return_, 1)]
theorem ro_Mod_change : rw_Mod_change.all (fun r => decide (decode prog_13_method_6_code r.1 = .ok r.2)) = true := by decide +kernel
theorem d_Mod_change_0 : decode prog_13_method_6_code 0 = .ok (.aload_n 0, 1) := am_row (r := (0, .aload_n 0, 1)) ro_Mod_change 0 rfl
theorem d_Mod_change_1 : decode prog_13_method_6_code 1 = .ok (.getfield 65, 3) := am_row (r := (1, .getfield 65, 3)) ro_Mod_change 1 rfl
theorem d_Mod_change_4 : decode prog_13_method_6_code 4 = .ok (.bipush 30, 2) := am_row (r := (4, .bipush 30, 2)) ro_Mod_change 2 rfl
theorem d_Mod_change_6 : decode prog_13_method_6_code 6 = .ok (.if_icmp .ne 19, 3) := am_row (r := (6, .if_icmp .ne 19, 3)) ro_Mod_change 3 rfl
theorem d_Mod_change_9 : decode prog_13_method_6_code 9 = .ok (.aload_n 0, 1) := am_row (r := (9, .aload_n 0, 1)) ro_Mod_change 4 rfl
theorem d_Mod_change_10 : decode prog_13_method_6_code 10 = .ok (.aload_n 0, 1) := am_row (r := (10, .aload_n 0, 1)) ro_Mod_change 5 rfl
theorem d_Mod_change_11 : decode prog_13_method_6_code 11 = .ok (.getfield 68, 3) := am_row (r := (11, .getfield 68, 3)) ro_Mod_change 6 rfl
theorem d_Mod_change_14 : decode prog_13_method_6_code 14 = .ok (.iconst 1, 1) := am_row (r := (14, .iconst 1, 1)) ro_Mod_change 7 rfl
theorem d_Mod_change_15 : decode prog_13_method_6_code 15 = .ok (.iadd, 1) := am_row (r := (15, .iadd, 1)) ro_Mod_change 8 rfl
theorem d_Mod_change_16 : decode prog_13_method_6_code 16 = .ok (.bipush 30, 2) := am_row (r := (16, .bipush 30, 2)) ro_Mod_change 9 rfl
theorem d_Mod_change_18 : decode prog_13_method_6_code 18 = .ok (.irem, 1) := am_row (r := (18, .irem, 1)) ro_Mod_change 10 rfl
theorem d_Mod_change_19 : decode prog_13_method_6_code 19 = .ok (.putfield 68, 3) := am_row (r := (19, .putfield 68, 3)) ro_Mod_change 11 rfl
theorem d_Mod_change_22 : decode prog_13_method_6_code 22 = .ok (.goto 13, 3) := am_row (r := (22, .goto 13, 3)) ro_Mod_change 12 rfl
theorem d_Mod_change_25 : decode prog_13_method_6_code 25 = .ok (.aload_n 0, 1) := am_row (r := (25, .aload_n 0, 1)) ro_Mod_change 13 rfl
theorem d_Mod_change_26 : decode prog_13_method_6_code 26 = .ok (.dup, 1) := am_row (r := (26, .dup, 1)) ro_Mod_change 14 rfl
theorem d_Mod_change_27 : decode prog_13_method_6_code 27 = .ok (.getfield 65, 3) := am_row (r := (27, .getfield 65, 3)) ro_Mod_change 15 rfl
theorem d_Mod_change_30 : decode prog_13_method_6_code 30 = .ok (.iconst 1, 1) := am_row (r := (30, .iconst 1, 1)) ro_Mod_change 16 rfl
theorem d_Mod_change_31 : decode prog_13_method_6_code 31 = .ok (.iadd, 1) := am_row (r := (31, .iadd, 1)) ro_Mod_change 17 rfl
theorem d_Mod_change_32 : decode prog_13_method_6_code 32 = .ok (.putfield 65, 3) := am_row (r := (32, .putfield 65, 3)) ro_Mod_change 18 rfl
theorem d_Mod_change_35 : decode prog_13_method_6_code 35 = .ok (.aload_n 0, 1) := am_row (r := (35, .aload_n 0, 1)) ro_Mod_change 19 rfl
theorem d_Mod_change_36 : decode prog_13_method_6_code 36 = .ok (.iconst 0, 1) := am_row (r := (36, .iconst 0, 1)) ro_Mod_change 20 rfl
theorem d_Mod_change_37 : decode prog_13_method_6_code 37 = .ok (.iconst 2, 1) := am_row (r := (37, .iconst 2, 1)) ro_Mod_change 21 rfl
theorem d_Mod_change_38 : decode prog_13_method_6_code 38 = .ok (.aload_n 0, 1) := am_row (r := (38, .aload_n 0, 1)) ro_Mod_change 22 rfl
theorem d_Mod_change_39 : decode prog_13_method_6_code 39 = .ok (.getfield 68, 3) := am_row (r := (39, .getfield 68, 3)) ro_Mod_change 23 rfl
theorem d_Mod_change_42 : decode prog_13_method_6_code 42 = .ok (.aload_n 0, 1) := am_row (r := (42, .aload_n 0, 1)) ro_Mod_change 24 rfl
theorem d_Mod_change_43 : decode prog_13_method_6_code 43 = .ok (.getfield 65, 3) := am_row (r := (43, .getfield 65, 3)) ro_Mod_change 25 rfl
theorem d_Mod_change_46 : decode prog_13_method_6_code 46 = .ok (.iadd, 1) := am_row (r := (46, .iadd, 1)) ro_Mod_change 26 rfl
theorem d_Mod_change_47 : decode prog_13_method_6_code 47 = .ok (.iconst 1, 1) := am_row (r := (47, .iconst 1, 1)) ro_Mod_change 27 rfl
theorem d_Mod_change_48 : decode prog_13_method_6_code 48 = .ok (.isub, 1) := am_row (r := (48, .isub, 1)) ro_Mod_change 28 rfl
theorem d_Mod_change_49 : decode prog_13_method_6_code 49 = .ok (.bipush 30, 2) := am_row (r := (49, .bipush 30, 2)) ro_Mod_change 29 rfl
theorem d_Mod_change_51 : decode prog_13_method_6_code 51 = .ok (.irem, 1) := am_row (r := (51, .irem, 1)) ro_Mod_change 30 rfl
theorem d_Mod_change_52 : decode prog_13_method_6_code 52 = .ok (.iadd, 1) := am_row (r := (52, .iadd, 1)) ro_Mod_change 31 rfl
theorem d_Mod_change_53 : decode prog_13_method_6_code 53 = .ok (.invokevirtual 71, 3) := am_row (r := (53, .invokevirtual 71, 3)) ro_Mod_change 32 rfl
theorem d_Mod_change_56 : decode prog_13_method_6_code 56 = .ok (.return_, 1) := am_row (r := (56, .return_, 1)) ro_Mod_change 33 rfl
abbrev y_Mod_begin : MethodName := ⟨"WheelDiscModel", "begin", "(I)V"⟩
theorem c_Mod_begin : Cond.code y_Mod_begin prog_13_method_7_code 3 none ∈ am_T := am_mem 1059 (by decide +kernel) rfl
def rw_Mod_begin : List (Nat × Instr × Nat) := [(0, .aload_n 0, 1), (1, .getfield 9, 3), (4, .iconst 0, 1), (5, .iload_n 1, 1), (6, .iastore, 1), (7, .aload_n 0, 1), (8, .getfield 9, 3), (11, .iconst 1, 1), (12, .iconst 0, 1), (13, .iastore, 1), (14, .aload_n 0, 1), (15, .getfield 9, 3), (18, .iconst 2, 1), (19, .iconst 0, 1), (20, .iastore, 1), (21, .iconst 0, 1), (22, .istore_n 2, 1), (23, .iload_n 2, 1), (24, .sipush 5120, 3), (27, .if_icmp .ge 16, 3), (30, .aload_n 0, 1), (31, .getfield 20, 3), (34, .iload_n 2, 1), (35, .iconst 0, 1), (36, .bastore, 1), (37, .iinc 2 1, 3), (40, .goto (-17), 3), (43, .return_, 1)]
theorem ro_Mod_begin : rw_Mod_begin.all (fun r => decide (decode prog_13_method_7_code r.1 = .ok r.2)) = true := by decide +kernel
theorem d_Mod_begin_0 : decode prog_13_method_7_code 0 = .ok (.aload_n 0, 1) := am_row (r := (0, .aload_n 0, 1)) ro_Mod_begin 0 rfl
theorem d_Mod_begin_1 : decode prog_13_method_7_code 1 = .ok (.getfield 9, 3) := am_row (r := (1, .getfield 9, 3)) ro_Mod_begin 1 rfl
theorem d_Mod_begin_4 : decode prog_13_method_7_code 4 = .ok (.iconst 0, 1) := am_row (r := (4, .iconst 0, 1)) ro_Mod_begin 2 rfl
theorem d_Mod_begin_5 : decode prog_13_method_7_code 5 = .ok (.iload_n 1, 1) := am_row (r := (5, .iload_n 1, 1)) ro_Mod_begin 3 rfl
theorem d_Mod_begin_6 : decode prog_13_method_7_code 6 = .ok (.iastore, 1) := am_row (r := (6, .iastore, 1)) ro_Mod_begin 4 rfl
theorem d_Mod_begin_7 : decode prog_13_method_7_code 7 = .ok (.aload_n 0, 1) := am_row (r := (7, .aload_n 0, 1)) ro_Mod_begin 5 rfl
theorem d_Mod_begin_8 : decode prog_13_method_7_code 8 = .ok (.getfield 9, 3) := am_row (r := (8, .getfield 9, 3)) ro_Mod_begin 6 rfl
theorem d_Mod_begin_11 : decode prog_13_method_7_code 11 = .ok (.iconst 1, 1) := am_row (r := (11, .iconst 1, 1)) ro_Mod_begin 7 rfl
theorem d_Mod_begin_12 : decode prog_13_method_7_code 12 = .ok (.iconst 0, 1) := am_row (r := (12, .iconst 0, 1)) ro_Mod_begin 8 rfl
theorem d_Mod_begin_13 : decode prog_13_method_7_code 13 = .ok (.iastore, 1) := am_row (r := (13, .iastore, 1)) ro_Mod_begin 9 rfl
theorem d_Mod_begin_14 : decode prog_13_method_7_code 14 = .ok (.aload_n 0, 1) := am_row (r := (14, .aload_n 0, 1)) ro_Mod_begin 10 rfl
theorem d_Mod_begin_15 : decode prog_13_method_7_code 15 = .ok (.getfield 9, 3) := am_row (r := (15, .getfield 9, 3)) ro_Mod_begin 11 rfl
theorem d_Mod_begin_18 : decode prog_13_method_7_code 18 = .ok (.iconst 2, 1) := am_row (r := (18, .iconst 2, 1)) ro_Mod_begin 12 rfl
theorem d_Mod_begin_19 : decode prog_13_method_7_code 19 = .ok (.iconst 0, 1) := am_row (r := (19, .iconst 0, 1)) ro_Mod_begin 13 rfl
theorem d_Mod_begin_20 : decode prog_13_method_7_code 20 = .ok (.iastore, 1) := am_row (r := (20, .iastore, 1)) ro_Mod_begin 14 rfl
theorem d_Mod_begin_21 : decode prog_13_method_7_code 21 = .ok (.iconst 0, 1) := am_row (r := (21, .iconst 0, 1)) ro_Mod_begin 15 rfl
theorem d_Mod_begin_22 : decode prog_13_method_7_code 22 = .ok (.istore_n 2, 1) := am_row (r := (22, .istore_n 2, 1)) ro_Mod_begin 16 rfl
theorem d_Mod_begin_23 : decode prog_13_method_7_code 23 = .ok (.iload_n 2, 1) := am_row (r := (23, .iload_n 2, 1)) ro_Mod_begin 17 rfl
theorem d_Mod_begin_24 : decode prog_13_method_7_code 24 = .ok (.sipush 5120, 3) := am_row (r := (24, .sipush 5120, 3)) ro_Mod_begin 18 rfl
theorem d_Mod_begin_27 : decode prog_13_method_7_code 27 = .ok (.if_icmp .ge 16, 3) := am_row (r := (27, .if_icmp .ge 16, 3)) ro_Mod_begin 19 rfl
theorem d_Mod_begin_30 : decode prog_13_method_7_code 30 = .ok (.aload_n 0, 1) := am_row (r := (30, .aload_n 0, 1)) ro_Mod_begin 20 rfl
theorem d_Mod_begin_31 : decode prog_13_method_7_code 31 = .ok (.getfield 20, 3) := am_row (r := (31, .getfield 20, 3)) ro_Mod_begin 21 rfl
theorem d_Mod_begin_34 : decode prog_13_method_7_code 34 = .ok (.iload_n 2, 1) := am_row (r := (34, .iload_n 2, 1)) ro_Mod_begin 22 rfl
theorem d_Mod_begin_35 : decode prog_13_method_7_code 35 = .ok (.iconst 0, 1) := am_row (r := (35, .iconst 0, 1)) ro_Mod_begin 23 rfl
theorem d_Mod_begin_36 : decode prog_13_method_7_code 36 = .ok (.bastore, 1) := am_row (r := (36, .bastore, 1)) ro_Mod_begin 24 rfl
theorem d_Mod_begin_37 : decode prog_13_method_7_code 37 = .ok (.iinc 2 1, 3) := am_row (r := (37, .iinc 2 1, 3)) ro_Mod_begin 25 rfl
theorem d_Mod_begin_40 : decode prog_13_method_7_code 40 = .ok (.goto (-17), 3) := am_row (r := (40, .goto (-17), 3)) ro_Mod_begin 26 rfl
theorem d_Mod_begin_43 : decode prog_13_method_7_code 43 = .ok (.return_, 1) := am_row (r := (43, .return_, 1)) ro_Mod_begin 27 rfl
abbrev y_Mod_disc : MethodName := ⟨"WheelDiscModel", "disc", "(I)Z"⟩
theorem c_Mod_disc : Cond.code y_Mod_disc prog_13_method_11_code 2 (some .boolean) ∈ am_T := am_mem 1047 (by decide +kernel) rfl
def rw_Mod_disc : List (Nat × Instr × Nat) := [(0, .aload_n 0, 1), (1, .iconst 0, 1), (2, .putfield 62, 3), (5, .iload_n 1, 1), (6, .iconst 1, 1), (7, .if_icmp .lt 10, 3), (10, .iload_n 1, 1), (11, .sipush 512, 3), (14, .if_icmp .le 11, 3), (17, .aload_n 0, 1), (18, .iconst 1, 1), (19, .invokevirtual 75, 3), (22, .pop, 1), (23, .iconst 0, 1), (24, .ireturn, 1), (25, .aload_n 0, 1), (26, .invokevirtual 82, 3), (29, .aload_n 0, 1), (30, .iload_n 1, 1), (31, .invokevirtual 85, 3), (34, .iconst 1, 1), (35, .ireturn, 1)]
theorem ro_Mod_disc : rw_Mod_disc.all (fun r => decide (decode prog_13_method_11_code r.1 = .ok r.2)) = true := by decide +kernel
theorem d_Mod_disc_0 : decode prog_13_method_11_code 0 = .ok (.aload_n 0, 1) := am_row (r := (0, .aload_n 0, 1)) ro_Mod_disc 0 rfl
theorem d_Mod_disc_1 : decode prog_13_method_11_code 1 = .ok (.iconst 0, 1) := am_row (r := (1, .iconst 0, 1)) ro_Mod_disc 1 rfl
theorem d_Mod_disc_2 : decode prog_13_method_11_code 2 = .ok (.putfield 62, 3) := am_row (r := (2, .putfield 62, 3)) ro_Mod_disc 2 rfl
theorem d_Mod_disc_5 : decode prog_13_method_11_code 5 = .ok (.iload_n 1, 1) := am_row (r := (5, .iload_n 1, 1)) ro_Mod_disc 3 rfl
theorem d_Mod_disc_6 : decode prog_13_method_11_code 6 = .ok (.iconst 1, 1) := am_row (r := (6, .iconst 1, 1)) ro_Mod_disc 4 rfl
theorem d_Mod_disc_7 : decode prog_13_method_11_code 7 = .ok (.if_icmp .lt 10, 3) := am_row (r := (7, .if_icmp .lt 10, 3)) ro_Mod_disc 5 rfl
theorem d_Mod_disc_10 : decode prog_13_method_11_code 10 = .ok (.iload_n 1, 1) := am_row (r := (10, .iload_n 1, 1)) ro_Mod_disc 6 rfl
theorem d_Mod_disc_11 : decode prog_13_method_11_code 11 = .ok (.sipush 512, 3) := am_row (r := (11, .sipush 512, 3)) ro_Mod_disc 7 rfl
theorem d_Mod_disc_14 : decode prog_13_method_11_code 14 = .ok (.if_icmp .le 11, 3) := am_row (r := (14, .if_icmp .le 11, 3)) ro_Mod_disc 8 rfl
theorem d_Mod_disc_17 : decode prog_13_method_11_code 17 = .ok (.aload_n 0, 1) := am_row (r := (17, .aload_n 0, 1)) ro_Mod_disc 9 rfl
theorem d_Mod_disc_18 : decode prog_13_method_11_code 18 = .ok (.iconst 1, 1) := am_row (r := (18, .iconst 1, 1)) ro_Mod_disc 10 rfl
theorem d_Mod_disc_19 : decode prog_13_method_11_code 19 = .ok (.invokevirtual 75, 3) := am_row (r := (19, .invokevirtual 75, 3)) ro_Mod_disc 11 rfl
theorem d_Mod_disc_22 : decode prog_13_method_11_code 22 = .ok (.pop, 1) := am_row (r := (22, .pop, 1)) ro_Mod_disc 12 rfl
theorem d_Mod_disc_23 : decode prog_13_method_11_code 23 = .ok (.iconst 0, 1) := am_row (r := (23, .iconst 0, 1)) ro_Mod_disc 13 rfl
theorem d_Mod_disc_24 : decode prog_13_method_11_code 24 = .ok (.ireturn, 1) := am_row (r := (24, .ireturn, 1)) ro_Mod_disc 14 rfl
theorem d_Mod_disc_25 : decode prog_13_method_11_code 25 = .ok (.aload_n 0, 1) := am_row (r := (25, .aload_n 0, 1)) ro_Mod_disc 15 rfl
theorem d_Mod_disc_26 : decode prog_13_method_11_code 26 = .ok (.invokevirtual 82, 3) := am_row (r := (26, .invokevirtual 82, 3)) ro_Mod_disc 16 rfl
theorem d_Mod_disc_29 : decode prog_13_method_11_code 29 = .ok (.aload_n 0, 1) := am_row (r := (29, .aload_n 0, 1)) ro_Mod_disc 17 rfl
theorem d_Mod_disc_30 : decode prog_13_method_11_code 30 = .ok (.iload_n 1, 1) := am_row (r := (30, .iload_n 1, 1)) ro_Mod_disc 18 rfl
theorem d_Mod_disc_31 : decode prog_13_method_11_code 31 = .ok (.invokevirtual 85, 3) := am_row (r := (31, .invokevirtual 85, 3)) ro_Mod_disc 19 rfl
theorem d_Mod_disc_34 : decode prog_13_method_11_code 34 = .ok (.iconst 1, 1) := am_row (r := (34, .iconst 1, 1)) ro_Mod_disc 20 rfl
theorem d_Mod_disc_35 : decode prog_13_method_11_code 35 = .ok (.ireturn, 1) := am_row (r := (35, .ireturn, 1)) ro_Mod_disc 21 rfl
abbrev y_Mod_wide : MethodName := ⟨"WheelDiscModel", "wide", "()I"⟩
theorem c_Mod_wide : Cond.code y_Mod_wide prog_13_method_9_code 1 (some .int) ∈ am_T := am_mem 1067 (by decide +kernel) rfl
def rw_Mod_wide : List (Nat × Instr × Nat) := [(0, .aload_n 0, 1), (1, .getfield 24, 3), (4, .ifCond .ne 8, 3), (7, .bipush 8, 2), (9, .goto 18, 3), (12, .aload_n 0, 1), (13, .getfield 24, 3), (16, .iconst 1, 1), (17, .if_icmp .ne 8, 3), (20, .bipush 16, 2), (22, .goto 5, 3), (25, .bipush 64, 2), (27, .ireturn, 1)]
theorem ro_Mod_wide : rw_Mod_wide.all (fun r => decide (decode prog_13_method_9_code r.1 = .ok r.2)) = true := by decide +kernel
theorem d_Mod_wide_0 : decode prog_13_method_9_code 0 = .ok (.aload_n 0, 1) := am_row (r := (0, .aload_n 0, 1)) ro_Mod_wide 0 rfl
theorem d_Mod_wide_1 : decode prog_13_method_9_code 1 = .ok (.getfield 24, 3) := am_row (r := (1, .getfield 24, 3)) ro_Mod_wide 1 rfl
theorem d_Mod_wide_4 : decode prog_13_method_9_code 4 = .ok (.ifCond .ne 8, 3) := am_row (r := (4, .ifCond .ne 8, 3)) ro_Mod_wide 2 rfl
theorem d_Mod_wide_7 : decode prog_13_method_9_code 7 = .ok (.bipush 8, 2) := am_row (r := (7, .bipush 8, 2)) ro_Mod_wide 3 rfl
theorem d_Mod_wide_9 : decode prog_13_method_9_code 9 = .ok (.goto 18, 3) := am_row (r := (9, .goto 18, 3)) ro_Mod_wide 4 rfl
theorem d_Mod_wide_12 : decode prog_13_method_9_code 12 = .ok (.aload_n 0, 1) := am_row (r := (12, .aload_n 0, 1)) ro_Mod_wide 5 rfl
theorem d_Mod_wide_13 : decode prog_13_method_9_code 13 = .ok (.getfield 24, 3) := am_row (r := (13, .getfield 24, 3)) ro_Mod_wide 6 rfl
theorem d_Mod_wide_16 : decode prog_13_method_9_code 16 = .ok (.iconst 1, 1) := am_row (r := (16, .iconst 1, 1)) ro_Mod_wide 7 rfl
theorem d_Mod_wide_17 : decode prog_13_method_9_code 17 = .ok (.if_icmp .ne 8, 3) := am_row (r := (17, .if_icmp .ne 8, 3)) ro_Mod_wide 8 rfl
theorem d_Mod_wide_20 : decode prog_13_method_9_code 20 = .ok (.bipush 16, 2) := am_row (r := (20, .bipush 16, 2)) ro_Mod_wide 9 rfl
theorem d_Mod_wide_22 : decode prog_13_method_9_code 22 = .ok (.goto 5, 3) := am_row (r := (22, .goto 5, 3)) ro_Mod_wide 10 rfl
theorem d_Mod_wide_25 : decode prog_13_method_9_code 25 = .ok (.bipush 64, 2) := am_row (r := (25, .bipush 64, 2)) ro_Mod_wide 11 rfl
theorem d_Mod_wide_27 : decode prog_13_method_9_code 27 = .ok (.ireturn, 1) := am_row (r := (27, .ireturn, 1)) ro_Mod_wide 12 rfl
abbrev y_Mod_n : MethodName := ⟨"WheelDiscModel", "n", "()I"⟩
theorem c_Mod_n : Cond.code y_Mod_n prog_13_method_3_code 1 (some .int) ∈ am_T := am_mem 1071 (by decide +kernel) rfl
def rw_Mod_n : List (Nat × Instr × Nat) := [(0, .aload_n 0, 1), (1, .getfield 9, 3), (4, .iconst 0, 1), (5, .iaload, 1), (6, .ireturn, 1)]
theorem ro_Mod_n : rw_Mod_n.all (fun r => decide (decode prog_13_method_3_code r.1 = .ok r.2)) = true := by decide +kernel
theorem d_Mod_n_0 : decode prog_13_method_3_code 0 = .ok (.aload_n 0, 1) := am_row (r := (0, .aload_n 0, 1)) ro_Mod_n 0 rfl
theorem d_Mod_n_1 : decode prog_13_method_3_code 1 = .ok (.getfield 9, 3) := am_row (r := (1, .getfield 9, 3)) ro_Mod_n 1 rfl
theorem d_Mod_n_4 : decode prog_13_method_3_code 4 = .ok (.iconst 0, 1) := am_row (r := (4, .iconst 0, 1)) ro_Mod_n 2 rfl
theorem d_Mod_n_5 : decode prog_13_method_3_code 5 = .ok (.iaload, 1) := am_row (r := (5, .iaload, 1)) ro_Mod_n 3 rfl
theorem d_Mod_n_6 : decode prog_13_method_3_code 6 = .ok (.ireturn, 1) := am_row (r := (6, .ireturn, 1)) ro_Mod_n 4 rfl
abbrev y_Mod_track : MethodName := ⟨"WheelDiscModel", "track", "()I"⟩
theorem c_Mod_track : Cond.code y_Mod_track prog_13_method_12_code 4 (some .int) ∈ am_T := am_mem 1063 (by decide +kernel) rfl
def rw_Mod_track : List (Nat × Instr × Nat) := [(0, .aload_n 0, 1), (1, .iconst 0, 1), (2, .putfield 62, 3), (5, .aload_n 0, 1), (6, .getfield 24, 3), (9, .iconst (-1), 1), (10, .if_icmp .ne 9, 3), (13, .aload_n 0, 1), (14, .iconst 2, 1), (15, .invokevirtual 75, 3), (18, .ireturn, 1), (19, .aload_n 0, 1), (20, .getfield 9, 3), (23, .iconst 1, 1), (24, .iaload, 1), (25, .bipush 10, 2), (27, .if_icmp .ne 9, 3), (30, .aload_n 0, 1), (31, .iconst 4, 1), (32, .invokevirtual 75, 3), (35, .ireturn, 1), (36, .aload_n 0, 1), (37, .invokevirtual 82, 3), (40, .aload_n 0, 1), (41, .getfield 9, 3), (44, .iconst 1, 1), (45, .iaload, 1), (46, .istore_n 1, 1), (47, .iconst 0, 1), (48, .istore_n 2, 1), (49, .iload_n 2, 1), (50, .sipush 512, 3), (53, .if_icmp .ge 69, 3), (56, .iload_n 2, 1), (57, .aload_n 0, 1), (58, .invokevirtual 89, 3), (61, .idiv, 1), (62, .istore_n 3, 1), (63, .aload_n 0, 1), (64, .getfield 20, 3), (67, .sipush 512, 3), (70, .iload_n 1, 1), (71, .imul, 1), (72, .iload_n 2, 1), (73, .iadd, 1), (74, .iload_n 2, 1), (75, .aload_n 0, 1), (76, .invokevirtual 93, 3), (79, .if_icmp .ge 35, 3), (82, .iload_n 3, 1), (83, .aload_n 0, 1), (84, .getfield 79, 3), (87, .if_icmp .ge 27, 3), (90, .aload_n 0, 1), (91, .getfield 28, 3), (94, .iload_n 3, 1), (95, .laload, 1), (96, .iload_n 2, 1), (97, .aload_n 0, 1), (98, .invokevirtual 89, 3), (101, .irem, 1), (102, .lshr, 1), (103, .lconst 1, 1), (104, .land, 1), (105, .lconst 1, 1), (106, .lcmp, 1), (107, .ifCond .ne 7, 3), (110, .iconst 1, 1), (111, .goto 4, 3), (114, .iconst 0, 1), (115, .bastore, 1), (116, .iinc 2 1, 3), (119, .goto (-70), 3), (122, .aload_n 0, 1), (123, .getfield 9, 3), (126, .iconst 1, 1), (127, .dup2, 1), (128, .iaload, 1), (129, .iconst 1, 1), (130, .iadd, 1), (131, .iastore, 1), (132, .aload_n 0, 1), (133, .iconst (-1), 1), (134, .putfield 24, 3), (137, .iload_n 1, 1), (138, .ireturn, 1)]
theorem ro_Mod_track : rw_Mod_track.all (fun r => decide (decode prog_13_method_12_code r.1 = .ok r.2)) = true := by decide +kernel
theorem d_Mod_track_0 : decode prog_13_method_12_code 0 = .ok (.aload_n 0, 1) := am_row (r := (0, .aload_n 0, 1)) ro_Mod_track 0 rfl
theorem d_Mod_track_1 : decode prog_13_method_12_code 1 = .ok (.iconst 0, 1) := am_row (r := (1, .iconst 0, 1)) ro_Mod_track 1 rfl
theorem d_Mod_track_2 : decode prog_13_method_12_code 2 = .ok (.putfield 62, 3) := am_row (r := (2, .putfield 62, 3)) ro_Mod_track 2 rfl
theorem d_Mod_track_5 : decode prog_13_method_12_code 5 = .ok (.aload_n 0, 1) := am_row (r := (5, .aload_n 0, 1)) ro_Mod_track 3 rfl
theorem d_Mod_track_6 : decode prog_13_method_12_code 6 = .ok (.getfield 24, 3) := am_row (r := (6, .getfield 24, 3)) ro_Mod_track 4 rfl
theorem d_Mod_track_9 : decode prog_13_method_12_code 9 = .ok (.iconst (-1), 1) := am_row (r := (9, .iconst (-1), 1)) ro_Mod_track 5 rfl
theorem d_Mod_track_10 : decode prog_13_method_12_code 10 = .ok (.if_icmp .ne 9, 3) := am_row (r := (10, .if_icmp .ne 9, 3)) ro_Mod_track 6 rfl
theorem d_Mod_track_13 : decode prog_13_method_12_code 13 = .ok (.aload_n 0, 1) := am_row (r := (13, .aload_n 0, 1)) ro_Mod_track 7 rfl
theorem d_Mod_track_14 : decode prog_13_method_12_code 14 = .ok (.iconst 2, 1) := am_row (r := (14, .iconst 2, 1)) ro_Mod_track 8 rfl
theorem d_Mod_track_15 : decode prog_13_method_12_code 15 = .ok (.invokevirtual 75, 3) := am_row (r := (15, .invokevirtual 75, 3)) ro_Mod_track 9 rfl
theorem d_Mod_track_18 : decode prog_13_method_12_code 18 = .ok (.ireturn, 1) := am_row (r := (18, .ireturn, 1)) ro_Mod_track 10 rfl
theorem d_Mod_track_19 : decode prog_13_method_12_code 19 = .ok (.aload_n 0, 1) := am_row (r := (19, .aload_n 0, 1)) ro_Mod_track 11 rfl
theorem d_Mod_track_20 : decode prog_13_method_12_code 20 = .ok (.getfield 9, 3) := am_row (r := (20, .getfield 9, 3)) ro_Mod_track 12 rfl
theorem d_Mod_track_23 : decode prog_13_method_12_code 23 = .ok (.iconst 1, 1) := am_row (r := (23, .iconst 1, 1)) ro_Mod_track 13 rfl
theorem d_Mod_track_24 : decode prog_13_method_12_code 24 = .ok (.iaload, 1) := am_row (r := (24, .iaload, 1)) ro_Mod_track 14 rfl
theorem d_Mod_track_25 : decode prog_13_method_12_code 25 = .ok (.bipush 10, 2) := am_row (r := (25, .bipush 10, 2)) ro_Mod_track 15 rfl
theorem d_Mod_track_27 : decode prog_13_method_12_code 27 = .ok (.if_icmp .ne 9, 3) := am_row (r := (27, .if_icmp .ne 9, 3)) ro_Mod_track 16 rfl
theorem d_Mod_track_30 : decode prog_13_method_12_code 30 = .ok (.aload_n 0, 1) := am_row (r := (30, .aload_n 0, 1)) ro_Mod_track 17 rfl
theorem d_Mod_track_31 : decode prog_13_method_12_code 31 = .ok (.iconst 4, 1) := am_row (r := (31, .iconst 4, 1)) ro_Mod_track 18 rfl
theorem d_Mod_track_32 : decode prog_13_method_12_code 32 = .ok (.invokevirtual 75, 3) := am_row (r := (32, .invokevirtual 75, 3)) ro_Mod_track 19 rfl
theorem d_Mod_track_35 : decode prog_13_method_12_code 35 = .ok (.ireturn, 1) := am_row (r := (35, .ireturn, 1)) ro_Mod_track 20 rfl
theorem d_Mod_track_36 : decode prog_13_method_12_code 36 = .ok (.aload_n 0, 1) := am_row (r := (36, .aload_n 0, 1)) ro_Mod_track 21 rfl
theorem d_Mod_track_37 : decode prog_13_method_12_code 37 = .ok (.invokevirtual 82, 3) := am_row (r := (37, .invokevirtual 82, 3)) ro_Mod_track 22 rfl
theorem d_Mod_track_40 : decode prog_13_method_12_code 40 = .ok (.aload_n 0, 1) := am_row (r := (40, .aload_n 0, 1)) ro_Mod_track 23 rfl
theorem d_Mod_track_41 : decode prog_13_method_12_code 41 = .ok (.getfield 9, 3) := am_row (r := (41, .getfield 9, 3)) ro_Mod_track 24 rfl
theorem d_Mod_track_44 : decode prog_13_method_12_code 44 = .ok (.iconst 1, 1) := am_row (r := (44, .iconst 1, 1)) ro_Mod_track 25 rfl
theorem d_Mod_track_45 : decode prog_13_method_12_code 45 = .ok (.iaload, 1) := am_row (r := (45, .iaload, 1)) ro_Mod_track 26 rfl
theorem d_Mod_track_46 : decode prog_13_method_12_code 46 = .ok (.istore_n 1, 1) := am_row (r := (46, .istore_n 1, 1)) ro_Mod_track 27 rfl
theorem d_Mod_track_47 : decode prog_13_method_12_code 47 = .ok (.iconst 0, 1) := am_row (r := (47, .iconst 0, 1)) ro_Mod_track 28 rfl
theorem d_Mod_track_48 : decode prog_13_method_12_code 48 = .ok (.istore_n 2, 1) := am_row (r := (48, .istore_n 2, 1)) ro_Mod_track 29 rfl
theorem d_Mod_track_49 : decode prog_13_method_12_code 49 = .ok (.iload_n 2, 1) := am_row (r := (49, .iload_n 2, 1)) ro_Mod_track 30 rfl
theorem d_Mod_track_50 : decode prog_13_method_12_code 50 = .ok (.sipush 512, 3) := am_row (r := (50, .sipush 512, 3)) ro_Mod_track 31 rfl
theorem d_Mod_track_53 : decode prog_13_method_12_code 53 = .ok (.if_icmp .ge 69, 3) := am_row (r := (53, .if_icmp .ge 69, 3)) ro_Mod_track 32 rfl
theorem d_Mod_track_56 : decode prog_13_method_12_code 56 = .ok (.iload_n 2, 1) := am_row (r := (56, .iload_n 2, 1)) ro_Mod_track 33 rfl
theorem d_Mod_track_57 : decode prog_13_method_12_code 57 = .ok (.aload_n 0, 1) := am_row (r := (57, .aload_n 0, 1)) ro_Mod_track 34 rfl
theorem d_Mod_track_58 : decode prog_13_method_12_code 58 = .ok (.invokevirtual 89, 3) := am_row (r := (58, .invokevirtual 89, 3)) ro_Mod_track 35 rfl
theorem d_Mod_track_61 : decode prog_13_method_12_code 61 = .ok (.idiv, 1) := am_row (r := (61, .idiv, 1)) ro_Mod_track 36 rfl
theorem d_Mod_track_62 : decode prog_13_method_12_code 62 = .ok (.istore_n 3, 1) := am_row (r := (62, .istore_n 3, 1)) ro_Mod_track 37 rfl
theorem d_Mod_track_63 : decode prog_13_method_12_code 63 = .ok (.aload_n 0, 1) := am_row (r := (63, .aload_n 0, 1)) ro_Mod_track 38 rfl
theorem d_Mod_track_64 : decode prog_13_method_12_code 64 = .ok (.getfield 20, 3) := am_row (r := (64, .getfield 20, 3)) ro_Mod_track 39 rfl
theorem d_Mod_track_67 : decode prog_13_method_12_code 67 = .ok (.sipush 512, 3) := am_row (r := (67, .sipush 512, 3)) ro_Mod_track 40 rfl
theorem d_Mod_track_70 : decode prog_13_method_12_code 70 = .ok (.iload_n 1, 1) := am_row (r := (70, .iload_n 1, 1)) ro_Mod_track 41 rfl
theorem d_Mod_track_71 : decode prog_13_method_12_code 71 = .ok (.imul, 1) := am_row (r := (71, .imul, 1)) ro_Mod_track 42 rfl
theorem d_Mod_track_72 : decode prog_13_method_12_code 72 = .ok (.iload_n 2, 1) := am_row (r := (72, .iload_n 2, 1)) ro_Mod_track 43 rfl
theorem d_Mod_track_73 : decode prog_13_method_12_code 73 = .ok (.iadd, 1) := am_row (r := (73, .iadd, 1)) ro_Mod_track 44 rfl
theorem d_Mod_track_74 : decode prog_13_method_12_code 74 = .ok (.iload_n 2, 1) := am_row (r := (74, .iload_n 2, 1)) ro_Mod_track 45 rfl
theorem d_Mod_track_75 : decode prog_13_method_12_code 75 = .ok (.aload_n 0, 1) := am_row (r := (75, .aload_n 0, 1)) ro_Mod_track 46 rfl
theorem d_Mod_track_76 : decode prog_13_method_12_code 76 = .ok (.invokevirtual 93, 3) := am_row (r := (76, .invokevirtual 93, 3)) ro_Mod_track 47 rfl
theorem d_Mod_track_79 : decode prog_13_method_12_code 79 = .ok (.if_icmp .ge 35, 3) := am_row (r := (79, .if_icmp .ge 35, 3)) ro_Mod_track 48 rfl
theorem d_Mod_track_82 : decode prog_13_method_12_code 82 = .ok (.iload_n 3, 1) := am_row (r := (82, .iload_n 3, 1)) ro_Mod_track 49 rfl
theorem d_Mod_track_83 : decode prog_13_method_12_code 83 = .ok (.aload_n 0, 1) := am_row (r := (83, .aload_n 0, 1)) ro_Mod_track 50 rfl
theorem d_Mod_track_84 : decode prog_13_method_12_code 84 = .ok (.getfield 79, 3) := am_row (r := (84, .getfield 79, 3)) ro_Mod_track 51 rfl
theorem d_Mod_track_87 : decode prog_13_method_12_code 87 = .ok (.if_icmp .ge 27, 3) := am_row (r := (87, .if_icmp .ge 27, 3)) ro_Mod_track 52 rfl
theorem d_Mod_track_90 : decode prog_13_method_12_code 90 = .ok (.aload_n 0, 1) := am_row (r := (90, .aload_n 0, 1)) ro_Mod_track 53 rfl
theorem d_Mod_track_91 : decode prog_13_method_12_code 91 = .ok (.getfield 28, 3) := am_row (r := (91, .getfield 28, 3)) ro_Mod_track 54 rfl
theorem d_Mod_track_94 : decode prog_13_method_12_code 94 = .ok (.iload_n 3, 1) := am_row (r := (94, .iload_n 3, 1)) ro_Mod_track 55 rfl
theorem d_Mod_track_95 : decode prog_13_method_12_code 95 = .ok (.laload, 1) := am_row (r := (95, .laload, 1)) ro_Mod_track 56 rfl
theorem d_Mod_track_96 : decode prog_13_method_12_code 96 = .ok (.iload_n 2, 1) := am_row (r := (96, .iload_n 2, 1)) ro_Mod_track 57 rfl
theorem d_Mod_track_97 : decode prog_13_method_12_code 97 = .ok (.aload_n 0, 1) := am_row (r := (97, .aload_n 0, 1)) ro_Mod_track 58 rfl
theorem d_Mod_track_98 : decode prog_13_method_12_code 98 = .ok (.invokevirtual 89, 3) := am_row (r := (98, .invokevirtual 89, 3)) ro_Mod_track 59 rfl
theorem d_Mod_track_101 : decode prog_13_method_12_code 101 = .ok (.irem, 1) := am_row (r := (101, .irem, 1)) ro_Mod_track 60 rfl
theorem d_Mod_track_102 : decode prog_13_method_12_code 102 = .ok (.lshr, 1) := am_row (r := (102, .lshr, 1)) ro_Mod_track 61 rfl
theorem d_Mod_track_103 : decode prog_13_method_12_code 103 = .ok (.lconst 1, 1) := am_row (r := (103, .lconst 1, 1)) ro_Mod_track 62 rfl
theorem d_Mod_track_104 : decode prog_13_method_12_code 104 = .ok (.land, 1) := am_row (r := (104, .land, 1)) ro_Mod_track 63 rfl
theorem d_Mod_track_105 : decode prog_13_method_12_code 105 = .ok (.lconst 1, 1) := am_row (r := (105, .lconst 1, 1)) ro_Mod_track 64 rfl
theorem d_Mod_track_106 : decode prog_13_method_12_code 106 = .ok (.lcmp, 1) := am_row (r := (106, .lcmp, 1)) ro_Mod_track 65 rfl
theorem d_Mod_track_107 : decode prog_13_method_12_code 107 = .ok (.ifCond .ne 7, 3) := am_row (r := (107, .ifCond .ne 7, 3)) ro_Mod_track 66 rfl
theorem d_Mod_track_110 : decode prog_13_method_12_code 110 = .ok (.iconst 1, 1) := am_row (r := (110, .iconst 1, 1)) ro_Mod_track 67 rfl
theorem d_Mod_track_111 : decode prog_13_method_12_code 111 = .ok (.goto 4, 3) := am_row (r := (111, .goto 4, 3)) ro_Mod_track 68 rfl
theorem d_Mod_track_114 : decode prog_13_method_12_code 114 = .ok (.iconst 0, 1) := am_row (r := (114, .iconst 0, 1)) ro_Mod_track 69 rfl
theorem d_Mod_track_115 : decode prog_13_method_12_code 115 = .ok (.bastore, 1) := am_row (r := (115, .bastore, 1)) ro_Mod_track 70 rfl
theorem d_Mod_track_116 : decode prog_13_method_12_code 116 = .ok (.iinc 2 1, 3) := am_row (r := (116, .iinc 2 1, 3)) ro_Mod_track 71 rfl
theorem d_Mod_track_119 : decode prog_13_method_12_code 119 = .ok (.goto (-70), 3) := am_row (r := (119, .goto (-70), 3)) ro_Mod_track 72 rfl
theorem d_Mod_track_122 : decode prog_13_method_12_code 122 = .ok (.aload_n 0, 1) := am_row (r := (122, .aload_n 0, 1)) ro_Mod_track 73 rfl
theorem d_Mod_track_123 : decode prog_13_method_12_code 123 = .ok (.getfield 9, 3) := am_row (r := (123, .getfield 9, 3)) ro_Mod_track 74 rfl
theorem d_Mod_track_126 : decode prog_13_method_12_code 126 = .ok (.iconst 1, 1) := am_row (r := (126, .iconst 1, 1)) ro_Mod_track 75 rfl
theorem d_Mod_track_127 : decode prog_13_method_12_code 127 = .ok (.dup2, 1) := am_row (r := (127, .dup2, 1)) ro_Mod_track 76 rfl
theorem d_Mod_track_128 : decode prog_13_method_12_code 128 = .ok (.iaload, 1) := am_row (r := (128, .iaload, 1)) ro_Mod_track 77 rfl
theorem d_Mod_track_129 : decode prog_13_method_12_code 129 = .ok (.iconst 1, 1) := am_row (r := (129, .iconst 1, 1)) ro_Mod_track 78 rfl
theorem d_Mod_track_130 : decode prog_13_method_12_code 130 = .ok (.iadd, 1) := am_row (r := (130, .iadd, 1)) ro_Mod_track 79 rfl
theorem d_Mod_track_131 : decode prog_13_method_12_code 131 = .ok (.iastore, 1) := am_row (r := (131, .iastore, 1)) ro_Mod_track 80 rfl
theorem d_Mod_track_132 : decode prog_13_method_12_code 132 = .ok (.aload_n 0, 1) := am_row (r := (132, .aload_n 0, 1)) ro_Mod_track 81 rfl
theorem d_Mod_track_133 : decode prog_13_method_12_code 133 = .ok (.iconst (-1), 1) := am_row (r := (133, .iconst (-1), 1)) ro_Mod_track 82 rfl
theorem d_Mod_track_134 : decode prog_13_method_12_code 134 = .ok (.putfield 24, 3) := am_row (r := (134, .putfield 24, 3)) ro_Mod_track 83 rfl
theorem d_Mod_track_137 : decode prog_13_method_12_code 137 = .ok (.iload_n 1, 1) := am_row (r := (137, .iload_n 1, 1)) ro_Mod_track 84 rfl
theorem d_Mod_track_138 : decode prog_13_method_12_code 138 = .ok (.ireturn, 1) := am_row (r := (138, .ireturn, 1)) ro_Mod_track 85 rfl
abbrev y_Mod_light : MethodName := ⟨"WheelDiscModel", "light", "(IIZ)I"⟩
theorem c_Mod_light : Cond.code y_Mod_light prog_13_method_13_code 5 (some .int) ∈ am_T := am_mem 1075 (by decide +kernel) rfl
def rw_Mod_light : List (Nat × Instr × Nat) := [(0, .aload_n 0, 1), (1, .iconst 0, 1), (2, .putfield 62, 3), (5, .iload_n 1, 1), (6, .ifCond .lt 25, 3), (9, .iload_n 1, 1), (10, .aload_n 0, 1), (11, .getfield 9, 3), (14, .iconst 1, 1), (15, .iaload, 1), (16, .if_icmp .ge 15, 3), (19, .iload_n 2, 1), (20, .ifCond .lt 11, 3), (23, .iload_n 2, 1), (24, .aload_n 0, 1), (25, .invokevirtual 93, 3), (28, .if_icmp .lt 9, 3), (31, .aload_n 0, 1), (32, .iconst 1, 1), (33, .invokevirtual 75, 3), (36, .ireturn, 1), (37, .aload_n 0, 1), (38, .invokevirtual 82, 3), (41, .aload_n 0, 1), (42, .getfield 20, 3), (45, .sipush 512, 3), (48, .iload_n 1, 1), (49, .imul, 1), (50, .iload_n 2, 1), (51, .iadd, 1), (52, .baload, 1), (53, .istore 4, 2), (55, .aload_n 0, 1), (56, .getfield 20, 3), (59, .sipush 512, 3), (62, .iload_n 1, 1), (63, .imul, 1), (64, .iload_n 2, 1), (65, .iadd, 1), (66, .iload_n 3, 1), (67, .bastore, 1), (68, .iload 4, 2), (70, .ifCond .eq 7, 3), (73, .iconst 1, 1), (74, .goto 4, 3), (77, .iconst 0, 1), (78, .ireturn, 1)]
theorem ro_Mod_light : rw_Mod_light.all (fun r => decide (decode prog_13_method_13_code r.1 = .ok r.2)) = true := by decide +kernel
theorem d_Mod_light_0 : decode prog_13_method_13_code 0 = .ok (.aload_n 0, 1) := am_row (r := (0, .aload_n 0, 1)) ro_Mod_light 0 rfl
theorem d_Mod_light_1 : decode prog_13_method_13_code 1 = .ok (.iconst 0, 1) := am_row (r := (1, .iconst 0, 1)) ro_Mod_light 1 rfl
theorem d_Mod_light_2 : decode prog_13_method_13_code 2 = .ok (.putfield 62, 3) := am_row (r := (2, .putfield 62, 3)) ro_Mod_light 2 rfl
theorem d_Mod_light_5 : decode prog_13_method_13_code 5 = .ok (.iload_n 1, 1) := am_row (r := (5, .iload_n 1, 1)) ro_Mod_light 3 rfl
theorem d_Mod_light_6 : decode prog_13_method_13_code 6 = .ok (.ifCond .lt 25, 3) := am_row (r := (6, .ifCond .lt 25, 3)) ro_Mod_light 4 rfl
theorem d_Mod_light_9 : decode prog_13_method_13_code 9 = .ok (.iload_n 1, 1) := am_row (r := (9, .iload_n 1, 1)) ro_Mod_light 5 rfl
theorem d_Mod_light_10 : decode prog_13_method_13_code 10 = .ok (.aload_n 0, 1) := am_row (r := (10, .aload_n 0, 1)) ro_Mod_light 6 rfl
theorem d_Mod_light_11 : decode prog_13_method_13_code 11 = .ok (.getfield 9, 3) := am_row (r := (11, .getfield 9, 3)) ro_Mod_light 7 rfl
theorem d_Mod_light_14 : decode prog_13_method_13_code 14 = .ok (.iconst 1, 1) := am_row (r := (14, .iconst 1, 1)) ro_Mod_light 8 rfl
theorem d_Mod_light_15 : decode prog_13_method_13_code 15 = .ok (.iaload, 1) := am_row (r := (15, .iaload, 1)) ro_Mod_light 9 rfl
theorem d_Mod_light_16 : decode prog_13_method_13_code 16 = .ok (.if_icmp .ge 15, 3) := am_row (r := (16, .if_icmp .ge 15, 3)) ro_Mod_light 10 rfl
theorem d_Mod_light_19 : decode prog_13_method_13_code 19 = .ok (.iload_n 2, 1) := am_row (r := (19, .iload_n 2, 1)) ro_Mod_light 11 rfl
theorem d_Mod_light_20 : decode prog_13_method_13_code 20 = .ok (.ifCond .lt 11, 3) := am_row (r := (20, .ifCond .lt 11, 3)) ro_Mod_light 12 rfl
theorem d_Mod_light_23 : decode prog_13_method_13_code 23 = .ok (.iload_n 2, 1) := am_row (r := (23, .iload_n 2, 1)) ro_Mod_light 13 rfl
theorem d_Mod_light_24 : decode prog_13_method_13_code 24 = .ok (.aload_n 0, 1) := am_row (r := (24, .aload_n 0, 1)) ro_Mod_light 14 rfl
theorem d_Mod_light_25 : decode prog_13_method_13_code 25 = .ok (.invokevirtual 93, 3) := am_row (r := (25, .invokevirtual 93, 3)) ro_Mod_light 15 rfl
theorem d_Mod_light_28 : decode prog_13_method_13_code 28 = .ok (.if_icmp .lt 9, 3) := am_row (r := (28, .if_icmp .lt 9, 3)) ro_Mod_light 16 rfl
theorem d_Mod_light_31 : decode prog_13_method_13_code 31 = .ok (.aload_n 0, 1) := am_row (r := (31, .aload_n 0, 1)) ro_Mod_light 17 rfl
theorem d_Mod_light_32 : decode prog_13_method_13_code 32 = .ok (.iconst 1, 1) := am_row (r := (32, .iconst 1, 1)) ro_Mod_light 18 rfl
theorem d_Mod_light_33 : decode prog_13_method_13_code 33 = .ok (.invokevirtual 75, 3) := am_row (r := (33, .invokevirtual 75, 3)) ro_Mod_light 19 rfl
theorem d_Mod_light_36 : decode prog_13_method_13_code 36 = .ok (.ireturn, 1) := am_row (r := (36, .ireturn, 1)) ro_Mod_light 20 rfl
theorem d_Mod_light_37 : decode prog_13_method_13_code 37 = .ok (.aload_n 0, 1) := am_row (r := (37, .aload_n 0, 1)) ro_Mod_light 21 rfl
theorem d_Mod_light_38 : decode prog_13_method_13_code 38 = .ok (.invokevirtual 82, 3) := am_row (r := (38, .invokevirtual 82, 3)) ro_Mod_light 22 rfl
theorem d_Mod_light_41 : decode prog_13_method_13_code 41 = .ok (.aload_n 0, 1) := am_row (r := (41, .aload_n 0, 1)) ro_Mod_light 23 rfl
theorem d_Mod_light_42 : decode prog_13_method_13_code 42 = .ok (.getfield 20, 3) := am_row (r := (42, .getfield 20, 3)) ro_Mod_light 24 rfl
theorem d_Mod_light_45 : decode prog_13_method_13_code 45 = .ok (.sipush 512, 3) := am_row (r := (45, .sipush 512, 3)) ro_Mod_light 25 rfl
theorem d_Mod_light_48 : decode prog_13_method_13_code 48 = .ok (.iload_n 1, 1) := am_row (r := (48, .iload_n 1, 1)) ro_Mod_light 26 rfl
theorem d_Mod_light_49 : decode prog_13_method_13_code 49 = .ok (.imul, 1) := am_row (r := (49, .imul, 1)) ro_Mod_light 27 rfl
theorem d_Mod_light_50 : decode prog_13_method_13_code 50 = .ok (.iload_n 2, 1) := am_row (r := (50, .iload_n 2, 1)) ro_Mod_light 28 rfl
theorem d_Mod_light_51 : decode prog_13_method_13_code 51 = .ok (.iadd, 1) := am_row (r := (51, .iadd, 1)) ro_Mod_light 29 rfl
theorem d_Mod_light_52 : decode prog_13_method_13_code 52 = .ok (.baload, 1) := am_row (r := (52, .baload, 1)) ro_Mod_light 30 rfl
theorem d_Mod_light_53 : decode prog_13_method_13_code 53 = .ok (.istore 4, 2) := am_row (r := (53, .istore 4, 2)) ro_Mod_light 31 rfl
theorem d_Mod_light_55 : decode prog_13_method_13_code 55 = .ok (.aload_n 0, 1) := am_row (r := (55, .aload_n 0, 1)) ro_Mod_light 32 rfl
theorem d_Mod_light_56 : decode prog_13_method_13_code 56 = .ok (.getfield 20, 3) := am_row (r := (56, .getfield 20, 3)) ro_Mod_light 33 rfl
theorem d_Mod_light_59 : decode prog_13_method_13_code 59 = .ok (.sipush 512, 3) := am_row (r := (59, .sipush 512, 3)) ro_Mod_light 34 rfl
theorem d_Mod_light_62 : decode prog_13_method_13_code 62 = .ok (.iload_n 1, 1) := am_row (r := (62, .iload_n 1, 1)) ro_Mod_light 35 rfl
theorem d_Mod_light_63 : decode prog_13_method_13_code 63 = .ok (.imul, 1) := am_row (r := (63, .imul, 1)) ro_Mod_light 36 rfl
theorem d_Mod_light_64 : decode prog_13_method_13_code 64 = .ok (.iload_n 2, 1) := am_row (r := (64, .iload_n 2, 1)) ro_Mod_light 37 rfl
theorem d_Mod_light_65 : decode prog_13_method_13_code 65 = .ok (.iadd, 1) := am_row (r := (65, .iadd, 1)) ro_Mod_light 38 rfl
theorem d_Mod_light_66 : decode prog_13_method_13_code 66 = .ok (.iload_n 3, 1) := am_row (r := (66, .iload_n 3, 1)) ro_Mod_light 39 rfl
theorem d_Mod_light_67 : decode prog_13_method_13_code 67 = .ok (.bastore, 1) := am_row (r := (67, .bastore, 1)) ro_Mod_light 40 rfl
theorem d_Mod_light_68 : decode prog_13_method_13_code 68 = .ok (.iload 4, 2) := am_row (r := (68, .iload 4, 2)) ro_Mod_light 41 rfl
theorem d_Mod_light_70 : decode prog_13_method_13_code 70 = .ok (.ifCond .eq 7, 3) := am_row (r := (70, .ifCond .eq 7, 3)) ro_Mod_light 42 rfl
theorem d_Mod_light_73 : decode prog_13_method_13_code 73 = .ok (.iconst 1, 1) := am_row (r := (73, .iconst 1, 1)) ro_Mod_light 43 rfl
theorem d_Mod_light_74 : decode prog_13_method_13_code 74 = .ok (.goto 4, 3) := am_row (r := (74, .goto 4, 3)) ro_Mod_light 44 rfl
theorem d_Mod_light_77 : decode prog_13_method_13_code 77 = .ok (.iconst 0, 1) := am_row (r := (77, .iconst 0, 1)) ro_Mod_light 45 rfl
theorem d_Mod_light_78 : decode prog_13_method_13_code 78 = .ok (.ireturn, 1) := am_row (r := (78, .ireturn, 1)) ro_Mod_light 46 rfl
abbrev y_Mod_readers : MethodName := ⟨"WheelDiscModel", "readers", "()I"⟩
theorem c_Mod_readers : Cond.code y_Mod_readers prog_13_method_4_code 1 (some .int) ∈ am_T := am_mem 1083 (by decide +kernel) rfl
def rw_Mod_readers : List (Nat × Instr × Nat) := [(0, .aload_n 0, 1), (1, .getfield 9, 3), (4, .iconst 2, 1), (5, .iaload, 1), (6, .ireturn, 1)]
theorem ro_Mod_readers : rw_Mod_readers.all (fun r => decide (decode prog_13_method_4_code r.1 = .ok r.2)) = true := by decide +kernel
theorem d_Mod_readers_0 : decode prog_13_method_4_code 0 = .ok (.aload_n 0, 1) := am_row (r := (0, .aload_n 0, 1)) ro_Mod_readers 0 rfl
theorem d_Mod_readers_1 : decode prog_13_method_4_code 1 = .ok (.getfield 9, 3) := am_row (r := (1, .getfield 9, 3)) ro_Mod_readers 1 rfl
theorem d_Mod_readers_4 : decode prog_13_method_4_code 4 = .ok (.iconst 2, 1) := am_row (r := (4, .iconst 2, 1)) ro_Mod_readers 2 rfl
theorem d_Mod_readers_5 : decode prog_13_method_4_code 5 = .ok (.iaload, 1) := am_row (r := (5, .iaload, 1)) ro_Mod_readers 3 rfl
theorem d_Mod_readers_6 : decode prog_13_method_4_code 6 = .ok (.ireturn, 1) := am_row (r := (6, .ireturn, 1)) ro_Mod_readers 4 rfl
abbrev y_Mod_reader : MethodName := ⟨"WheelDiscModel", "reader", "(II)I"⟩
theorem c_Mod_reader : Cond.code y_Mod_reader prog_13_method_14_code 3 (some .int) ∈ am_T := am_mem 1079 (by decide +kernel) rfl
def rw_Mod_reader : List (Nat × Instr × Nat) := [(0, .aload_n 0, 1), (1, .iconst 0, 1), (2, .putfield 62, 3), (5, .iload_n 1, 1), (6, .ifCond .lt 25, 3), (9, .iload_n 1, 1), (10, .aload_n 0, 1), (11, .getfield 9, 3), (14, .iconst 1, 1), (15, .iaload, 1), (16, .if_icmp .ge 15, 3), (19, .iload_n 2, 1), (20, .ifCond .lt 11, 3), (23, .iload_n 2, 1), (24, .aload_n 0, 1), (25, .invokevirtual 93, 3), (28, .if_icmp .lt 9, 3), (31, .aload_n 0, 1), (32, .iconst 1, 1), (33, .invokevirtual 75, 3), (36, .ireturn, 1), (37, .aload_n 0, 1), (38, .invokevirtual 96, 3), (41, .bipush 10, 2), (43, .if_icmp .ne 9, 3), (46, .aload_n 0, 1), (47, .iconst 4, 1), (48, .invokevirtual 75, 3), (51, .ireturn, 1), (52, .aload_n 0, 1), (53, .invokevirtual 82, 3), (56, .aload_n 0, 1), (57, .getfield 13, 3), (60, .aload_n 0, 1), (61, .getfield 9, 3), (64, .iconst 2, 1), (65, .iaload, 1), (66, .iload_n 1, 1), (67, .iastore, 1), (68, .aload_n 0, 1), (69, .getfield 16, 3), (72, .aload_n 0, 1), (73, .getfield 9, 3), (76, .iconst 2, 1), (77, .iaload, 1), (78, .iload_n 2, 1), (79, .iastore, 1), (80, .aload_n 0, 1), (81, .getfield 9, 3), (84, .iconst 2, 1), (85, .dup2, 1), (86, .iaload, 1), (87, .iconst 1, 1), (88, .iadd, 1), (89, .iastore, 1), (90, .aload_n 0, 1), (91, .getfield 9, 3), (94, .iconst 2, 1), (95, .iaload, 1), (96, .iconst 1, 1), (97, .isub, 1), (98, .ireturn, 1)]
theorem ro_Mod_reader : rw_Mod_reader.all (fun r => decide (decode prog_13_method_14_code r.1 = .ok r.2)) = true := by decide +kernel
theorem d_Mod_reader_0 : decode prog_13_method_14_code 0 = .ok (.aload_n 0, 1) := am_row (r := (0, .aload_n 0, 1)) ro_Mod_reader 0 rfl
theorem d_Mod_reader_1 : decode prog_13_method_14_code 1 = .ok (.iconst 0, 1) := am_row (r := (1, .iconst 0, 1)) ro_Mod_reader 1 rfl
theorem d_Mod_reader_2 : decode prog_13_method_14_code 2 = .ok (.putfield 62, 3) := am_row (r := (2, .putfield 62, 3)) ro_Mod_reader 2 rfl
theorem d_Mod_reader_5 : decode prog_13_method_14_code 5 = .ok (.iload_n 1, 1) := am_row (r := (5, .iload_n 1, 1)) ro_Mod_reader 3 rfl
theorem d_Mod_reader_6 : decode prog_13_method_14_code 6 = .ok (.ifCond .lt 25, 3) := am_row (r := (6, .ifCond .lt 25, 3)) ro_Mod_reader 4 rfl
theorem d_Mod_reader_9 : decode prog_13_method_14_code 9 = .ok (.iload_n 1, 1) := am_row (r := (9, .iload_n 1, 1)) ro_Mod_reader 5 rfl
theorem d_Mod_reader_10 : decode prog_13_method_14_code 10 = .ok (.aload_n 0, 1) := am_row (r := (10, .aload_n 0, 1)) ro_Mod_reader 6 rfl
theorem d_Mod_reader_11 : decode prog_13_method_14_code 11 = .ok (.getfield 9, 3) := am_row (r := (11, .getfield 9, 3)) ro_Mod_reader 7 rfl
theorem d_Mod_reader_14 : decode prog_13_method_14_code 14 = .ok (.iconst 1, 1) := am_row (r := (14, .iconst 1, 1)) ro_Mod_reader 8 rfl
theorem d_Mod_reader_15 : decode prog_13_method_14_code 15 = .ok (.iaload, 1) := am_row (r := (15, .iaload, 1)) ro_Mod_reader 9 rfl
theorem d_Mod_reader_16 : decode prog_13_method_14_code 16 = .ok (.if_icmp .ge 15, 3) := am_row (r := (16, .if_icmp .ge 15, 3)) ro_Mod_reader 10 rfl
theorem d_Mod_reader_19 : decode prog_13_method_14_code 19 = .ok (.iload_n 2, 1) := am_row (r := (19, .iload_n 2, 1)) ro_Mod_reader 11 rfl
theorem d_Mod_reader_20 : decode prog_13_method_14_code 20 = .ok (.ifCond .lt 11, 3) := am_row (r := (20, .ifCond .lt 11, 3)) ro_Mod_reader 12 rfl
theorem d_Mod_reader_23 : decode prog_13_method_14_code 23 = .ok (.iload_n 2, 1) := am_row (r := (23, .iload_n 2, 1)) ro_Mod_reader 13 rfl
theorem d_Mod_reader_24 : decode prog_13_method_14_code 24 = .ok (.aload_n 0, 1) := am_row (r := (24, .aload_n 0, 1)) ro_Mod_reader 14 rfl
theorem d_Mod_reader_25 : decode prog_13_method_14_code 25 = .ok (.invokevirtual 93, 3) := am_row (r := (25, .invokevirtual 93, 3)) ro_Mod_reader 15 rfl
theorem d_Mod_reader_28 : decode prog_13_method_14_code 28 = .ok (.if_icmp .lt 9, 3) := am_row (r := (28, .if_icmp .lt 9, 3)) ro_Mod_reader 16 rfl
theorem d_Mod_reader_31 : decode prog_13_method_14_code 31 = .ok (.aload_n 0, 1) := am_row (r := (31, .aload_n 0, 1)) ro_Mod_reader 17 rfl
theorem d_Mod_reader_32 : decode prog_13_method_14_code 32 = .ok (.iconst 1, 1) := am_row (r := (32, .iconst 1, 1)) ro_Mod_reader 18 rfl
theorem d_Mod_reader_33 : decode prog_13_method_14_code 33 = .ok (.invokevirtual 75, 3) := am_row (r := (33, .invokevirtual 75, 3)) ro_Mod_reader 19 rfl
theorem d_Mod_reader_36 : decode prog_13_method_14_code 36 = .ok (.ireturn, 1) := am_row (r := (36, .ireturn, 1)) ro_Mod_reader 20 rfl
theorem d_Mod_reader_37 : decode prog_13_method_14_code 37 = .ok (.aload_n 0, 1) := am_row (r := (37, .aload_n 0, 1)) ro_Mod_reader 21 rfl
theorem d_Mod_reader_38 : decode prog_13_method_14_code 38 = .ok (.invokevirtual 96, 3) := am_row (r := (38, .invokevirtual 96, 3)) ro_Mod_reader 22 rfl
theorem d_Mod_reader_41 : decode prog_13_method_14_code 41 = .ok (.bipush 10, 2) := am_row (r := (41, .bipush 10, 2)) ro_Mod_reader 23 rfl
theorem d_Mod_reader_43 : decode prog_13_method_14_code 43 = .ok (.if_icmp .ne 9, 3) := am_row (r := (43, .if_icmp .ne 9, 3)) ro_Mod_reader 24 rfl
theorem d_Mod_reader_46 : decode prog_13_method_14_code 46 = .ok (.aload_n 0, 1) := am_row (r := (46, .aload_n 0, 1)) ro_Mod_reader 25 rfl
theorem d_Mod_reader_47 : decode prog_13_method_14_code 47 = .ok (.iconst 4, 1) := am_row (r := (47, .iconst 4, 1)) ro_Mod_reader 26 rfl
theorem d_Mod_reader_48 : decode prog_13_method_14_code 48 = .ok (.invokevirtual 75, 3) := am_row (r := (48, .invokevirtual 75, 3)) ro_Mod_reader 27 rfl
theorem d_Mod_reader_51 : decode prog_13_method_14_code 51 = .ok (.ireturn, 1) := am_row (r := (51, .ireturn, 1)) ro_Mod_reader 28 rfl
theorem d_Mod_reader_52 : decode prog_13_method_14_code 52 = .ok (.aload_n 0, 1) := am_row (r := (52, .aload_n 0, 1)) ro_Mod_reader 29 rfl
theorem d_Mod_reader_53 : decode prog_13_method_14_code 53 = .ok (.invokevirtual 82, 3) := am_row (r := (53, .invokevirtual 82, 3)) ro_Mod_reader 30 rfl
theorem d_Mod_reader_56 : decode prog_13_method_14_code 56 = .ok (.aload_n 0, 1) := am_row (r := (56, .aload_n 0, 1)) ro_Mod_reader 31 rfl
theorem d_Mod_reader_57 : decode prog_13_method_14_code 57 = .ok (.getfield 13, 3) := am_row (r := (57, .getfield 13, 3)) ro_Mod_reader 32 rfl
theorem d_Mod_reader_60 : decode prog_13_method_14_code 60 = .ok (.aload_n 0, 1) := am_row (r := (60, .aload_n 0, 1)) ro_Mod_reader 33 rfl
theorem d_Mod_reader_61 : decode prog_13_method_14_code 61 = .ok (.getfield 9, 3) := am_row (r := (61, .getfield 9, 3)) ro_Mod_reader 34 rfl
theorem d_Mod_reader_64 : decode prog_13_method_14_code 64 = .ok (.iconst 2, 1) := am_row (r := (64, .iconst 2, 1)) ro_Mod_reader 35 rfl
theorem d_Mod_reader_65 : decode prog_13_method_14_code 65 = .ok (.iaload, 1) := am_row (r := (65, .iaload, 1)) ro_Mod_reader 36 rfl
theorem d_Mod_reader_66 : decode prog_13_method_14_code 66 = .ok (.iload_n 1, 1) := am_row (r := (66, .iload_n 1, 1)) ro_Mod_reader 37 rfl
theorem d_Mod_reader_67 : decode prog_13_method_14_code 67 = .ok (.iastore, 1) := am_row (r := (67, .iastore, 1)) ro_Mod_reader 38 rfl
theorem d_Mod_reader_68 : decode prog_13_method_14_code 68 = .ok (.aload_n 0, 1) := am_row (r := (68, .aload_n 0, 1)) ro_Mod_reader 39 rfl
theorem d_Mod_reader_69 : decode prog_13_method_14_code 69 = .ok (.getfield 16, 3) := am_row (r := (69, .getfield 16, 3)) ro_Mod_reader 40 rfl
theorem d_Mod_reader_72 : decode prog_13_method_14_code 72 = .ok (.aload_n 0, 1) := am_row (r := (72, .aload_n 0, 1)) ro_Mod_reader 41 rfl
theorem d_Mod_reader_73 : decode prog_13_method_14_code 73 = .ok (.getfield 9, 3) := am_row (r := (73, .getfield 9, 3)) ro_Mod_reader 42 rfl
theorem d_Mod_reader_76 : decode prog_13_method_14_code 76 = .ok (.iconst 2, 1) := am_row (r := (76, .iconst 2, 1)) ro_Mod_reader 43 rfl
theorem d_Mod_reader_77 : decode prog_13_method_14_code 77 = .ok (.iaload, 1) := am_row (r := (77, .iaload, 1)) ro_Mod_reader 44 rfl
theorem d_Mod_reader_78 : decode prog_13_method_14_code 78 = .ok (.iload_n 2, 1) := am_row (r := (78, .iload_n 2, 1)) ro_Mod_reader 45 rfl
theorem d_Mod_reader_79 : decode prog_13_method_14_code 79 = .ok (.iastore, 1) := am_row (r := (79, .iastore, 1)) ro_Mod_reader 46 rfl
theorem d_Mod_reader_80 : decode prog_13_method_14_code 80 = .ok (.aload_n 0, 1) := am_row (r := (80, .aload_n 0, 1)) ro_Mod_reader 47 rfl
theorem d_Mod_reader_81 : decode prog_13_method_14_code 81 = .ok (.getfield 9, 3) := am_row (r := (81, .getfield 9, 3)) ro_Mod_reader 48 rfl
theorem d_Mod_reader_84 : decode prog_13_method_14_code 84 = .ok (.iconst 2, 1) := am_row (r := (84, .iconst 2, 1)) ro_Mod_reader 49 rfl
theorem d_Mod_reader_85 : decode prog_13_method_14_code 85 = .ok (.dup2, 1) := am_row (r := (85, .dup2, 1)) ro_Mod_reader 50 rfl
theorem d_Mod_reader_86 : decode prog_13_method_14_code 86 = .ok (.iaload, 1) := am_row (r := (86, .iaload, 1)) ro_Mod_reader 51 rfl
theorem d_Mod_reader_87 : decode prog_13_method_14_code 87 = .ok (.iconst 1, 1) := am_row (r := (87, .iconst 1, 1)) ro_Mod_reader 52 rfl
theorem d_Mod_reader_88 : decode prog_13_method_14_code 88 = .ok (.iadd, 1) := am_row (r := (88, .iadd, 1)) ro_Mod_reader 53 rfl
theorem d_Mod_reader_89 : decode prog_13_method_14_code 89 = .ok (.iastore, 1) := am_row (r := (89, .iastore, 1)) ro_Mod_reader 54 rfl
theorem d_Mod_reader_90 : decode prog_13_method_14_code 90 = .ok (.aload_n 0, 1) := am_row (r := (90, .aload_n 0, 1)) ro_Mod_reader 55 rfl
theorem d_Mod_reader_91 : decode prog_13_method_14_code 91 = .ok (.getfield 9, 3) := am_row (r := (91, .getfield 9, 3)) ro_Mod_reader 56 rfl
theorem d_Mod_reader_94 : decode prog_13_method_14_code 94 = .ok (.iconst 2, 1) := am_row (r := (94, .iconst 2, 1)) ro_Mod_reader 57 rfl
theorem d_Mod_reader_95 : decode prog_13_method_14_code 95 = .ok (.iaload, 1) := am_row (r := (95, .iaload, 1)) ro_Mod_reader 58 rfl
theorem d_Mod_reader_96 : decode prog_13_method_14_code 96 = .ok (.iconst 1, 1) := am_row (r := (96, .iconst 1, 1)) ro_Mod_reader 59 rfl
theorem d_Mod_reader_97 : decode prog_13_method_14_code 97 = .ok (.isub, 1) := am_row (r := (97, .isub, 1)) ro_Mod_reader 60 rfl
theorem d_Mod_reader_98 : decode prog_13_method_14_code 98 = .ok (.ireturn, 1) := am_row (r := (98, .ireturn, 1)) ro_Mod_reader 61 rfl
abbrev y_Mod_lift : MethodName := ⟨"WheelDiscModel", "lift", "(I)I"⟩
theorem c_Mod_lift : Cond.code y_Mod_lift prog_13_method_15_code 3 (some .int) ∈ am_T := am_mem 1087 (by decide +kernel) rfl
def rw_Mod_lift : List (Nat × Instr × Nat) := [(0, .aload_n 0, 1), (1, .iconst 0, 1), (2, .putfield 62, 3), (5, .iload_n 1, 1), (6, .ifCond .lt 11, 3), (9, .iload_n 1, 1), (10, .aload_n 0, 1), (11, .invokevirtual 96, 3), (14, .if_icmp .lt 9, 3), (17, .aload_n 0, 1), (18, .iconst 1, 1), (19, .invokevirtual 75, 3), (22, .ireturn, 1), (23, .aload_n 0, 1), (24, .invokevirtual 82, 3), (27, .iload_n 1, 1), (28, .istore_n 2, 1), (29, .iload_n 2, 1), (30, .iconst 1, 1), (31, .iadd, 1), (32, .aload_n 0, 1), (33, .invokevirtual 96, 3), (36, .if_icmp .ge 37, 3), (39, .aload_n 0, 1), (40, .getfield 13, 3), (43, .iload_n 2, 1), (44, .aload_n 0, 1), (45, .getfield 13, 3), (48, .iload_n 2, 1), (49, .iconst 1, 1), (50, .iadd, 1), (51, .iaload, 1), (52, .iastore, 1), (53, .aload_n 0, 1), (54, .getfield 16, 3), (57, .iload_n 2, 1), (58, .aload_n 0, 1), (59, .getfield 16, 3), (62, .iload_n 2, 1), (63, .iconst 1, 1), (64, .iadd, 1), (65, .iaload, 1), (66, .iastore, 1), (67, .iinc 2 1, 3), (70, .goto (-41), 3), (73, .aload_n 0, 1), (74, .getfield 9, 3), (77, .iconst 2, 1), (78, .dup2, 1), (79, .iaload, 1), (80, .iconst 1, 1), (81, .isub, 1), (82, .iastore, 1), (83, .aload_n 0, 1), (84, .getfield 9, 3), (87, .iconst 2, 1), (88, .iaload, 1), (89, .ireturn, 1)]
theorem ro_Mod_lift : rw_Mod_lift.all (fun r => decide (decode prog_13_method_15_code r.1 = .ok r.2)) = true := by decide +kernel
theorem d_Mod_lift_0 : decode prog_13_method_15_code 0 = .ok (.aload_n 0, 1) := am_row (r := (0, .aload_n 0, 1)) ro_Mod_lift 0 rfl
theorem d_Mod_lift_1 : decode prog_13_method_15_code 1 = .ok (.iconst 0, 1) := am_row (r := (1, .iconst 0, 1)) ro_Mod_lift 1 rfl
theorem d_Mod_lift_2 : decode prog_13_method_15_code 2 = .ok (.putfield 62, 3) := am_row (r := (2, .putfield 62, 3)) ro_Mod_lift 2 rfl
theorem d_Mod_lift_5 : decode prog_13_method_15_code 5 = .ok (.iload_n 1, 1) := am_row (r := (5, .iload_n 1, 1)) ro_Mod_lift 3 rfl
theorem d_Mod_lift_6 : decode prog_13_method_15_code 6 = .ok (.ifCond .lt 11, 3) := am_row (r := (6, .ifCond .lt 11, 3)) ro_Mod_lift 4 rfl
theorem d_Mod_lift_9 : decode prog_13_method_15_code 9 = .ok (.iload_n 1, 1) := am_row (r := (9, .iload_n 1, 1)) ro_Mod_lift 5 rfl
theorem d_Mod_lift_10 : decode prog_13_method_15_code 10 = .ok (.aload_n 0, 1) := am_row (r := (10, .aload_n 0, 1)) ro_Mod_lift 6 rfl
theorem d_Mod_lift_11 : decode prog_13_method_15_code 11 = .ok (.invokevirtual 96, 3) := am_row (r := (11, .invokevirtual 96, 3)) ro_Mod_lift 7 rfl
theorem d_Mod_lift_14 : decode prog_13_method_15_code 14 = .ok (.if_icmp .lt 9, 3) := am_row (r := (14, .if_icmp .lt 9, 3)) ro_Mod_lift 8 rfl
theorem d_Mod_lift_17 : decode prog_13_method_15_code 17 = .ok (.aload_n 0, 1) := am_row (r := (17, .aload_n 0, 1)) ro_Mod_lift 9 rfl
theorem d_Mod_lift_18 : decode prog_13_method_15_code 18 = .ok (.iconst 1, 1) := am_row (r := (18, .iconst 1, 1)) ro_Mod_lift 10 rfl
theorem d_Mod_lift_19 : decode prog_13_method_15_code 19 = .ok (.invokevirtual 75, 3) := am_row (r := (19, .invokevirtual 75, 3)) ro_Mod_lift 11 rfl
theorem d_Mod_lift_22 : decode prog_13_method_15_code 22 = .ok (.ireturn, 1) := am_row (r := (22, .ireturn, 1)) ro_Mod_lift 12 rfl
theorem d_Mod_lift_23 : decode prog_13_method_15_code 23 = .ok (.aload_n 0, 1) := am_row (r := (23, .aload_n 0, 1)) ro_Mod_lift 13 rfl
theorem d_Mod_lift_24 : decode prog_13_method_15_code 24 = .ok (.invokevirtual 82, 3) := am_row (r := (24, .invokevirtual 82, 3)) ro_Mod_lift 14 rfl
theorem d_Mod_lift_27 : decode prog_13_method_15_code 27 = .ok (.iload_n 1, 1) := am_row (r := (27, .iload_n 1, 1)) ro_Mod_lift 15 rfl
theorem d_Mod_lift_28 : decode prog_13_method_15_code 28 = .ok (.istore_n 2, 1) := am_row (r := (28, .istore_n 2, 1)) ro_Mod_lift 16 rfl
theorem d_Mod_lift_29 : decode prog_13_method_15_code 29 = .ok (.iload_n 2, 1) := am_row (r := (29, .iload_n 2, 1)) ro_Mod_lift 17 rfl
theorem d_Mod_lift_30 : decode prog_13_method_15_code 30 = .ok (.iconst 1, 1) := am_row (r := (30, .iconst 1, 1)) ro_Mod_lift 18 rfl
theorem d_Mod_lift_31 : decode prog_13_method_15_code 31 = .ok (.iadd, 1) := am_row (r := (31, .iadd, 1)) ro_Mod_lift 19 rfl
theorem d_Mod_lift_32 : decode prog_13_method_15_code 32 = .ok (.aload_n 0, 1) := am_row (r := (32, .aload_n 0, 1)) ro_Mod_lift 20 rfl
theorem d_Mod_lift_33 : decode prog_13_method_15_code 33 = .ok (.invokevirtual 96, 3) := am_row (r := (33, .invokevirtual 96, 3)) ro_Mod_lift 21 rfl
theorem d_Mod_lift_36 : decode prog_13_method_15_code 36 = .ok (.if_icmp .ge 37, 3) := am_row (r := (36, .if_icmp .ge 37, 3)) ro_Mod_lift 22 rfl
theorem d_Mod_lift_39 : decode prog_13_method_15_code 39 = .ok (.aload_n 0, 1) := am_row (r := (39, .aload_n 0, 1)) ro_Mod_lift 23 rfl
theorem d_Mod_lift_40 : decode prog_13_method_15_code 40 = .ok (.getfield 13, 3) := am_row (r := (40, .getfield 13, 3)) ro_Mod_lift 24 rfl
theorem d_Mod_lift_43 : decode prog_13_method_15_code 43 = .ok (.iload_n 2, 1) := am_row (r := (43, .iload_n 2, 1)) ro_Mod_lift 25 rfl
theorem d_Mod_lift_44 : decode prog_13_method_15_code 44 = .ok (.aload_n 0, 1) := am_row (r := (44, .aload_n 0, 1)) ro_Mod_lift 26 rfl
theorem d_Mod_lift_45 : decode prog_13_method_15_code 45 = .ok (.getfield 13, 3) := am_row (r := (45, .getfield 13, 3)) ro_Mod_lift 27 rfl
theorem d_Mod_lift_48 : decode prog_13_method_15_code 48 = .ok (.iload_n 2, 1) := am_row (r := (48, .iload_n 2, 1)) ro_Mod_lift 28 rfl
theorem d_Mod_lift_49 : decode prog_13_method_15_code 49 = .ok (.iconst 1, 1) := am_row (r := (49, .iconst 1, 1)) ro_Mod_lift 29 rfl
theorem d_Mod_lift_50 : decode prog_13_method_15_code 50 = .ok (.iadd, 1) := am_row (r := (50, .iadd, 1)) ro_Mod_lift 30 rfl
theorem d_Mod_lift_51 : decode prog_13_method_15_code 51 = .ok (.iaload, 1) := am_row (r := (51, .iaload, 1)) ro_Mod_lift 31 rfl
theorem d_Mod_lift_52 : decode prog_13_method_15_code 52 = .ok (.iastore, 1) := am_row (r := (52, .iastore, 1)) ro_Mod_lift 32 rfl
theorem d_Mod_lift_53 : decode prog_13_method_15_code 53 = .ok (.aload_n 0, 1) := am_row (r := (53, .aload_n 0, 1)) ro_Mod_lift 33 rfl
theorem d_Mod_lift_54 : decode prog_13_method_15_code 54 = .ok (.getfield 16, 3) := am_row (r := (54, .getfield 16, 3)) ro_Mod_lift 34 rfl
theorem d_Mod_lift_57 : decode prog_13_method_15_code 57 = .ok (.iload_n 2, 1) := am_row (r := (57, .iload_n 2, 1)) ro_Mod_lift 35 rfl
theorem d_Mod_lift_58 : decode prog_13_method_15_code 58 = .ok (.aload_n 0, 1) := am_row (r := (58, .aload_n 0, 1)) ro_Mod_lift 36 rfl
theorem d_Mod_lift_59 : decode prog_13_method_15_code 59 = .ok (.getfield 16, 3) := am_row (r := (59, .getfield 16, 3)) ro_Mod_lift 37 rfl
theorem d_Mod_lift_62 : decode prog_13_method_15_code 62 = .ok (.iload_n 2, 1) := am_row (r := (62, .iload_n 2, 1)) ro_Mod_lift 38 rfl
theorem d_Mod_lift_63 : decode prog_13_method_15_code 63 = .ok (.iconst 1, 1) := am_row (r := (63, .iconst 1, 1)) ro_Mod_lift 39 rfl
theorem d_Mod_lift_64 : decode prog_13_method_15_code 64 = .ok (.iadd, 1) := am_row (r := (64, .iadd, 1)) ro_Mod_lift 40 rfl
theorem d_Mod_lift_65 : decode prog_13_method_15_code 65 = .ok (.iaload, 1) := am_row (r := (65, .iaload, 1)) ro_Mod_lift 41 rfl
theorem d_Mod_lift_66 : decode prog_13_method_15_code 66 = .ok (.iastore, 1) := am_row (r := (66, .iastore, 1)) ro_Mod_lift 42 rfl
theorem d_Mod_lift_67 : decode prog_13_method_15_code 67 = .ok (.iinc 2 1, 3) := am_row (r := (67, .iinc 2 1, 3)) ro_Mod_lift 43 rfl
theorem d_Mod_lift_70 : decode prog_13_method_15_code 70 = .ok (.goto (-41), 3) := am_row (r := (70, .goto (-41), 3)) ro_Mod_lift 44 rfl
theorem d_Mod_lift_73 : decode prog_13_method_15_code 73 = .ok (.aload_n 0, 1) := am_row (r := (73, .aload_n 0, 1)) ro_Mod_lift 45 rfl
theorem d_Mod_lift_74 : decode prog_13_method_15_code 74 = .ok (.getfield 9, 3) := am_row (r := (74, .getfield 9, 3)) ro_Mod_lift 46 rfl
theorem d_Mod_lift_77 : decode prog_13_method_15_code 77 = .ok (.iconst 2, 1) := am_row (r := (77, .iconst 2, 1)) ro_Mod_lift 47 rfl
theorem d_Mod_lift_78 : decode prog_13_method_15_code 78 = .ok (.dup2, 1) := am_row (r := (78, .dup2, 1)) ro_Mod_lift 48 rfl
theorem d_Mod_lift_79 : decode prog_13_method_15_code 79 = .ok (.iaload, 1) := am_row (r := (79, .iaload, 1)) ro_Mod_lift 49 rfl
theorem d_Mod_lift_80 : decode prog_13_method_15_code 80 = .ok (.iconst 1, 1) := am_row (r := (80, .iconst 1, 1)) ro_Mod_lift 50 rfl
theorem d_Mod_lift_81 : decode prog_13_method_15_code 81 = .ok (.isub, 1) := am_row (r := (81, .isub, 1)) ro_Mod_lift 51 rfl
theorem d_Mod_lift_82 : decode prog_13_method_15_code 82 = .ok (.iastore, 1) := am_row (r := (82, .iastore, 1)) ro_Mod_lift 52 rfl
theorem d_Mod_lift_83 : decode prog_13_method_15_code 83 = .ok (.aload_n 0, 1) := am_row (r := (83, .aload_n 0, 1)) ro_Mod_lift 53 rfl
theorem d_Mod_lift_84 : decode prog_13_method_15_code 84 = .ok (.getfield 9, 3) := am_row (r := (84, .getfield 9, 3)) ro_Mod_lift 54 rfl
theorem d_Mod_lift_87 : decode prog_13_method_15_code 87 = .ok (.iconst 2, 1) := am_row (r := (87, .iconst 2, 1)) ro_Mod_lift 55 rfl
theorem d_Mod_lift_88 : decode prog_13_method_15_code 88 = .ok (.iaload, 1) := am_row (r := (88, .iaload, 1)) ro_Mod_lift 56 rfl
theorem d_Mod_lift_89 : decode prog_13_method_15_code 89 = .ok (.ireturn, 1) := am_row (r := (89, .ireturn, 1)) ro_Mod_lift 57 rfl
abbrev y_Mod_turnBy : MethodName := ⟨"WheelDiscModel", "turnBy", "(I)V"⟩
theorem c_Mod_turnBy : Cond.code y_Mod_turnBy prog_13_method_16_code 4 none ∈ am_T := am_mem 1095 (by decide +kernel) rfl
def rw_Mod_turnBy : List (Nat × Instr × Nat) := [(0, .iconst 0, 1), (1, .istore_n 2, 1), (2, .iload_n 2, 1), (3, .aload_n 0, 1), (4, .getfield 9, 3), (7, .iconst 1, 1), (8, .iaload, 1), (9, .if_icmp .ge 84, 3), (12, .iconst 0, 1), (13, .istore_n 3, 1), (14, .iload_n 3, 1), (15, .aload_n 0, 1), (16, .invokevirtual 93, 3), (19, .if_icmp .ge 34, 3), (22, .aload_n 0, 1), (23, .getfield 50, 3), (26, .iload_n 3, 1), (27, .aload_n 0, 1), (28, .getfield 20, 3), (31, .sipush 512, 3), (34, .iload_n 2, 1), (35, .imul, 1), (36, .iload_n 3, 1), (37, .iload_n 1, 1), (38, .iadd, 1), (39, .aload_n 0, 1), (40, .invokevirtual 93, 3), (43, .irem, 1), (44, .iadd, 1), (45, .baload, 1), (46, .bastore, 1), (47, .iinc 3 1, 3), (50, .goto (-36), 3), (53, .iconst 0, 1), (54, .istore_n 3, 1), (55, .iload_n 3, 1), (56, .aload_n 0, 1), (57, .invokevirtual 93, 3), (60, .if_icmp .ge 27, 3), (63, .aload_n 0, 1), (64, .getfield 20, 3), (67, .sipush 512, 3), (70, .iload_n 2, 1), (71, .imul, 1), (72, .iload_n 3, 1), (73, .iadd, 1), (74, .aload_n 0, 1), (75, .getfield 50, 3), (78, .iload_n 3, 1), (79, .baload, 1), (80, .bastore, 1), (81, .iinc 3 1, 3), (84, .goto (-29), 3), (87, .iinc 2 1, 3), (90, .goto (-88), 3), (93, .return_, 1)]
theorem ro_Mod_turnBy : rw_Mod_turnBy.all (fun r => decide (decode prog_13_method_16_code r.1 = .ok r.2)) = true := by decide +kernel
theorem d_Mod_turnBy_0 : decode prog_13_method_16_code 0 = .ok (.iconst 0, 1) := am_row (r := (0, .iconst 0, 1)) ro_Mod_turnBy 0 rfl
theorem d_Mod_turnBy_1 : decode prog_13_method_16_code 1 = .ok (.istore_n 2, 1) := am_row (r := (1, .istore_n 2, 1)) ro_Mod_turnBy 1 rfl
theorem d_Mod_turnBy_2 : decode prog_13_method_16_code 2 = .ok (.iload_n 2, 1) := am_row (r := (2, .iload_n 2, 1)) ro_Mod_turnBy 2 rfl
theorem d_Mod_turnBy_3 : decode prog_13_method_16_code 3 = .ok (.aload_n 0, 1) := am_row (r := (3, .aload_n 0, 1)) ro_Mod_turnBy 3 rfl
theorem d_Mod_turnBy_4 : decode prog_13_method_16_code 4 = .ok (.getfield 9, 3) := am_row (r := (4, .getfield 9, 3)) ro_Mod_turnBy 4 rfl
theorem d_Mod_turnBy_7 : decode prog_13_method_16_code 7 = .ok (.iconst 1, 1) := am_row (r := (7, .iconst 1, 1)) ro_Mod_turnBy 5 rfl
theorem d_Mod_turnBy_8 : decode prog_13_method_16_code 8 = .ok (.iaload, 1) := am_row (r := (8, .iaload, 1)) ro_Mod_turnBy 6 rfl
theorem d_Mod_turnBy_9 : decode prog_13_method_16_code 9 = .ok (.if_icmp .ge 84, 3) := am_row (r := (9, .if_icmp .ge 84, 3)) ro_Mod_turnBy 7 rfl
theorem d_Mod_turnBy_12 : decode prog_13_method_16_code 12 = .ok (.iconst 0, 1) := am_row (r := (12, .iconst 0, 1)) ro_Mod_turnBy 8 rfl
theorem d_Mod_turnBy_13 : decode prog_13_method_16_code 13 = .ok (.istore_n 3, 1) := am_row (r := (13, .istore_n 3, 1)) ro_Mod_turnBy 9 rfl
theorem d_Mod_turnBy_14 : decode prog_13_method_16_code 14 = .ok (.iload_n 3, 1) := am_row (r := (14, .iload_n 3, 1)) ro_Mod_turnBy 10 rfl
theorem d_Mod_turnBy_15 : decode prog_13_method_16_code 15 = .ok (.aload_n 0, 1) := am_row (r := (15, .aload_n 0, 1)) ro_Mod_turnBy 11 rfl
theorem d_Mod_turnBy_16 : decode prog_13_method_16_code 16 = .ok (.invokevirtual 93, 3) := am_row (r := (16, .invokevirtual 93, 3)) ro_Mod_turnBy 12 rfl
theorem d_Mod_turnBy_19 : decode prog_13_method_16_code 19 = .ok (.if_icmp .ge 34, 3) := am_row (r := (19, .if_icmp .ge 34, 3)) ro_Mod_turnBy 13 rfl
theorem d_Mod_turnBy_22 : decode prog_13_method_16_code 22 = .ok (.aload_n 0, 1) := am_row (r := (22, .aload_n 0, 1)) ro_Mod_turnBy 14 rfl
theorem d_Mod_turnBy_23 : decode prog_13_method_16_code 23 = .ok (.getfield 50, 3) := am_row (r := (23, .getfield 50, 3)) ro_Mod_turnBy 15 rfl
theorem d_Mod_turnBy_26 : decode prog_13_method_16_code 26 = .ok (.iload_n 3, 1) := am_row (r := (26, .iload_n 3, 1)) ro_Mod_turnBy 16 rfl
theorem d_Mod_turnBy_27 : decode prog_13_method_16_code 27 = .ok (.aload_n 0, 1) := am_row (r := (27, .aload_n 0, 1)) ro_Mod_turnBy 17 rfl
theorem d_Mod_turnBy_28 : decode prog_13_method_16_code 28 = .ok (.getfield 20, 3) := am_row (r := (28, .getfield 20, 3)) ro_Mod_turnBy 18 rfl
theorem d_Mod_turnBy_31 : decode prog_13_method_16_code 31 = .ok (.sipush 512, 3) := am_row (r := (31, .sipush 512, 3)) ro_Mod_turnBy 19 rfl
theorem d_Mod_turnBy_34 : decode prog_13_method_16_code 34 = .ok (.iload_n 2, 1) := am_row (r := (34, .iload_n 2, 1)) ro_Mod_turnBy 20 rfl
theorem d_Mod_turnBy_35 : decode prog_13_method_16_code 35 = .ok (.imul, 1) := am_row (r := (35, .imul, 1)) ro_Mod_turnBy 21 rfl
theorem d_Mod_turnBy_36 : decode prog_13_method_16_code 36 = .ok (.iload_n 3, 1) := am_row (r := (36, .iload_n 3, 1)) ro_Mod_turnBy 22 rfl
theorem d_Mod_turnBy_37 : decode prog_13_method_16_code 37 = .ok (.iload_n 1, 1) := am_row (r := (37, .iload_n 1, 1)) ro_Mod_turnBy 23 rfl
theorem d_Mod_turnBy_38 : decode prog_13_method_16_code 38 = .ok (.iadd, 1) := am_row (r := (38, .iadd, 1)) ro_Mod_turnBy 24 rfl
theorem d_Mod_turnBy_39 : decode prog_13_method_16_code 39 = .ok (.aload_n 0, 1) := am_row (r := (39, .aload_n 0, 1)) ro_Mod_turnBy 25 rfl
theorem d_Mod_turnBy_40 : decode prog_13_method_16_code 40 = .ok (.invokevirtual 93, 3) := am_row (r := (40, .invokevirtual 93, 3)) ro_Mod_turnBy 26 rfl
theorem d_Mod_turnBy_43 : decode prog_13_method_16_code 43 = .ok (.irem, 1) := am_row (r := (43, .irem, 1)) ro_Mod_turnBy 27 rfl
theorem d_Mod_turnBy_44 : decode prog_13_method_16_code 44 = .ok (.iadd, 1) := am_row (r := (44, .iadd, 1)) ro_Mod_turnBy 28 rfl
theorem d_Mod_turnBy_45 : decode prog_13_method_16_code 45 = .ok (.baload, 1) := am_row (r := (45, .baload, 1)) ro_Mod_turnBy 29 rfl
theorem d_Mod_turnBy_46 : decode prog_13_method_16_code 46 = .ok (.bastore, 1) := am_row (r := (46, .bastore, 1)) ro_Mod_turnBy 30 rfl
theorem d_Mod_turnBy_47 : decode prog_13_method_16_code 47 = .ok (.iinc 3 1, 3) := am_row (r := (47, .iinc 3 1, 3)) ro_Mod_turnBy 31 rfl
theorem d_Mod_turnBy_50 : decode prog_13_method_16_code 50 = .ok (.goto (-36), 3) := am_row (r := (50, .goto (-36), 3)) ro_Mod_turnBy 32 rfl
theorem d_Mod_turnBy_53 : decode prog_13_method_16_code 53 = .ok (.iconst 0, 1) := am_row (r := (53, .iconst 0, 1)) ro_Mod_turnBy 33 rfl
theorem d_Mod_turnBy_54 : decode prog_13_method_16_code 54 = .ok (.istore_n 3, 1) := am_row (r := (54, .istore_n 3, 1)) ro_Mod_turnBy 34 rfl
theorem d_Mod_turnBy_55 : decode prog_13_method_16_code 55 = .ok (.iload_n 3, 1) := am_row (r := (55, .iload_n 3, 1)) ro_Mod_turnBy 35 rfl
theorem d_Mod_turnBy_56 : decode prog_13_method_16_code 56 = .ok (.aload_n 0, 1) := am_row (r := (56, .aload_n 0, 1)) ro_Mod_turnBy 36 rfl
theorem d_Mod_turnBy_57 : decode prog_13_method_16_code 57 = .ok (.invokevirtual 93, 3) := am_row (r := (57, .invokevirtual 93, 3)) ro_Mod_turnBy 37 rfl
theorem d_Mod_turnBy_60 : decode prog_13_method_16_code 60 = .ok (.if_icmp .ge 27, 3) := am_row (r := (60, .if_icmp .ge 27, 3)) ro_Mod_turnBy 38 rfl
theorem d_Mod_turnBy_63 : decode prog_13_method_16_code 63 = .ok (.aload_n 0, 1) := am_row (r := (63, .aload_n 0, 1)) ro_Mod_turnBy 39 rfl
theorem d_Mod_turnBy_64 : decode prog_13_method_16_code 64 = .ok (.getfield 20, 3) := am_row (r := (64, .getfield 20, 3)) ro_Mod_turnBy 40 rfl
theorem d_Mod_turnBy_67 : decode prog_13_method_16_code 67 = .ok (.sipush 512, 3) := am_row (r := (67, .sipush 512, 3)) ro_Mod_turnBy 41 rfl
theorem d_Mod_turnBy_70 : decode prog_13_method_16_code 70 = .ok (.iload_n 2, 1) := am_row (r := (70, .iload_n 2, 1)) ro_Mod_turnBy 42 rfl
theorem d_Mod_turnBy_71 : decode prog_13_method_16_code 71 = .ok (.imul, 1) := am_row (r := (71, .imul, 1)) ro_Mod_turnBy 43 rfl
theorem d_Mod_turnBy_72 : decode prog_13_method_16_code 72 = .ok (.iload_n 3, 1) := am_row (r := (72, .iload_n 3, 1)) ro_Mod_turnBy 44 rfl
theorem d_Mod_turnBy_73 : decode prog_13_method_16_code 73 = .ok (.iadd, 1) := am_row (r := (73, .iadd, 1)) ro_Mod_turnBy 45 rfl
theorem d_Mod_turnBy_74 : decode prog_13_method_16_code 74 = .ok (.aload_n 0, 1) := am_row (r := (74, .aload_n 0, 1)) ro_Mod_turnBy 46 rfl
theorem d_Mod_turnBy_75 : decode prog_13_method_16_code 75 = .ok (.getfield 50, 3) := am_row (r := (75, .getfield 50, 3)) ro_Mod_turnBy 47 rfl
theorem d_Mod_turnBy_78 : decode prog_13_method_16_code 78 = .ok (.iload_n 3, 1) := am_row (r := (78, .iload_n 3, 1)) ro_Mod_turnBy 48 rfl
theorem d_Mod_turnBy_79 : decode prog_13_method_16_code 79 = .ok (.baload, 1) := am_row (r := (79, .baload, 1)) ro_Mod_turnBy 49 rfl
theorem d_Mod_turnBy_80 : decode prog_13_method_16_code 80 = .ok (.bastore, 1) := am_row (r := (80, .bastore, 1)) ro_Mod_turnBy 50 rfl
theorem d_Mod_turnBy_81 : decode prog_13_method_16_code 81 = .ok (.iinc 3 1, 3) := am_row (r := (81, .iinc 3 1, 3)) ro_Mod_turnBy 51 rfl
theorem d_Mod_turnBy_84 : decode prog_13_method_16_code 84 = .ok (.goto (-29), 3) := am_row (r := (84, .goto (-29), 3)) ro_Mod_turnBy 52 rfl
theorem d_Mod_turnBy_87 : decode prog_13_method_16_code 87 = .ok (.iinc 2 1, 3) := am_row (r := (87, .iinc 2 1, 3)) ro_Mod_turnBy 53 rfl
theorem d_Mod_turnBy_90 : decode prog_13_method_16_code 90 = .ok (.goto (-88), 3) := am_row (r := (90, .goto (-88), 3)) ro_Mod_turnBy 54 rfl
theorem d_Mod_turnBy_93 : decode prog_13_method_16_code 93 = .ok (.return_, 1) := am_row (r := (93, .return_, 1)) ro_Mod_turnBy 55 rfl
abbrev y_Mod_turn : MethodName := ⟨"WheelDiscModel", "turn", "(I)Z"⟩
theorem c_Mod_turn : Cond.code y_Mod_turn prog_13_method_17_code 3 (some .boolean) ∈ am_T := am_mem 1091 (by decide +kernel) rfl
def rw_Mod_turn : List (Nat × Instr × Nat) := [(0, .aload_n 0, 1), (1, .iconst 0, 1), (2, .putfield 62, 3), (5, .aload_n 0, 1), (6, .invokevirtual 82, 3), (9, .iload_n 1, 1), (10, .aload_n 0, 1), (11, .invokevirtual 93, 3), (14, .irem, 1), (15, .istore_n 2, 1), (16, .aload_n 0, 1), (17, .iload_n 2, 1), (18, .ifCond .ge 12, 3), (21, .iload_n 2, 1), (22, .aload_n 0, 1), (23, .invokevirtual 93, 3), (26, .iadd, 1), (27, .goto 4, 3), (30, .iload_n 2, 1), (31, .invokevirtual 99, 3), (34, .iconst 1, 1), (35, .ireturn, 1)]
theorem ro_Mod_turn : rw_Mod_turn.all (fun r => decide (decode prog_13_method_17_code r.1 = .ok r.2)) = true := by decide +kernel
theorem d_Mod_turn_0 : decode prog_13_method_17_code 0 = .ok (.aload_n 0, 1) := am_row (r := (0, .aload_n 0, 1)) ro_Mod_turn 0 rfl
theorem d_Mod_turn_1 : decode prog_13_method_17_code 1 = .ok (.iconst 0, 1) := am_row (r := (1, .iconst 0, 1)) ro_Mod_turn 1 rfl
theorem d_Mod_turn_2 : decode prog_13_method_17_code 2 = .ok (.putfield 62, 3) := am_row (r := (2, .putfield 62, 3)) ro_Mod_turn 2 rfl
theorem d_Mod_turn_5 : decode prog_13_method_17_code 5 = .ok (.aload_n 0, 1) := am_row (r := (5, .aload_n 0, 1)) ro_Mod_turn 3 rfl
theorem d_Mod_turn_6 : decode prog_13_method_17_code 6 = .ok (.invokevirtual 82, 3) := am_row (r := (6, .invokevirtual 82, 3)) ro_Mod_turn 4 rfl
theorem d_Mod_turn_9 : decode prog_13_method_17_code 9 = .ok (.iload_n 1, 1) := am_row (r := (9, .iload_n 1, 1)) ro_Mod_turn 5 rfl
theorem d_Mod_turn_10 : decode prog_13_method_17_code 10 = .ok (.aload_n 0, 1) := am_row (r := (10, .aload_n 0, 1)) ro_Mod_turn 6 rfl
theorem d_Mod_turn_11 : decode prog_13_method_17_code 11 = .ok (.invokevirtual 93, 3) := am_row (r := (11, .invokevirtual 93, 3)) ro_Mod_turn 7 rfl
theorem d_Mod_turn_14 : decode prog_13_method_17_code 14 = .ok (.irem, 1) := am_row (r := (14, .irem, 1)) ro_Mod_turn 8 rfl
theorem d_Mod_turn_15 : decode prog_13_method_17_code 15 = .ok (.istore_n 2, 1) := am_row (r := (15, .istore_n 2, 1)) ro_Mod_turn 9 rfl
theorem d_Mod_turn_16 : decode prog_13_method_17_code 16 = .ok (.aload_n 0, 1) := am_row (r := (16, .aload_n 0, 1)) ro_Mod_turn 10 rfl
theorem d_Mod_turn_17 : decode prog_13_method_17_code 17 = .ok (.iload_n 2, 1) := am_row (r := (17, .iload_n 2, 1)) ro_Mod_turn 11 rfl
theorem d_Mod_turn_18 : decode prog_13_method_17_code 18 = .ok (.ifCond .ge 12, 3) := am_row (r := (18, .ifCond .ge 12, 3)) ro_Mod_turn 12 rfl
theorem d_Mod_turn_21 : decode prog_13_method_17_code 21 = .ok (.iload_n 2, 1) := am_row (r := (21, .iload_n 2, 1)) ro_Mod_turn 13 rfl
theorem d_Mod_turn_22 : decode prog_13_method_17_code 22 = .ok (.aload_n 0, 1) := am_row (r := (22, .aload_n 0, 1)) ro_Mod_turn 14 rfl
theorem d_Mod_turn_23 : decode prog_13_method_17_code 23 = .ok (.invokevirtual 93, 3) := am_row (r := (23, .invokevirtual 93, 3)) ro_Mod_turn 15 rfl
theorem d_Mod_turn_26 : decode prog_13_method_17_code 26 = .ok (.iadd, 1) := am_row (r := (26, .iadd, 1)) ro_Mod_turn 16 rfl
theorem d_Mod_turn_27 : decode prog_13_method_17_code 27 = .ok (.goto 4, 3) := am_row (r := (27, .goto 4, 3)) ro_Mod_turn 17 rfl
theorem d_Mod_turn_30 : decode prog_13_method_17_code 30 = .ok (.iload_n 2, 1) := am_row (r := (30, .iload_n 2, 1)) ro_Mod_turn 18 rfl
theorem d_Mod_turn_31 : decode prog_13_method_17_code 31 = .ok (.invokevirtual 99, 3) := am_row (r := (31, .invokevirtual 99, 3)) ro_Mod_turn 19 rfl
theorem d_Mod_turn_34 : decode prog_13_method_17_code 34 = .ok (.iconst 1, 1) := am_row (r := (34, .iconst 1, 1)) ro_Mod_turn 20 rfl
theorem d_Mod_turn_35 : decode prog_13_method_17_code 35 = .ok (.ireturn, 1) := am_row (r := (35, .ireturn, 1)) ro_Mod_turn 21 rfl
abbrev y_Mod_mirror : MethodName := ⟨"WheelDiscModel", "mirror", "()Z"⟩
theorem c_Mod_mirror : Cond.code y_Mod_mirror prog_13_method_18_code 3 (some .boolean) ∈ am_T := am_mem 1099 (by decide +kernel) rfl
def rw_Mod_mirror : List (Nat × Instr × Nat) := [(0, .aload_n 0, 1), (1, .iconst 0, 1), (2, .putfield 62, 3), (5, .aload_n 0, 1), (6, .invokevirtual 82, 3), (9, .iconst 0, 1), (10, .istore_n 1, 1), (11, .iload_n 1, 1), (12, .aload_n 0, 1), (13, .getfield 9, 3), (16, .iconst 1, 1), (17, .iaload, 1), (18, .if_icmp .ge 84, 3), (21, .iconst 0, 1), (22, .istore_n 2, 1), (23, .iload_n 2, 1), (24, .aload_n 0, 1), (25, .invokevirtual 93, 3), (28, .if_icmp .ge 34, 3), (31, .aload_n 0, 1), (32, .getfield 50, 3), (35, .iload_n 2, 1), (36, .aload_n 0, 1), (37, .getfield 20, 3), (40, .sipush 512, 3), (43, .iload_n 1, 1), (44, .imul, 1), (45, .aload_n 0, 1), (46, .invokevirtual 93, 3), (49, .iadd, 1), (50, .iconst 1, 1), (51, .isub, 1), (52, .iload_n 2, 1), (53, .isub, 1), (54, .baload, 1), (55, .bastore, 1), (56, .iinc 2 1, 3), (59, .goto (-36), 3), (62, .iconst 0, 1), (63, .istore_n 2, 1), (64, .iload_n 2, 1), (65, .aload_n 0, 1), (66, .invokevirtual 93, 3), (69, .if_icmp .ge 27, 3), (72, .aload_n 0, 1), (73, .getfield 20, 3), (76, .sipush 512, 3), (79, .iload_n 1, 1), (80, .imul, 1), (81, .iload_n 2, 1), (82, .iadd, 1), (83, .aload_n 0, 1), (84, .getfield 50, 3), (87, .iload_n 2, 1), (88, .baload, 1), (89, .bastore, 1), (90, .iinc 2 1, 3), (93, .goto (-29), 3), (96, .iinc 1 1, 3), (99, .goto (-88), 3), (102, .iconst 0, 1), (103, .istore_n 1, 1), (104, .iload_n 1, 1), (105, .aload_n 0, 1), (106, .invokevirtual 96, 3), (109, .if_icmp .ge 31, 3), (112, .aload_n 0, 1), (113, .getfield 16, 3), (116, .iload_n 1, 1), (117, .aload_n 0, 1), (118, .invokevirtual 93, 3), (121, .aload_n 0, 1), (122, .getfield 16, 3), (125, .iload_n 1, 1), (126, .iaload, 1), (127, .isub, 1), (128, .aload_n 0, 1), (129, .invokevirtual 93, 3), (132, .irem, 1), (133, .iastore, 1), (134, .iinc 1 1, 3), (137, .goto (-33), 3), (140, .iconst 1, 1), (141, .ireturn, 1)]
theorem ro_Mod_mirror : rw_Mod_mirror.all (fun r => decide (decode prog_13_method_18_code r.1 = .ok r.2)) = true := by decide +kernel
theorem d_Mod_mirror_0 : decode prog_13_method_18_code 0 = .ok (.aload_n 0, 1) := am_row (r := (0, .aload_n 0, 1)) ro_Mod_mirror 0 rfl
theorem d_Mod_mirror_1 : decode prog_13_method_18_code 1 = .ok (.iconst 0, 1) := am_row (r := (1, .iconst 0, 1)) ro_Mod_mirror 1 rfl
theorem d_Mod_mirror_2 : decode prog_13_method_18_code 2 = .ok (.putfield 62, 3) := am_row (r := (2, .putfield 62, 3)) ro_Mod_mirror 2 rfl
theorem d_Mod_mirror_5 : decode prog_13_method_18_code 5 = .ok (.aload_n 0, 1) := am_row (r := (5, .aload_n 0, 1)) ro_Mod_mirror 3 rfl
theorem d_Mod_mirror_6 : decode prog_13_method_18_code 6 = .ok (.invokevirtual 82, 3) := am_row (r := (6, .invokevirtual 82, 3)) ro_Mod_mirror 4 rfl
theorem d_Mod_mirror_9 : decode prog_13_method_18_code 9 = .ok (.iconst 0, 1) := am_row (r := (9, .iconst 0, 1)) ro_Mod_mirror 5 rfl
theorem d_Mod_mirror_10 : decode prog_13_method_18_code 10 = .ok (.istore_n 1, 1) := am_row (r := (10, .istore_n 1, 1)) ro_Mod_mirror 6 rfl
theorem d_Mod_mirror_11 : decode prog_13_method_18_code 11 = .ok (.iload_n 1, 1) := am_row (r := (11, .iload_n 1, 1)) ro_Mod_mirror 7 rfl
theorem d_Mod_mirror_12 : decode prog_13_method_18_code 12 = .ok (.aload_n 0, 1) := am_row (r := (12, .aload_n 0, 1)) ro_Mod_mirror 8 rfl
theorem d_Mod_mirror_13 : decode prog_13_method_18_code 13 = .ok (.getfield 9, 3) := am_row (r := (13, .getfield 9, 3)) ro_Mod_mirror 9 rfl
theorem d_Mod_mirror_16 : decode prog_13_method_18_code 16 = .ok (.iconst 1, 1) := am_row (r := (16, .iconst 1, 1)) ro_Mod_mirror 10 rfl
theorem d_Mod_mirror_17 : decode prog_13_method_18_code 17 = .ok (.iaload, 1) := am_row (r := (17, .iaload, 1)) ro_Mod_mirror 11 rfl
theorem d_Mod_mirror_18 : decode prog_13_method_18_code 18 = .ok (.if_icmp .ge 84, 3) := am_row (r := (18, .if_icmp .ge 84, 3)) ro_Mod_mirror 12 rfl
theorem d_Mod_mirror_21 : decode prog_13_method_18_code 21 = .ok (.iconst 0, 1) := am_row (r := (21, .iconst 0, 1)) ro_Mod_mirror 13 rfl
theorem d_Mod_mirror_22 : decode prog_13_method_18_code 22 = .ok (.istore_n 2, 1) := am_row (r := (22, .istore_n 2, 1)) ro_Mod_mirror 14 rfl
theorem d_Mod_mirror_23 : decode prog_13_method_18_code 23 = .ok (.iload_n 2, 1) := am_row (r := (23, .iload_n 2, 1)) ro_Mod_mirror 15 rfl
theorem d_Mod_mirror_24 : decode prog_13_method_18_code 24 = .ok (.aload_n 0, 1) := am_row (r := (24, .aload_n 0, 1)) ro_Mod_mirror 16 rfl
theorem d_Mod_mirror_25 : decode prog_13_method_18_code 25 = .ok (.invokevirtual 93, 3) := am_row (r := (25, .invokevirtual 93, 3)) ro_Mod_mirror 17 rfl
theorem d_Mod_mirror_28 : decode prog_13_method_18_code 28 = .ok (.if_icmp .ge 34, 3) := am_row (r := (28, .if_icmp .ge 34, 3)) ro_Mod_mirror 18 rfl
theorem d_Mod_mirror_31 : decode prog_13_method_18_code 31 = .ok (.aload_n 0, 1) := am_row (r := (31, .aload_n 0, 1)) ro_Mod_mirror 19 rfl
theorem d_Mod_mirror_32 : decode prog_13_method_18_code 32 = .ok (.getfield 50, 3) := am_row (r := (32, .getfield 50, 3)) ro_Mod_mirror 20 rfl
theorem d_Mod_mirror_35 : decode prog_13_method_18_code 35 = .ok (.iload_n 2, 1) := am_row (r := (35, .iload_n 2, 1)) ro_Mod_mirror 21 rfl
theorem d_Mod_mirror_36 : decode prog_13_method_18_code 36 = .ok (.aload_n 0, 1) := am_row (r := (36, .aload_n 0, 1)) ro_Mod_mirror 22 rfl
theorem d_Mod_mirror_37 : decode prog_13_method_18_code 37 = .ok (.getfield 20, 3) := am_row (r := (37, .getfield 20, 3)) ro_Mod_mirror 23 rfl
theorem d_Mod_mirror_40 : decode prog_13_method_18_code 40 = .ok (.sipush 512, 3) := am_row (r := (40, .sipush 512, 3)) ro_Mod_mirror 24 rfl
theorem d_Mod_mirror_43 : decode prog_13_method_18_code 43 = .ok (.iload_n 1, 1) := am_row (r := (43, .iload_n 1, 1)) ro_Mod_mirror 25 rfl
theorem d_Mod_mirror_44 : decode prog_13_method_18_code 44 = .ok (.imul, 1) := am_row (r := (44, .imul, 1)) ro_Mod_mirror 26 rfl
theorem d_Mod_mirror_45 : decode prog_13_method_18_code 45 = .ok (.aload_n 0, 1) := am_row (r := (45, .aload_n 0, 1)) ro_Mod_mirror 27 rfl
theorem d_Mod_mirror_46 : decode prog_13_method_18_code 46 = .ok (.invokevirtual 93, 3) := am_row (r := (46, .invokevirtual 93, 3)) ro_Mod_mirror 28 rfl
theorem d_Mod_mirror_49 : decode prog_13_method_18_code 49 = .ok (.iadd, 1) := am_row (r := (49, .iadd, 1)) ro_Mod_mirror 29 rfl
theorem d_Mod_mirror_50 : decode prog_13_method_18_code 50 = .ok (.iconst 1, 1) := am_row (r := (50, .iconst 1, 1)) ro_Mod_mirror 30 rfl
theorem d_Mod_mirror_51 : decode prog_13_method_18_code 51 = .ok (.isub, 1) := am_row (r := (51, .isub, 1)) ro_Mod_mirror 31 rfl
theorem d_Mod_mirror_52 : decode prog_13_method_18_code 52 = .ok (.iload_n 2, 1) := am_row (r := (52, .iload_n 2, 1)) ro_Mod_mirror 32 rfl
theorem d_Mod_mirror_53 : decode prog_13_method_18_code 53 = .ok (.isub, 1) := am_row (r := (53, .isub, 1)) ro_Mod_mirror 33 rfl
theorem d_Mod_mirror_54 : decode prog_13_method_18_code 54 = .ok (.baload, 1) := am_row (r := (54, .baload, 1)) ro_Mod_mirror 34 rfl
theorem d_Mod_mirror_55 : decode prog_13_method_18_code 55 = .ok (.bastore, 1) := am_row (r := (55, .bastore, 1)) ro_Mod_mirror 35 rfl
theorem d_Mod_mirror_56 : decode prog_13_method_18_code 56 = .ok (.iinc 2 1, 3) := am_row (r := (56, .iinc 2 1, 3)) ro_Mod_mirror 36 rfl
theorem d_Mod_mirror_59 : decode prog_13_method_18_code 59 = .ok (.goto (-36), 3) := am_row (r := (59, .goto (-36), 3)) ro_Mod_mirror 37 rfl
theorem d_Mod_mirror_62 : decode prog_13_method_18_code 62 = .ok (.iconst 0, 1) := am_row (r := (62, .iconst 0, 1)) ro_Mod_mirror 38 rfl
theorem d_Mod_mirror_63 : decode prog_13_method_18_code 63 = .ok (.istore_n 2, 1) := am_row (r := (63, .istore_n 2, 1)) ro_Mod_mirror 39 rfl
theorem d_Mod_mirror_64 : decode prog_13_method_18_code 64 = .ok (.iload_n 2, 1) := am_row (r := (64, .iload_n 2, 1)) ro_Mod_mirror 40 rfl
theorem d_Mod_mirror_65 : decode prog_13_method_18_code 65 = .ok (.aload_n 0, 1) := am_row (r := (65, .aload_n 0, 1)) ro_Mod_mirror 41 rfl
theorem d_Mod_mirror_66 : decode prog_13_method_18_code 66 = .ok (.invokevirtual 93, 3) := am_row (r := (66, .invokevirtual 93, 3)) ro_Mod_mirror 42 rfl
theorem d_Mod_mirror_69 : decode prog_13_method_18_code 69 = .ok (.if_icmp .ge 27, 3) := am_row (r := (69, .if_icmp .ge 27, 3)) ro_Mod_mirror 43 rfl
theorem d_Mod_mirror_72 : decode prog_13_method_18_code 72 = .ok (.aload_n 0, 1) := am_row (r := (72, .aload_n 0, 1)) ro_Mod_mirror 44 rfl
theorem d_Mod_mirror_73 : decode prog_13_method_18_code 73 = .ok (.getfield 20, 3) := am_row (r := (73, .getfield 20, 3)) ro_Mod_mirror 45 rfl
theorem d_Mod_mirror_76 : decode prog_13_method_18_code 76 = .ok (.sipush 512, 3) := am_row (r := (76, .sipush 512, 3)) ro_Mod_mirror 46 rfl
theorem d_Mod_mirror_79 : decode prog_13_method_18_code 79 = .ok (.iload_n 1, 1) := am_row (r := (79, .iload_n 1, 1)) ro_Mod_mirror 47 rfl
theorem d_Mod_mirror_80 : decode prog_13_method_18_code 80 = .ok (.imul, 1) := am_row (r := (80, .imul, 1)) ro_Mod_mirror 48 rfl
theorem d_Mod_mirror_81 : decode prog_13_method_18_code 81 = .ok (.iload_n 2, 1) := am_row (r := (81, .iload_n 2, 1)) ro_Mod_mirror 49 rfl
theorem d_Mod_mirror_82 : decode prog_13_method_18_code 82 = .ok (.iadd, 1) := am_row (r := (82, .iadd, 1)) ro_Mod_mirror 50 rfl
theorem d_Mod_mirror_83 : decode prog_13_method_18_code 83 = .ok (.aload_n 0, 1) := am_row (r := (83, .aload_n 0, 1)) ro_Mod_mirror 51 rfl
theorem d_Mod_mirror_84 : decode prog_13_method_18_code 84 = .ok (.getfield 50, 3) := am_row (r := (84, .getfield 50, 3)) ro_Mod_mirror 52 rfl
theorem d_Mod_mirror_87 : decode prog_13_method_18_code 87 = .ok (.iload_n 2, 1) := am_row (r := (87, .iload_n 2, 1)) ro_Mod_mirror 53 rfl
theorem d_Mod_mirror_88 : decode prog_13_method_18_code 88 = .ok (.baload, 1) := am_row (r := (88, .baload, 1)) ro_Mod_mirror 54 rfl
theorem d_Mod_mirror_89 : decode prog_13_method_18_code 89 = .ok (.bastore, 1) := am_row (r := (89, .bastore, 1)) ro_Mod_mirror 55 rfl
theorem d_Mod_mirror_90 : decode prog_13_method_18_code 90 = .ok (.iinc 2 1, 3) := am_row (r := (90, .iinc 2 1, 3)) ro_Mod_mirror 56 rfl
theorem d_Mod_mirror_93 : decode prog_13_method_18_code 93 = .ok (.goto (-29), 3) := am_row (r := (93, .goto (-29), 3)) ro_Mod_mirror 57 rfl
theorem d_Mod_mirror_96 : decode prog_13_method_18_code 96 = .ok (.iinc 1 1, 3) := am_row (r := (96, .iinc 1 1, 3)) ro_Mod_mirror 58 rfl
theorem d_Mod_mirror_99 : decode prog_13_method_18_code 99 = .ok (.goto (-88), 3) := am_row (r := (99, .goto (-88), 3)) ro_Mod_mirror 59 rfl
theorem d_Mod_mirror_102 : decode prog_13_method_18_code 102 = .ok (.iconst 0, 1) := am_row (r := (102, .iconst 0, 1)) ro_Mod_mirror 60 rfl
theorem d_Mod_mirror_103 : decode prog_13_method_18_code 103 = .ok (.istore_n 1, 1) := am_row (r := (103, .istore_n 1, 1)) ro_Mod_mirror 61 rfl
theorem d_Mod_mirror_104 : decode prog_13_method_18_code 104 = .ok (.iload_n 1, 1) := am_row (r := (104, .iload_n 1, 1)) ro_Mod_mirror 62 rfl
theorem d_Mod_mirror_105 : decode prog_13_method_18_code 105 = .ok (.aload_n 0, 1) := am_row (r := (105, .aload_n 0, 1)) ro_Mod_mirror 63 rfl
theorem d_Mod_mirror_106 : decode prog_13_method_18_code 106 = .ok (.invokevirtual 96, 3) := am_row (r := (106, .invokevirtual 96, 3)) ro_Mod_mirror 64 rfl
theorem d_Mod_mirror_109 : decode prog_13_method_18_code 109 = .ok (.if_icmp .ge 31, 3) := am_row (r := (109, .if_icmp .ge 31, 3)) ro_Mod_mirror 65 rfl
theorem d_Mod_mirror_112 : decode prog_13_method_18_code 112 = .ok (.aload_n 0, 1) := am_row (r := (112, .aload_n 0, 1)) ro_Mod_mirror 66 rfl
theorem d_Mod_mirror_113 : decode prog_13_method_18_code 113 = .ok (.getfield 16, 3) := am_row (r := (113, .getfield 16, 3)) ro_Mod_mirror 67 rfl
theorem d_Mod_mirror_116 : decode prog_13_method_18_code 116 = .ok (.iload_n 1, 1) := am_row (r := (116, .iload_n 1, 1)) ro_Mod_mirror 68 rfl
theorem d_Mod_mirror_117 : decode prog_13_method_18_code 117 = .ok (.aload_n 0, 1) := am_row (r := (117, .aload_n 0, 1)) ro_Mod_mirror 69 rfl
theorem d_Mod_mirror_118 : decode prog_13_method_18_code 118 = .ok (.invokevirtual 93, 3) := am_row (r := (118, .invokevirtual 93, 3)) ro_Mod_mirror 70 rfl
theorem d_Mod_mirror_121 : decode prog_13_method_18_code 121 = .ok (.aload_n 0, 1) := am_row (r := (121, .aload_n 0, 1)) ro_Mod_mirror 71 rfl
theorem d_Mod_mirror_122 : decode prog_13_method_18_code 122 = .ok (.getfield 16, 3) := am_row (r := (122, .getfield 16, 3)) ro_Mod_mirror 72 rfl
theorem d_Mod_mirror_125 : decode prog_13_method_18_code 125 = .ok (.iload_n 1, 1) := am_row (r := (125, .iload_n 1, 1)) ro_Mod_mirror 73 rfl
theorem d_Mod_mirror_126 : decode prog_13_method_18_code 126 = .ok (.iaload, 1) := am_row (r := (126, .iaload, 1)) ro_Mod_mirror 74 rfl
theorem d_Mod_mirror_127 : decode prog_13_method_18_code 127 = .ok (.isub, 1) := am_row (r := (127, .isub, 1)) ro_Mod_mirror 75 rfl
theorem d_Mod_mirror_128 : decode prog_13_method_18_code 128 = .ok (.aload_n 0, 1) := am_row (r := (128, .aload_n 0, 1)) ro_Mod_mirror 76 rfl
theorem d_Mod_mirror_129 : decode prog_13_method_18_code 129 = .ok (.invokevirtual 93, 3) := am_row (r := (129, .invokevirtual 93, 3)) ro_Mod_mirror 77 rfl
theorem d_Mod_mirror_132 : decode prog_13_method_18_code 132 = .ok (.irem, 1) := am_row (r := (132, .irem, 1)) ro_Mod_mirror 78 rfl
theorem d_Mod_mirror_133 : decode prog_13_method_18_code 133 = .ok (.iastore, 1) := am_row (r := (133, .iastore, 1)) ro_Mod_mirror 79 rfl
theorem d_Mod_mirror_134 : decode prog_13_method_18_code 134 = .ok (.iinc 1 1, 3) := am_row (r := (134, .iinc 1 1, 3)) ro_Mod_mirror 80 rfl
theorem d_Mod_mirror_137 : decode prog_13_method_18_code 137 = .ok (.goto (-33), 3) := am_row (r := (137, .goto (-33), 3)) ro_Mod_mirror 81 rfl
theorem d_Mod_mirror_140 : decode prog_13_method_18_code 140 = .ok (.iconst 1, 1) := am_row (r := (140, .iconst 1, 1)) ro_Mod_mirror 82 rfl
theorem d_Mod_mirror_141 : decode prog_13_method_18_code 141 = .ok (.ireturn, 1) := am_row (r := (141, .ireturn, 1)) ro_Mod_mirror 83 rfl
