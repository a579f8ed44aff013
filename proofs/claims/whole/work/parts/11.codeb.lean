abbrev y_WD_mirror : MethodName := ⟨"WheelDisc", "mirror", "()Z"⟩
theorem c_WD_mirror : Cond.code y_WD_mirror prog_1_method_10_code 1 (some .boolean) ∈ am_T := am_mem 508 (by decide +kernel) rfl
def rw_WD_mirror : List (Nat × Instr × Nat) := [(0, .aload_n 0, 1), (1, .invokevirtual 116, 3), (4, .aload_n 0, 1), (5, .getfield 19, 3), (8, .aload_n 0, 1), (9, .getfield 75, 3), (12, .invokevirtual 172, 3), (15, .aload_n 0, 1), (16, .iconst 1, 1), (17, .invokevirtual 112, 3), (20, .ireturn, 1)]
theorem ro_WD_mirror : rw_WD_mirror.all (fun r => decide (decode prog_1_method_10_code r.1 = .ok r.2)) = true := by decide +kernel
theorem d_WD_mirror_0 : decode prog_1_method_10_code 0 = .ok (.aload_n 0, 1) := am_row (r := (0, .aload_n 0, 1)) ro_WD_mirror 0 rfl
theorem d_WD_mirror_1 : decode prog_1_method_10_code 1 = .ok (.invokevirtual 116, 3) := am_row (r := (1, .invokevirtual 116, 3)) ro_WD_mirror 1 rfl
theorem d_WD_mirror_4 : decode prog_1_method_10_code 4 = .ok (.aload_n 0, 1) := am_row (r := (4, .aload_n 0, 1)) ro_WD_mirror 2 rfl
theorem d_WD_mirror_5 : decode prog_1_method_10_code 5 = .ok (.getfield 19, 3) := am_row (r := (5, .getfield 19, 3)) ro_WD_mirror 3 rfl
theorem d_WD_mirror_8 : decode prog_1_method_10_code 8 = .ok (.aload_n 0, 1) := am_row (r := (8, .aload_n 0, 1)) ro_WD_mirror 4 rfl
theorem d_WD_mirror_9 : decode prog_1_method_10_code 9 = .ok (.getfield 75, 3) := am_row (r := (9, .getfield 75, 3)) ro_WD_mirror 5 rfl
theorem d_WD_mirror_12 : decode prog_1_method_10_code 12 = .ok (.invokevirtual 172, 3) := am_row (r := (12, .invokevirtual 172, 3)) ro_WD_mirror 6 rfl
theorem d_WD_mirror_15 : decode prog_1_method_10_code 15 = .ok (.aload_n 0, 1) := am_row (r := (15, .aload_n 0, 1)) ro_WD_mirror 7 rfl
theorem d_WD_mirror_16 : decode prog_1_method_10_code 16 = .ok (.iconst 1, 1) := am_row (r := (16, .iconst 1, 1)) ro_WD_mirror 8 rfl
theorem d_WD_mirror_17 : decode prog_1_method_10_code 17 = .ok (.invokevirtual 112, 3) := am_row (r := (17, .invokevirtual 112, 3)) ro_WD_mirror 9 rfl
theorem d_WD_mirror_20 : decode prog_1_method_10_code 20 = .ok (.ireturn, 1) := am_row (r := (20, .ireturn, 1)) ro_WD_mirror 10 rfl
abbrev y_Disc_swapReaders : MethodName := ⟨"WheelDisc$Disc", "swapReaders", "(II)V"⟩
theorem c_Disc_swapReaders : Cond.code y_Disc_swapReaders prog_2_method_12_code 5 none ∈ am_T := am_mem 520 (by decide +kernel) rfl
def rw_Disc_swapReaders : List (Nat × Instr × Nat) := [(0, .aload_n 0, 1), (1, .getfield 15, 3), (4, .iload_n 1, 1), (5, .iaload, 1), (6, .istore_n 3, 1), (7, .aload_n 0, 1), (8, .getfield 15, 3), (11, .iload_n 1, 1), (12, .aload_n 0, 1), (13, .getfield 15, 3), (16, .iload_n 2, 1), (17, .iaload, 1), (18, .iastore, 1), (19, .aload_n 0, 1), (20, .getfield 15, 3), (23, .iload_n 2, 1), (24, .iload_n 3, 1), (25, .iastore, 1), (26, .aload_n 0, 1), (27, .getfield 19, 3), (30, .iload_n 1, 1), (31, .iaload, 1), (32, .istore 4, 2), (34, .aload_n 0, 1), (35, .getfield 19, 3), (38, .iload_n 1, 1), (39, .aload_n 0, 1), (40, .getfield 19, 3), (43, .iload_n 2, 1), (44, .iaload, 1), (45, .iastore, 1), (46, .aload_n 0, 1), (47, .getfield 19, 3), (50, .iload_n 2, 1), (51, .iload 4, 2), (53, .iastore, 1), (54, .return_, 1)]
theorem ro_Disc_swapReaders : rw_Disc_swapReaders.all (fun r => decide (decode prog_2_method_12_code r.1 = .ok r.2)) = true := by decide +kernel
theorem d_Disc_swapReaders_0 : decode prog_2_method_12_code 0 = .ok (.aload_n 0, 1) := am_row (r := (0, .aload_n 0, 1)) ro_Disc_swapReaders 0 rfl
theorem d_Disc_swapReaders_1 : decode prog_2_method_12_code 1 = .ok (.getfield 15, 3) := am_row (r := (1, .getfield 15, 3)) ro_Disc_swapReaders 1 rfl
theorem d_Disc_swapReaders_4 : decode prog_2_method_12_code 4 = .ok (.iload_n 1, 1) := am_row (r := (4, .iload_n 1, 1)) ro_Disc_swapReaders 2 rfl
theorem d_Disc_swapReaders_5 : decode prog_2_method_12_code 5 = .ok (.iaload, 1) := am_row (r := (5, .iaload, 1)) ro_Disc_swapReaders 3 rfl
theorem d_Disc_swapReaders_6 : decode prog_2_method_12_code 6 = .ok (.istore_n 3, 1) := am_row (r := (6, .istore_n 3, 1)) ro_Disc_swapReaders 4 rfl
theorem d_Disc_swapReaders_7 : decode prog_2_method_12_code 7 = .ok (.aload_n 0, 1) := am_row (r := (7, .aload_n 0, 1)) ro_Disc_swapReaders 5 rfl
theorem d_Disc_swapReaders_8 : decode prog_2_method_12_code 8 = .ok (.getfield 15, 3) := am_row (r := (8, .getfield 15, 3)) ro_Disc_swapReaders 6 rfl
theorem d_Disc_swapReaders_11 : decode prog_2_method_12_code 11 = .ok (.iload_n 1, 1) := am_row (r := (11, .iload_n 1, 1)) ro_Disc_swapReaders 7 rfl
theorem d_Disc_swapReaders_12 : decode prog_2_method_12_code 12 = .ok (.aload_n 0, 1) := am_row (r := (12, .aload_n 0, 1)) ro_Disc_swapReaders 8 rfl
theorem d_Disc_swapReaders_13 : decode prog_2_method_12_code 13 = .ok (.getfield 15, 3) := am_row (r := (13, .getfield 15, 3)) ro_Disc_swapReaders 9 rfl
theorem d_Disc_swapReaders_16 : decode prog_2_method_12_code 16 = .ok (.iload_n 2, 1) := am_row (r := (16, .iload_n 2, 1)) ro_Disc_swapReaders 10 rfl
theorem d_Disc_swapReaders_17 : decode prog_2_method_12_code 17 = .ok (.iaload, 1) := am_row (r := (17, .iaload, 1)) ro_Disc_swapReaders 11 rfl
theorem d_Disc_swapReaders_18 : decode prog_2_method_12_code 18 = .ok (.iastore, 1) := am_row (r := (18, .iastore, 1)) ro_Disc_swapReaders 12 rfl
theorem d_Disc_swapReaders_19 : decode prog_2_method_12_code 19 = .ok (.aload_n 0, 1) := am_row (r := (19, .aload_n 0, 1)) ro_Disc_swapReaders 13 rfl
theorem d_Disc_swapReaders_20 : decode prog_2_method_12_code 20 = .ok (.getfield 15, 3) := am_row (r := (20, .getfield 15, 3)) ro_Disc_swapReaders 14 rfl
theorem d_Disc_swapReaders_23 : decode prog_2_method_12_code 23 = .ok (.iload_n 2, 1) := am_row (r := (23, .iload_n 2, 1)) ro_Disc_swapReaders 15 rfl
theorem d_Disc_swapReaders_24 : decode prog_2_method_12_code 24 = .ok (.iload_n 3, 1) := am_row (r := (24, .iload_n 3, 1)) ro_Disc_swapReaders 16 rfl
theorem d_Disc_swapReaders_25 : decode prog_2_method_12_code 25 = .ok (.iastore, 1) := am_row (r := (25, .iastore, 1)) ro_Disc_swapReaders 17 rfl
theorem d_Disc_swapReaders_26 : decode prog_2_method_12_code 26 = .ok (.aload_n 0, 1) := am_row (r := (26, .aload_n 0, 1)) ro_Disc_swapReaders 18 rfl
theorem d_Disc_swapReaders_27 : decode prog_2_method_12_code 27 = .ok (.getfield 19, 3) := am_row (r := (27, .getfield 19, 3)) ro_Disc_swapReaders 19 rfl
theorem d_Disc_swapReaders_30 : decode prog_2_method_12_code 30 = .ok (.iload_n 1, 1) := am_row (r := (30, .iload_n 1, 1)) ro_Disc_swapReaders 20 rfl
theorem d_Disc_swapReaders_31 : decode prog_2_method_12_code 31 = .ok (.iaload, 1) := am_row (r := (31, .iaload, 1)) ro_Disc_swapReaders 21 rfl
theorem d_Disc_swapReaders_32 : decode prog_2_method_12_code 32 = .ok (.istore 4, 2) := am_row (r := (32, .istore 4, 2)) ro_Disc_swapReaders 22 rfl
theorem d_Disc_swapReaders_34 : decode prog_2_method_12_code 34 = .ok (.aload_n 0, 1) := am_row (r := (34, .aload_n 0, 1)) ro_Disc_swapReaders 23 rfl
theorem d_Disc_swapReaders_35 : decode prog_2_method_12_code 35 = .ok (.getfield 19, 3) := am_row (r := (35, .getfield 19, 3)) ro_Disc_swapReaders 24 rfl
theorem d_Disc_swapReaders_38 : decode prog_2_method_12_code 38 = .ok (.iload_n 1, 1) := am_row (r := (38, .iload_n 1, 1)) ro_Disc_swapReaders 25 rfl
theorem d_Disc_swapReaders_39 : decode prog_2_method_12_code 39 = .ok (.aload_n 0, 1) := am_row (r := (39, .aload_n 0, 1)) ro_Disc_swapReaders 26 rfl
theorem d_Disc_swapReaders_40 : decode prog_2_method_12_code 40 = .ok (.getfield 19, 3) := am_row (r := (40, .getfield 19, 3)) ro_Disc_swapReaders 27 rfl
theorem d_Disc_swapReaders_43 : decode prog_2_method_12_code 43 = .ok (.iload_n 2, 1) := am_row (r := (43, .iload_n 2, 1)) ro_Disc_swapReaders 28 rfl
theorem d_Disc_swapReaders_44 : decode prog_2_method_12_code 44 = .ok (.iaload, 1) := am_row (r := (44, .iaload, 1)) ro_Disc_swapReaders 29 rfl
theorem d_Disc_swapReaders_45 : decode prog_2_method_12_code 45 = .ok (.iastore, 1) := am_row (r := (45, .iastore, 1)) ro_Disc_swapReaders 30 rfl
theorem d_Disc_swapReaders_46 : decode prog_2_method_12_code 46 = .ok (.aload_n 0, 1) := am_row (r := (46, .aload_n 0, 1)) ro_Disc_swapReaders 31 rfl
theorem d_Disc_swapReaders_47 : decode prog_2_method_12_code 47 = .ok (.getfield 19, 3) := am_row (r := (47, .getfield 19, 3)) ro_Disc_swapReaders 32 rfl
theorem d_Disc_swapReaders_50 : decode prog_2_method_12_code 50 = .ok (.iload_n 2, 1) := am_row (r := (50, .iload_n 2, 1)) ro_Disc_swapReaders 33 rfl
theorem d_Disc_swapReaders_51 : decode prog_2_method_12_code 51 = .ok (.iload 4, 2) := am_row (r := (51, .iload 4, 2)) ro_Disc_swapReaders 34 rfl
theorem d_Disc_swapReaders_53 : decode prog_2_method_12_code 53 = .ok (.iastore, 1) := am_row (r := (53, .iastore, 1)) ro_Disc_swapReaders 35 rfl
theorem d_Disc_swapReaders_54 : decode prog_2_method_12_code 54 = .ok (.return_, 1) := am_row (r := (54, .return_, 1)) ro_Disc_swapReaders 36 rfl
abbrev y_WD_swap : MethodName := ⟨"WheelDisc", "swap", "(II)Z"⟩
theorem c_WD_swap : Cond.code y_WD_swap prog_1_method_11_code 3 (some .boolean) ∈ am_T := am_mem 516 (by decide +kernel) rfl
def rw_WD_swap : List (Nat × Instr × Nat) := [(0, .aload_n 0, 1), (1, .getfield 19, 3), (4, .iload_n 1, 1), (5, .invokevirtual 159, 3), (8, .ifCond .eq 14, 3), (11, .aload_n 0, 1), (12, .getfield 19, 3), (15, .iload_n 2, 1), (16, .invokevirtual 159, 3), (19, .ifCond .ne 9, 3), (22, .aload_n 0, 1), (23, .iconst 1, 1), (24, .invokevirtual 102, 3), (27, .ireturn, 1), (28, .aload_n 0, 1), (29, .invokevirtual 116, 3), (32, .aload_n 0, 1), (33, .getfield 19, 3), (36, .iload_n 1, 1), (37, .iload_n 2, 1), (38, .invokevirtual 176, 3), (41, .aload_n 0, 1), (42, .iconst 1, 1), (43, .invokevirtual 112, 3), (46, .ireturn, 1)]
theorem ro_WD_swap : rw_WD_swap.all (fun r => decide (decode prog_1_method_11_code r.1 = .ok r.2)) = true := by decide +kernel
theorem d_WD_swap_0 : decode prog_1_method_11_code 0 = .ok (.aload_n 0, 1) := am_row (r := (0, .aload_n 0, 1)) ro_WD_swap 0 rfl
theorem d_WD_swap_1 : decode prog_1_method_11_code 1 = .ok (.getfield 19, 3) := am_row (r := (1, .getfield 19, 3)) ro_WD_swap 1 rfl
theorem d_WD_swap_4 : decode prog_1_method_11_code 4 = .ok (.iload_n 1, 1) := am_row (r := (4, .iload_n 1, 1)) ro_WD_swap 2 rfl
theorem d_WD_swap_5 : decode prog_1_method_11_code 5 = .ok (.invokevirtual 159, 3) := am_row (r := (5, .invokevirtual 159, 3)) ro_WD_swap 3 rfl
theorem d_WD_swap_8 : decode prog_1_method_11_code 8 = .ok (.ifCond .eq 14, 3) := am_row (r := (8, .ifCond .eq 14, 3)) ro_WD_swap 4 rfl
theorem d_WD_swap_11 : decode prog_1_method_11_code 11 = .ok (.aload_n 0, 1) := am_row (r := (11, .aload_n 0, 1)) ro_WD_swap 5 rfl
theorem d_WD_swap_12 : decode prog_1_method_11_code 12 = .ok (.getfield 19, 3) := am_row (r := (12, .getfield 19, 3)) ro_WD_swap 6 rfl
theorem d_WD_swap_15 : decode prog_1_method_11_code 15 = .ok (.iload_n 2, 1) := am_row (r := (15, .iload_n 2, 1)) ro_WD_swap 7 rfl
theorem d_WD_swap_16 : decode prog_1_method_11_code 16 = .ok (.invokevirtual 159, 3) := am_row (r := (16, .invokevirtual 159, 3)) ro_WD_swap 8 rfl
theorem d_WD_swap_19 : decode prog_1_method_11_code 19 = .ok (.ifCond .ne 9, 3) := am_row (r := (19, .ifCond .ne 9, 3)) ro_WD_swap 9 rfl
theorem d_WD_swap_22 : decode prog_1_method_11_code 22 = .ok (.aload_n 0, 1) := am_row (r := (22, .aload_n 0, 1)) ro_WD_swap 10 rfl
theorem d_WD_swap_23 : decode prog_1_method_11_code 23 = .ok (.iconst 1, 1) := am_row (r := (23, .iconst 1, 1)) ro_WD_swap 11 rfl
theorem d_WD_swap_24 : decode prog_1_method_11_code 24 = .ok (.invokevirtual 102, 3) := am_row (r := (24, .invokevirtual 102, 3)) ro_WD_swap 12 rfl
theorem d_WD_swap_27 : decode prog_1_method_11_code 27 = .ok (.ireturn, 1) := am_row (r := (27, .ireturn, 1)) ro_WD_swap 13 rfl
theorem d_WD_swap_28 : decode prog_1_method_11_code 28 = .ok (.aload_n 0, 1) := am_row (r := (28, .aload_n 0, 1)) ro_WD_swap 14 rfl
theorem d_WD_swap_29 : decode prog_1_method_11_code 29 = .ok (.invokevirtual 116, 3) := am_row (r := (29, .invokevirtual 116, 3)) ro_WD_swap 15 rfl
theorem d_WD_swap_32 : decode prog_1_method_11_code 32 = .ok (.aload_n 0, 1) := am_row (r := (32, .aload_n 0, 1)) ro_WD_swap 16 rfl
theorem d_WD_swap_33 : decode prog_1_method_11_code 33 = .ok (.getfield 19, 3) := am_row (r := (33, .getfield 19, 3)) ro_WD_swap 17 rfl
theorem d_WD_swap_36 : decode prog_1_method_11_code 36 = .ok (.iload_n 1, 1) := am_row (r := (36, .iload_n 1, 1)) ro_WD_swap 18 rfl
theorem d_WD_swap_37 : decode prog_1_method_11_code 37 = .ok (.iload_n 2, 1) := am_row (r := (37, .iload_n 2, 1)) ro_WD_swap 19 rfl
theorem d_WD_swap_38 : decode prog_1_method_11_code 38 = .ok (.invokevirtual 176, 3) := am_row (r := (38, .invokevirtual 176, 3)) ro_WD_swap 20 rfl
theorem d_WD_swap_41 : decode prog_1_method_11_code 41 = .ok (.aload_n 0, 1) := am_row (r := (41, .aload_n 0, 1)) ro_WD_swap 21 rfl
theorem d_WD_swap_42 : decode prog_1_method_11_code 42 = .ok (.iconst 1, 1) := am_row (r := (42, .iconst 1, 1)) ro_WD_swap 22 rfl
theorem d_WD_swap_43 : decode prog_1_method_11_code 43 = .ok (.invokevirtual 112, 3) := am_row (r := (43, .invokevirtual 112, 3)) ro_WD_swap 23 rfl
theorem d_WD_swap_46 : decode prog_1_method_11_code 46 = .ok (.ireturn, 1) := am_row (r := (46, .ireturn, 1)) ro_WD_swap 24 rfl
abbrev y_Hist_takeBack : MethodName := ⟨"WheelDisc$History", "takeBack", "(LWheelDisc$Disc;)V"⟩
theorem c_Hist_takeBack : Cond.code y_Hist_takeBack prog_5_method_3_code 2 none ∈ am_T := am_mem 528 (by decide +kernel) rfl
def rw_Hist_takeBack : List (Nat × Instr × Nat) := [(0, .aload_n 0, 1), (1, .getfield 19, 3), (4, .ifCond .ne 4, 3), (7, .return_, 1), (8, .aload_n 0, 1), (9, .aload_n 0, 1), (10, .getfield 15, 3), (13, .iconst (-1), 1), (14, .bipush 30, 2), (16, .invokestatic 27, 3), (19, .putfield 15, 3), (22, .aload_n 0, 1), (23, .dup, 1), (24, .getfield 19, 3), (27, .iconst 1, 1), (28, .isub, 1), (29, .putfield 19, 3), (32, .aload_n 1, 1), (33, .aload_n 0, 1), (34, .getfield 11, 3), (37, .aload_n 0, 1), (38, .getfield 15, 3), (41, .aaload, 1), (42, .invokevirtual 23, 3), (45, .return_, 1)]
theorem ro_Hist_takeBack : rw_Hist_takeBack.all (fun r => decide (decode prog_5_method_3_code r.1 = .ok r.2)) = true := by decide +kernel
theorem d_Hist_takeBack_0 : decode prog_5_method_3_code 0 = .ok (.aload_n 0, 1) := am_row (r := (0, .aload_n 0, 1)) ro_Hist_takeBack 0 rfl
theorem d_Hist_takeBack_1 : decode prog_5_method_3_code 1 = .ok (.getfield 19, 3) := am_row (r := (1, .getfield 19, 3)) ro_Hist_takeBack 1 rfl
theorem d_Hist_takeBack_4 : decode prog_5_method_3_code 4 = .ok (.ifCond .ne 4, 3) := am_row (r := (4, .ifCond .ne 4, 3)) ro_Hist_takeBack 2 rfl
theorem d_Hist_takeBack_7 : decode prog_5_method_3_code 7 = .ok (.return_, 1) := am_row (r := (7, .return_, 1)) ro_Hist_takeBack 3 rfl
theorem d_Hist_takeBack_8 : decode prog_5_method_3_code 8 = .ok (.aload_n 0, 1) := am_row (r := (8, .aload_n 0, 1)) ro_Hist_takeBack 4 rfl
theorem d_Hist_takeBack_9 : decode prog_5_method_3_code 9 = .ok (.aload_n 0, 1) := am_row (r := (9, .aload_n 0, 1)) ro_Hist_takeBack 5 rfl
theorem d_Hist_takeBack_10 : decode prog_5_method_3_code 10 = .ok (.getfield 15, 3) := am_row (r := (10, .getfield 15, 3)) ro_Hist_takeBack 6 rfl
theorem d_Hist_takeBack_13 : decode prog_5_method_3_code 13 = .ok (.iconst (-1), 1) := am_row (r := (13, .iconst (-1), 1)) ro_Hist_takeBack 7 rfl
theorem d_Hist_takeBack_14 : decode prog_5_method_3_code 14 = .ok (.bipush 30, 2) := am_row (r := (14, .bipush 30, 2)) ro_Hist_takeBack 8 rfl
theorem d_Hist_takeBack_16 : decode prog_5_method_3_code 16 = .ok (.invokestatic 27, 3) := am_row (r := (16, .invokestatic 27, 3)) ro_Hist_takeBack 9 rfl
theorem d_Hist_takeBack_19 : decode prog_5_method_3_code 19 = .ok (.putfield 15, 3) := am_row (r := (19, .putfield 15, 3)) ro_Hist_takeBack 10 rfl
theorem d_Hist_takeBack_22 : decode prog_5_method_3_code 22 = .ok (.aload_n 0, 1) := am_row (r := (22, .aload_n 0, 1)) ro_Hist_takeBack 11 rfl
theorem d_Hist_takeBack_23 : decode prog_5_method_3_code 23 = .ok (.dup, 1) := am_row (r := (23, .dup, 1)) ro_Hist_takeBack 12 rfl
theorem d_Hist_takeBack_24 : decode prog_5_method_3_code 24 = .ok (.getfield 19, 3) := am_row (r := (24, .getfield 19, 3)) ro_Hist_takeBack 13 rfl
theorem d_Hist_takeBack_27 : decode prog_5_method_3_code 27 = .ok (.iconst 1, 1) := am_row (r := (27, .iconst 1, 1)) ro_Hist_takeBack 14 rfl
theorem d_Hist_takeBack_28 : decode prog_5_method_3_code 28 = .ok (.isub, 1) := am_row (r := (28, .isub, 1)) ro_Hist_takeBack 15 rfl
theorem d_Hist_takeBack_29 : decode prog_5_method_3_code 29 = .ok (.putfield 19, 3) := am_row (r := (29, .putfield 19, 3)) ro_Hist_takeBack 16 rfl
theorem d_Hist_takeBack_32 : decode prog_5_method_3_code 32 = .ok (.aload_n 1, 1) := am_row (r := (32, .aload_n 1, 1)) ro_Hist_takeBack 17 rfl
theorem d_Hist_takeBack_33 : decode prog_5_method_3_code 33 = .ok (.aload_n 0, 1) := am_row (r := (33, .aload_n 0, 1)) ro_Hist_takeBack 18 rfl
theorem d_Hist_takeBack_34 : decode prog_5_method_3_code 34 = .ok (.getfield 11, 3) := am_row (r := (34, .getfield 11, 3)) ro_Hist_takeBack 19 rfl
theorem d_Hist_takeBack_37 : decode prog_5_method_3_code 37 = .ok (.aload_n 0, 1) := am_row (r := (37, .aload_n 0, 1)) ro_Hist_takeBack 20 rfl
theorem d_Hist_takeBack_38 : decode prog_5_method_3_code 38 = .ok (.getfield 15, 3) := am_row (r := (38, .getfield 15, 3)) ro_Hist_takeBack 21 rfl
theorem d_Hist_takeBack_41 : decode prog_5_method_3_code 41 = .ok (.aaload, 1) := am_row (r := (41, .aaload, 1)) ro_Hist_takeBack 22 rfl
theorem d_Hist_takeBack_42 : decode prog_5_method_3_code 42 = .ok (.invokevirtual 23, 3) := am_row (r := (42, .invokevirtual 23, 3)) ro_Hist_takeBack 23 rfl
theorem d_Hist_takeBack_45 : decode prog_5_method_3_code 45 = .ok (.return_, 1) := am_row (r := (45, .return_, 1)) ro_Hist_takeBack 24 rfl
abbrev y_WD_undo : MethodName := ⟨"WheelDisc", "undo", "()I"⟩
theorem c_WD_undo : Cond.code y_WD_undo prog_1_method_12_code 1 (some .int) ∈ am_T := am_mem 524 (by decide +kernel) rfl
def rw_WD_undo : List (Nat × Instr × Nat) := [(0, .aload_n 0, 1), (1, .getfield 26, 3), (4, .getfield 179, 3), (7, .ifCond .ne 9, 3), (10, .aload_n 0, 1), (11, .iconst 2, 1), (12, .invokevirtual 95, 3), (15, .ireturn, 1), (16, .aload_n 0, 1), (17, .getfield 26, 3), (20, .aload_n 0, 1), (21, .getfield 19, 3), (24, .invokevirtual 180, 3), (27, .aload_n 0, 1), (28, .invokevirtual 184, 3), (31, .aload_n 0, 1), (32, .aload_n 0, 1), (33, .getfield 26, 3), (36, .getfield 179, 3), (39, .invokevirtual 91, 3), (42, .ireturn, 1)]
theorem ro_WD_undo : rw_WD_undo.all (fun r => decide (decode prog_1_method_12_code r.1 = .ok r.2)) = true := by decide +kernel
theorem d_WD_undo_0 : decode prog_1_method_12_code 0 = .ok (.aload_n 0, 1) := am_row (r := (0, .aload_n 0, 1)) ro_WD_undo 0 rfl
theorem d_WD_undo_1 : decode prog_1_method_12_code 1 = .ok (.getfield 26, 3) := am_row (r := (1, .getfield 26, 3)) ro_WD_undo 1 rfl
theorem d_WD_undo_4 : decode prog_1_method_12_code 4 = .ok (.getfield 179, 3) := am_row (r := (4, .getfield 179, 3)) ro_WD_undo 2 rfl
theorem d_WD_undo_7 : decode prog_1_method_12_code 7 = .ok (.ifCond .ne 9, 3) := am_row (r := (7, .ifCond .ne 9, 3)) ro_WD_undo 3 rfl
theorem d_WD_undo_10 : decode prog_1_method_12_code 10 = .ok (.aload_n 0, 1) := am_row (r := (10, .aload_n 0, 1)) ro_WD_undo 4 rfl
theorem d_WD_undo_11 : decode prog_1_method_12_code 11 = .ok (.iconst 2, 1) := am_row (r := (11, .iconst 2, 1)) ro_WD_undo 5 rfl
theorem d_WD_undo_12 : decode prog_1_method_12_code 12 = .ok (.invokevirtual 95, 3) := am_row (r := (12, .invokevirtual 95, 3)) ro_WD_undo 6 rfl
theorem d_WD_undo_15 : decode prog_1_method_12_code 15 = .ok (.ireturn, 1) := am_row (r := (15, .ireturn, 1)) ro_WD_undo 7 rfl
theorem d_WD_undo_16 : decode prog_1_method_12_code 16 = .ok (.aload_n 0, 1) := am_row (r := (16, .aload_n 0, 1)) ro_WD_undo 8 rfl
theorem d_WD_undo_17 : decode prog_1_method_12_code 17 = .ok (.getfield 26, 3) := am_row (r := (17, .getfield 26, 3)) ro_WD_undo 9 rfl
theorem d_WD_undo_20 : decode prog_1_method_12_code 20 = .ok (.aload_n 0, 1) := am_row (r := (20, .aload_n 0, 1)) ro_WD_undo 10 rfl
theorem d_WD_undo_21 : decode prog_1_method_12_code 21 = .ok (.getfield 19, 3) := am_row (r := (21, .getfield 19, 3)) ro_WD_undo 11 rfl
theorem d_WD_undo_24 : decode prog_1_method_12_code 24 = .ok (.invokevirtual 180, 3) := am_row (r := (24, .invokevirtual 180, 3)) ro_WD_undo 12 rfl
theorem d_WD_undo_27 : decode prog_1_method_12_code 27 = .ok (.aload_n 0, 1) := am_row (r := (27, .aload_n 0, 1)) ro_WD_undo 13 rfl
theorem d_WD_undo_28 : decode prog_1_method_12_code 28 = .ok (.invokevirtual 184, 3) := am_row (r := (28, .invokevirtual 184, 3)) ro_WD_undo 14 rfl
theorem d_WD_undo_31 : decode prog_1_method_12_code 31 = .ok (.aload_n 0, 1) := am_row (r := (31, .aload_n 0, 1)) ro_WD_undo 15 rfl
theorem d_WD_undo_32 : decode prog_1_method_12_code 32 = .ok (.aload_n 0, 1) := am_row (r := (32, .aload_n 0, 1)) ro_WD_undo 16 rfl
theorem d_WD_undo_33 : decode prog_1_method_12_code 33 = .ok (.getfield 26, 3) := am_row (r := (33, .getfield 26, 3)) ro_WD_undo 17 rfl
theorem d_WD_undo_36 : decode prog_1_method_12_code 36 = .ok (.getfield 179, 3) := am_row (r := (36, .getfield 179, 3)) ro_WD_undo 18 rfl
theorem d_WD_undo_39 : decode prog_1_method_12_code 39 = .ok (.invokevirtual 91, 3) := am_row (r := (39, .invokevirtual 91, 3)) ro_WD_undo 19 rfl
theorem d_WD_undo_42 : decode prog_1_method_12_code 42 = .ok (.ireturn, 1) := am_row (r := (42, .ireturn, 1)) ro_WD_undo 20 rfl
abbrev y_Disc_wordOf : MethodName := ⟨"WheelDisc$Disc", "wordOf", "(I)I"⟩
theorem c_Disc_wordOf : Cond.code y_Disc_wordOf prog_2_method_17_code 5 (some .int) ∈ am_T := am_mem 544 (by decide +kernel) rfl
def rw_Disc_wordOf : List (Nat × Instr × Nat) := [(0, .iconst 0, 1), (1, .istore_n 2, 1), (2, .iconst 0, 1), (3, .istore_n 3, 1), (4, .iload_n 3, 1), (5, .aload_n 0, 1), (6, .getfield 29, 3), (9, .if_icmp .ge 62, 3), (12, .iload_n 1, 1), (13, .aload_n 0, 1), (14, .getfield 19, 3), (17, .iload_n 3, 1), (18, .iaload, 1), (19, .iadd, 1), (20, .istore 4, 2), (22, .iload 4, 2), (24, .aload_n 0, 1), (25, .getfield 22, 3), (28, .if_icmp .lt 12, 3), (31, .iload 4, 2), (33, .aload_n 0, 1), (34, .getfield 22, 3), (37, .isub, 1), (38, .istore 4, 2), (40, .iload_n 2, 1), (41, .iconst 1, 1), (42, .ishl, 1), (43, .aload_n 0, 1), (44, .aload_n 0, 1), (45, .getfield 15, 3), (48, .iload_n 3, 1), (49, .iaload, 1), (50, .iload 4, 2), (52, .invokevirtual 68, 3), (55, .ifCond .eq 7, 3), (58, .iconst 1, 1), (59, .goto 4, 3), (62, .iconst 0, 1), (63, .ior, 1), (64, .istore_n 2, 1), (65, .iinc 3 1, 3), (68, .goto (-64), 3), (71, .iload_n 2, 1), (72, .ireturn, 1)]
theorem ro_Disc_wordOf : rw_Disc_wordOf.all (fun r => decide (decode prog_2_method_17_code r.1 = .ok r.2)) = true := by decide +kernel
theorem d_Disc_wordOf_0 : decode prog_2_method_17_code 0 = .ok (.iconst 0, 1) := am_row (r := (0, .iconst 0, 1)) ro_Disc_wordOf 0 rfl
theorem d_Disc_wordOf_1 : decode prog_2_method_17_code 1 = .ok (.istore_n 2, 1) := am_row (r := (1, .istore_n 2, 1)) ro_Disc_wordOf 1 rfl
theorem d_Disc_wordOf_2 : decode prog_2_method_17_code 2 = .ok (.iconst 0, 1) := am_row (r := (2, .iconst 0, 1)) ro_Disc_wordOf 2 rfl
theorem d_Disc_wordOf_3 : decode prog_2_method_17_code 3 = .ok (.istore_n 3, 1) := am_row (r := (3, .istore_n 3, 1)) ro_Disc_wordOf 3 rfl
theorem d_Disc_wordOf_4 : decode prog_2_method_17_code 4 = .ok (.iload_n 3, 1) := am_row (r := (4, .iload_n 3, 1)) ro_Disc_wordOf 4 rfl
theorem d_Disc_wordOf_5 : decode prog_2_method_17_code 5 = .ok (.aload_n 0, 1) := am_row (r := (5, .aload_n 0, 1)) ro_Disc_wordOf 5 rfl
theorem d_Disc_wordOf_6 : decode prog_2_method_17_code 6 = .ok (.getfield 29, 3) := am_row (r := (6, .getfield 29, 3)) ro_Disc_wordOf 6 rfl
theorem d_Disc_wordOf_9 : decode prog_2_method_17_code 9 = .ok (.if_icmp .ge 62, 3) := am_row (r := (9, .if_icmp .ge 62, 3)) ro_Disc_wordOf 7 rfl
theorem d_Disc_wordOf_12 : decode prog_2_method_17_code 12 = .ok (.iload_n 1, 1) := am_row (r := (12, .iload_n 1, 1)) ro_Disc_wordOf 8 rfl
theorem d_Disc_wordOf_13 : decode prog_2_method_17_code 13 = .ok (.aload_n 0, 1) := am_row (r := (13, .aload_n 0, 1)) ro_Disc_wordOf 9 rfl
theorem d_Disc_wordOf_14 : decode prog_2_method_17_code 14 = .ok (.getfield 19, 3) := am_row (r := (14, .getfield 19, 3)) ro_Disc_wordOf 10 rfl
theorem d_Disc_wordOf_17 : decode prog_2_method_17_code 17 = .ok (.iload_n 3, 1) := am_row (r := (17, .iload_n 3, 1)) ro_Disc_wordOf 11 rfl
theorem d_Disc_wordOf_18 : decode prog_2_method_17_code 18 = .ok (.iaload, 1) := am_row (r := (18, .iaload, 1)) ro_Disc_wordOf 12 rfl
theorem d_Disc_wordOf_19 : decode prog_2_method_17_code 19 = .ok (.iadd, 1) := am_row (r := (19, .iadd, 1)) ro_Disc_wordOf 13 rfl
theorem d_Disc_wordOf_20 : decode prog_2_method_17_code 20 = .ok (.istore 4, 2) := am_row (r := (20, .istore 4, 2)) ro_Disc_wordOf 14 rfl
theorem d_Disc_wordOf_22 : decode prog_2_method_17_code 22 = .ok (.iload 4, 2) := am_row (r := (22, .iload 4, 2)) ro_Disc_wordOf 15 rfl
theorem d_Disc_wordOf_24 : decode prog_2_method_17_code 24 = .ok (.aload_n 0, 1) := am_row (r := (24, .aload_n 0, 1)) ro_Disc_wordOf 16 rfl
theorem d_Disc_wordOf_25 : decode prog_2_method_17_code 25 = .ok (.getfield 22, 3) := am_row (r := (25, .getfield 22, 3)) ro_Disc_wordOf 17 rfl
theorem d_Disc_wordOf_28 : decode prog_2_method_17_code 28 = .ok (.if_icmp .lt 12, 3) := am_row (r := (28, .if_icmp .lt 12, 3)) ro_Disc_wordOf 18 rfl
theorem d_Disc_wordOf_31 : decode prog_2_method_17_code 31 = .ok (.iload 4, 2) := am_row (r := (31, .iload 4, 2)) ro_Disc_wordOf 19 rfl
theorem d_Disc_wordOf_33 : decode prog_2_method_17_code 33 = .ok (.aload_n 0, 1) := am_row (r := (33, .aload_n 0, 1)) ro_Disc_wordOf 20 rfl
theorem d_Disc_wordOf_34 : decode prog_2_method_17_code 34 = .ok (.getfield 22, 3) := am_row (r := (34, .getfield 22, 3)) ro_Disc_wordOf 21 rfl
theorem d_Disc_wordOf_37 : decode prog_2_method_17_code 37 = .ok (.isub, 1) := am_row (r := (37, .isub, 1)) ro_Disc_wordOf 22 rfl
theorem d_Disc_wordOf_38 : decode prog_2_method_17_code 38 = .ok (.istore 4, 2) := am_row (r := (38, .istore 4, 2)) ro_Disc_wordOf 23 rfl
theorem d_Disc_wordOf_40 : decode prog_2_method_17_code 40 = .ok (.iload_n 2, 1) := am_row (r := (40, .iload_n 2, 1)) ro_Disc_wordOf 24 rfl
theorem d_Disc_wordOf_41 : decode prog_2_method_17_code 41 = .ok (.iconst 1, 1) := am_row (r := (41, .iconst 1, 1)) ro_Disc_wordOf 25 rfl
theorem d_Disc_wordOf_42 : decode prog_2_method_17_code 42 = .ok (.ishl, 1) := am_row (r := (42, .ishl, 1)) ro_Disc_wordOf 26 rfl
theorem d_Disc_wordOf_43 : decode prog_2_method_17_code 43 = .ok (.aload_n 0, 1) := am_row (r := (43, .aload_n 0, 1)) ro_Disc_wordOf 27 rfl
theorem d_Disc_wordOf_44 : decode prog_2_method_17_code 44 = .ok (.aload_n 0, 1) := am_row (r := (44, .aload_n 0, 1)) ro_Disc_wordOf 28 rfl
theorem d_Disc_wordOf_45 : decode prog_2_method_17_code 45 = .ok (.getfield 15, 3) := am_row (r := (45, .getfield 15, 3)) ro_Disc_wordOf 29 rfl
theorem d_Disc_wordOf_48 : decode prog_2_method_17_code 48 = .ok (.iload_n 3, 1) := am_row (r := (48, .iload_n 3, 1)) ro_Disc_wordOf 30 rfl
theorem d_Disc_wordOf_49 : decode prog_2_method_17_code 49 = .ok (.iaload, 1) := am_row (r := (49, .iaload, 1)) ro_Disc_wordOf 31 rfl
theorem d_Disc_wordOf_50 : decode prog_2_method_17_code 50 = .ok (.iload 4, 2) := am_row (r := (50, .iload 4, 2)) ro_Disc_wordOf 32 rfl
theorem d_Disc_wordOf_52 : decode prog_2_method_17_code 52 = .ok (.invokevirtual 68, 3) := am_row (r := (52, .invokevirtual 68, 3)) ro_Disc_wordOf 33 rfl
theorem d_Disc_wordOf_55 : decode prog_2_method_17_code 55 = .ok (.ifCond .eq 7, 3) := am_row (r := (55, .ifCond .eq 7, 3)) ro_Disc_wordOf 34 rfl
theorem d_Disc_wordOf_58 : decode prog_2_method_17_code 58 = .ok (.iconst 1, 1) := am_row (r := (58, .iconst 1, 1)) ro_Disc_wordOf 35 rfl
theorem d_Disc_wordOf_59 : decode prog_2_method_17_code 59 = .ok (.goto 4, 3) := am_row (r := (59, .goto 4, 3)) ro_Disc_wordOf 36 rfl
theorem d_Disc_wordOf_62 : decode prog_2_method_17_code 62 = .ok (.iconst 0, 1) := am_row (r := (62, .iconst 0, 1)) ro_Disc_wordOf 37 rfl
theorem d_Disc_wordOf_63 : decode prog_2_method_17_code 63 = .ok (.ior, 1) := am_row (r := (63, .ior, 1)) ro_Disc_wordOf 38 rfl
theorem d_Disc_wordOf_64 : decode prog_2_method_17_code 64 = .ok (.istore_n 2, 1) := am_row (r := (64, .istore_n 2, 1)) ro_Disc_wordOf 39 rfl
theorem d_Disc_wordOf_65 : decode prog_2_method_17_code 65 = .ok (.iinc 3 1, 3) := am_row (r := (65, .iinc 3 1, 3)) ro_Disc_wordOf 40 rfl
theorem d_Disc_wordOf_68 : decode prog_2_method_17_code 68 = .ok (.goto (-64), 3) := am_row (r := (68, .goto (-64), 3)) ro_Disc_wordOf 41 rfl
theorem d_Disc_wordOf_71 : decode prog_2_method_17_code 71 = .ok (.iload_n 2, 1) := am_row (r := (71, .iload_n 2, 1)) ro_Disc_wordOf 42 rfl
theorem d_Disc_wordOf_72 : decode prog_2_method_17_code 72 = .ok (.ireturn, 1) := am_row (r := (72, .ireturn, 1)) ro_Disc_wordOf 43 rfl
abbrev y_View_look : MethodName := ⟨"WheelDisc$View", "look", "(LWheelDisc$Disc;)V"⟩
theorem c_View_look : Cond.code y_View_look prog_10_method_2_code 3 none ∈ am_T := am_mem 540 (by decide +kernel) rfl
def rw_View_look : List (Nat × Instr × Nat) := [(0, .aload_n 0, 1), (1, .getfield 29, 3), (4, .ifCond .ne 4, 3), (7, .return_, 1), (8, .aload_n 0, 1), (9, .aload_n 1, 1), (10, .getfield 33, 3), (13, .putfield 22, 3), (16, .aload_n 0, 1), (17, .aload_n 1, 1), (18, .getfield 36, 3), (21, .putfield 26, 3), (24, .iconst 0, 1), (25, .istore_n 2, 1), (26, .iload_n 2, 1), (27, .aload_n 0, 1), (28, .getfield 22, 3), (31, .if_icmp .ge 20, 3), (34, .aload_n 0, 1), (35, .getfield 9, 3), (38, .iload_n 2, 1), (39, .aload_n 1, 1), (40, .iload_n 2, 1), (41, .invokevirtual 37, 3), (44, .iastore, 1), (45, .iinc 2 1, 3), (48, .goto (-22), 3), (51, .aload_n 0, 1), (52, .iconst 0, 1), (53, .putfield 29, 3), (56, .return_, 1)]
theorem ro_View_look : rw_View_look.all (fun r => decide (decode prog_10_method_2_code r.1 = .ok r.2)) = true := by decide +kernel
theorem d_View_look_0 : decode prog_10_method_2_code 0 = .ok (.aload_n 0, 1) := am_row (r := (0, .aload_n 0, 1)) ro_View_look 0 rfl
theorem d_View_look_1 : decode prog_10_method_2_code 1 = .ok (.getfield 29, 3) := am_row (r := (1, .getfield 29, 3)) ro_View_look 1 rfl
theorem d_View_look_4 : decode prog_10_method_2_code 4 = .ok (.ifCond .ne 4, 3) := am_row (r := (4, .ifCond .ne 4, 3)) ro_View_look 2 rfl
theorem d_View_look_7 : decode prog_10_method_2_code 7 = .ok (.return_, 1) := am_row (r := (7, .return_, 1)) ro_View_look 3 rfl
theorem d_View_look_8 : decode prog_10_method_2_code 8 = .ok (.aload_n 0, 1) := am_row (r := (8, .aload_n 0, 1)) ro_View_look 4 rfl
theorem d_View_look_9 : decode prog_10_method_2_code 9 = .ok (.aload_n 1, 1) := am_row (r := (9, .aload_n 1, 1)) ro_View_look 5 rfl
theorem d_View_look_10 : decode prog_10_method_2_code 10 = .ok (.getfield 33, 3) := am_row (r := (10, .getfield 33, 3)) ro_View_look 6 rfl
theorem d_View_look_13 : decode prog_10_method_2_code 13 = .ok (.putfield 22, 3) := am_row (r := (13, .putfield 22, 3)) ro_View_look 7 rfl
theorem d_View_look_16 : decode prog_10_method_2_code 16 = .ok (.aload_n 0, 1) := am_row (r := (16, .aload_n 0, 1)) ro_View_look 8 rfl
theorem d_View_look_17 : decode prog_10_method_2_code 17 = .ok (.aload_n 1, 1) := am_row (r := (17, .aload_n 1, 1)) ro_View_look 9 rfl
theorem d_View_look_18 : decode prog_10_method_2_code 18 = .ok (.getfield 36, 3) := am_row (r := (18, .getfield 36, 3)) ro_View_look 10 rfl
theorem d_View_look_21 : decode prog_10_method_2_code 21 = .ok (.putfield 26, 3) := am_row (r := (21, .putfield 26, 3)) ro_View_look 11 rfl
theorem d_View_look_24 : decode prog_10_method_2_code 24 = .ok (.iconst 0, 1) := am_row (r := (24, .iconst 0, 1)) ro_View_look 12 rfl
theorem d_View_look_25 : decode prog_10_method_2_code 25 = .ok (.istore_n 2, 1) := am_row (r := (25, .istore_n 2, 1)) ro_View_look 13 rfl
theorem d_View_look_26 : decode prog_10_method_2_code 26 = .ok (.iload_n 2, 1) := am_row (r := (26, .iload_n 2, 1)) ro_View_look 14 rfl
theorem d_View_look_27 : decode prog_10_method_2_code 27 = .ok (.aload_n 0, 1) := am_row (r := (27, .aload_n 0, 1)) ro_View_look 15 rfl
theorem d_View_look_28 : decode prog_10_method_2_code 28 = .ok (.getfield 22, 3) := am_row (r := (28, .getfield 22, 3)) ro_View_look 16 rfl
theorem d_View_look_31 : decode prog_10_method_2_code 31 = .ok (.if_icmp .ge 20, 3) := am_row (r := (31, .if_icmp .ge 20, 3)) ro_View_look 17 rfl
theorem d_View_look_34 : decode prog_10_method_2_code 34 = .ok (.aload_n 0, 1) := am_row (r := (34, .aload_n 0, 1)) ro_View_look 18 rfl
theorem d_View_look_35 : decode prog_10_method_2_code 35 = .ok (.getfield 9, 3) := am_row (r := (35, .getfield 9, 3)) ro_View_look 19 rfl
theorem d_View_look_38 : decode prog_10_method_2_code 38 = .ok (.iload_n 2, 1) := am_row (r := (38, .iload_n 2, 1)) ro_View_look 20 rfl
theorem d_View_look_39 : decode prog_10_method_2_code 39 = .ok (.aload_n 1, 1) := am_row (r := (39, .aload_n 1, 1)) ro_View_look 21 rfl
theorem d_View_look_40 : decode prog_10_method_2_code 40 = .ok (.iload_n 2, 1) := am_row (r := (40, .iload_n 2, 1)) ro_View_look 22 rfl
theorem d_View_look_41 : decode prog_10_method_2_code 41 = .ok (.invokevirtual 37, 3) := am_row (r := (41, .invokevirtual 37, 3)) ro_View_look 23 rfl
theorem d_View_look_44 : decode prog_10_method_2_code 44 = .ok (.iastore, 1) := am_row (r := (44, .iastore, 1)) ro_View_look 24 rfl
theorem d_View_look_45 : decode prog_10_method_2_code 45 = .ok (.iinc 2 1, 3) := am_row (r := (45, .iinc 2 1, 3)) ro_View_look 25 rfl
theorem d_View_look_48 : decode prog_10_method_2_code 48 = .ok (.goto (-22), 3) := am_row (r := (48, .goto (-22), 3)) ro_View_look 26 rfl
theorem d_View_look_51 : decode prog_10_method_2_code 51 = .ok (.aload_n 0, 1) := am_row (r := (51, .aload_n 0, 1)) ro_View_look 27 rfl
theorem d_View_look_52 : decode prog_10_method_2_code 52 = .ok (.iconst 0, 1) := am_row (r := (52, .iconst 0, 1)) ro_View_look 28 rfl
theorem d_View_look_53 : decode prog_10_method_2_code 53 = .ok (.putfield 29, 3) := am_row (r := (53, .putfield 29, 3)) ro_View_look 29 rfl
theorem d_View_look_56 : decode prog_10_method_2_code 56 = .ok (.return_, 1) := am_row (r := (56, .return_, 1)) ro_View_look 30 rfl
abbrev y_WD_lookedAt : MethodName := ⟨"WheelDisc", "lookedAt", "()LWheelDisc$View;"⟩
theorem c_WD_lookedAt : Cond.code y_WD_lookedAt prog_1_method_47_code 1 (some (.object "WheelDisc$View")) ∈ am_T := am_mem 536 (by decide +kernel) rfl
def rw_WD_lookedAt : List (Nat × Instr × Nat) := [(0, .aload_n 0, 1), (1, .getfield 33, 3), (4, .aload_n 0, 1), (5, .getfield 19, 3), (8, .invokevirtual 318, 3), (11, .aload_n 0, 1), (12, .getfield 33, 3), (15, .areturn, 1)]
theorem ro_WD_lookedAt : rw_WD_lookedAt.all (fun r => decide (decode prog_1_method_47_code r.1 = .ok r.2)) = true := by decide +kernel
theorem d_WD_lookedAt_0 : decode prog_1_method_47_code 0 = .ok (.aload_n 0, 1) := am_row (r := (0, .aload_n 0, 1)) ro_WD_lookedAt 0 rfl
theorem d_WD_lookedAt_1 : decode prog_1_method_47_code 1 = .ok (.getfield 33, 3) := am_row (r := (1, .getfield 33, 3)) ro_WD_lookedAt 1 rfl
theorem d_WD_lookedAt_4 : decode prog_1_method_47_code 4 = .ok (.aload_n 0, 1) := am_row (r := (4, .aload_n 0, 1)) ro_WD_lookedAt 2 rfl
theorem d_WD_lookedAt_5 : decode prog_1_method_47_code 5 = .ok (.getfield 19, 3) := am_row (r := (5, .getfield 19, 3)) ro_WD_lookedAt 3 rfl
theorem d_WD_lookedAt_8 : decode prog_1_method_47_code 8 = .ok (.invokevirtual 318, 3) := am_row (r := (8, .invokevirtual 318, 3)) ro_WD_lookedAt 4 rfl
theorem d_WD_lookedAt_11 : decode prog_1_method_47_code 11 = .ok (.aload_n 0, 1) := am_row (r := (11, .aload_n 0, 1)) ro_WD_lookedAt 5 rfl
theorem d_WD_lookedAt_12 : decode prog_1_method_47_code 12 = .ok (.getfield 33, 3) := am_row (r := (12, .getfield 33, 3)) ro_WD_lookedAt 6 rfl
theorem d_WD_lookedAt_15 : decode prog_1_method_47_code 15 = .ok (.areturn, 1) := am_row (r := (15, .areturn, 1)) ro_WD_lookedAt 7 rfl
abbrev y_View_allReaders : MethodName := ⟨"WheelDisc$View", "allReaders", "()I"⟩
theorem c_View_allReaders : Cond.code y_View_allReaders prog_10_method_4_code 1 (some .int) ∈ am_T := am_mem 553 (by decide +kernel) rfl
def rw_View_allReaders : List (Nat × Instr × Nat) := [(0, .iconst 1, 1), (1, .aload_n 0, 1), (2, .getfield 26, 3), (5, .ishl, 1), (6, .iconst 1, 1), (7, .isub, 1), (8, .ireturn, 1)]
theorem ro_View_allReaders : rw_View_allReaders.all (fun r => decide (decode prog_10_method_4_code r.1 = .ok r.2)) = true := by decide +kernel
theorem d_View_allReaders_0 : decode prog_10_method_4_code 0 = .ok (.iconst 1, 1) := am_row (r := (0, .iconst 1, 1)) ro_View_allReaders 0 rfl
theorem d_View_allReaders_1 : decode prog_10_method_4_code 1 = .ok (.aload_n 0, 1) := am_row (r := (1, .aload_n 0, 1)) ro_View_allReaders 1 rfl
theorem d_View_allReaders_2 : decode prog_10_method_4_code 2 = .ok (.getfield 26, 3) := am_row (r := (2, .getfield 26, 3)) ro_View_allReaders 2 rfl
theorem d_View_allReaders_5 : decode prog_10_method_4_code 5 = .ok (.ishl, 1) := am_row (r := (5, .ishl, 1)) ro_View_allReaders 3 rfl
theorem d_View_allReaders_6 : decode prog_10_method_4_code 6 = .ok (.iconst 1, 1) := am_row (r := (6, .iconst 1, 1)) ro_View_allReaders 4 rfl
theorem d_View_allReaders_7 : decode prog_10_method_4_code 7 = .ok (.isub, 1) := am_row (r := (7, .isub, 1)) ro_View_allReaders 5 rfl
theorem d_View_allReaders_8 : decode prog_10_method_4_code 8 = .ok (.ireturn, 1) := am_row (r := (8, .ireturn, 1)) ro_View_allReaders 6 rfl
abbrev y_Marks_wipe : MethodName := ⟨"WheelDisc$Marks", "wipe", "()V"⟩
theorem c_Marks_wipe : Cond.code y_Marks_wipe prog_7_method_2_code 1 none ∈ am_T := am_mem 561 (by decide +kernel) rfl
def rw_Marks_wipe : List (Nat × Instr × Nat) := [(0, .aload_n 0, 1), (1, .getfield 9, 3), (4, .lconst 0, 1), (5, .invokestatic 15, 3), (8, .return_, 1)]
theorem ro_Marks_wipe : rw_Marks_wipe.all (fun r => decide (decode prog_7_method_2_code r.1 = .ok r.2)) = true := by decide +kernel
theorem d_Marks_wipe_0 : decode prog_7_method_2_code 0 = .ok (.aload_n 0, 1) := am_row (r := (0, .aload_n 0, 1)) ro_Marks_wipe 0 rfl
theorem d_Marks_wipe_1 : decode prog_7_method_2_code 1 = .ok (.getfield 9, 3) := am_row (r := (1, .getfield 9, 3)) ro_Marks_wipe 1 rfl
theorem d_Marks_wipe_4 : decode prog_7_method_2_code 4 = .ok (.lconst 0, 1) := am_row (r := (4, .lconst 0, 1)) ro_Marks_wipe 2 rfl
theorem d_Marks_wipe_5 : decode prog_7_method_2_code 5 = .ok (.invokestatic 15, 3) := am_row (r := (5, .invokestatic 15, 3)) ro_Marks_wipe 3 rfl
theorem d_Marks_wipe_8 : decode prog_7_method_2_code 8 = .ok (.return_, 1) := am_row (r := (8, .return_, 1)) ro_Marks_wipe 4 rfl
abbrev y_Marks_has : MethodName := ⟨"WheelDisc$Marks", "has", "(I)Z"⟩
theorem c_Marks_has : Cond.code y_Marks_has prog_7_method_3_code 2 (some .boolean) ∈ am_T := am_mem 566 (by decide +kernel) rfl
def rw_Marks_has : List (Nat × Instr × Nat) := [(0, .aload_n 0, 1), (1, .getfield 9, 3), (4, .iconst 0, 1), (5, .iload_n 1, 1), (6, .invokestatic 21, 3), (9, .ireturn, 1)]
theorem ro_Marks_has : rw_Marks_has.all (fun r => decide (decode prog_7_method_3_code r.1 = .ok r.2)) = true := by decide +kernel
theorem d_Marks_has_0 : decode prog_7_method_3_code 0 = .ok (.aload_n 0, 1) := am_row (r := (0, .aload_n 0, 1)) ro_Marks_has 0 rfl
theorem d_Marks_has_1 : decode prog_7_method_3_code 1 = .ok (.getfield 9, 3) := am_row (r := (1, .getfield 9, 3)) ro_Marks_has 1 rfl
theorem d_Marks_has_4 : decode prog_7_method_3_code 4 = .ok (.iconst 0, 1) := am_row (r := (4, .iconst 0, 1)) ro_Marks_has 2 rfl
theorem d_Marks_has_5 : decode prog_7_method_3_code 5 = .ok (.iload_n 1, 1) := am_row (r := (5, .iload_n 1, 1)) ro_Marks_has 3 rfl
theorem d_Marks_has_6 : decode prog_7_method_3_code 6 = .ok (.invokestatic 21, 3) := am_row (r := (6, .invokestatic 21, 3)) ro_Marks_has 4 rfl
theorem d_Marks_has_9 : decode prog_7_method_3_code 9 = .ok (.ireturn, 1) := am_row (r := (9, .ireturn, 1)) ro_Marks_has 5 rfl
abbrev y_Marks_add : MethodName := ⟨"WheelDisc$Marks", "add", "(I)V"⟩
theorem c_Marks_add : Cond.code y_Marks_add prog_7_method_4_code 2 none ∈ am_T := am_mem 571 (by decide +kernel) rfl
def rw_Marks_add : List (Nat × Instr × Nat) := [(0, .aload_n 0, 1), (1, .getfield 9, 3), (4, .iload_n 1, 1), (5, .bipush 6, 2), (7, .ishr, 1), (8, .dup2, 1), (9, .laload, 1), (10, .lconst 1, 1), (11, .iload_n 1, 1), (12, .bipush 63, 2), (14, .iand, 1), (15, .lshl, 1), (16, .lor, 1), (17, .lastore, 1), (18, .return_, 1)]
theorem ro_Marks_add : rw_Marks_add.all (fun r => decide (decode prog_7_method_4_code r.1 = .ok r.2)) = true := by decide +kernel
theorem d_Marks_add_0 : decode prog_7_method_4_code 0 = .ok (.aload_n 0, 1) := am_row (r := (0, .aload_n 0, 1)) ro_Marks_add 0 rfl
theorem d_Marks_add_1 : decode prog_7_method_4_code 1 = .ok (.getfield 9, 3) := am_row (r := (1, .getfield 9, 3)) ro_Marks_add 1 rfl
theorem d_Marks_add_4 : decode prog_7_method_4_code 4 = .ok (.iload_n 1, 1) := am_row (r := (4, .iload_n 1, 1)) ro_Marks_add 2 rfl
theorem d_Marks_add_5 : decode prog_7_method_4_code 5 = .ok (.bipush 6, 2) := am_row (r := (5, .bipush 6, 2)) ro_Marks_add 3 rfl
theorem d_Marks_add_7 : decode prog_7_method_4_code 7 = .ok (.ishr, 1) := am_row (r := (7, .ishr, 1)) ro_Marks_add 4 rfl
theorem d_Marks_add_8 : decode prog_7_method_4_code 8 = .ok (.dup2, 1) := am_row (r := (8, .dup2, 1)) ro_Marks_add 5 rfl
theorem d_Marks_add_9 : decode prog_7_method_4_code 9 = .ok (.laload, 1) := am_row (r := (9, .laload, 1)) ro_Marks_add 6 rfl
theorem d_Marks_add_10 : decode prog_7_method_4_code 10 = .ok (.lconst 1, 1) := am_row (r := (10, .lconst 1, 1)) ro_Marks_add 7 rfl
theorem d_Marks_add_11 : decode prog_7_method_4_code 11 = .ok (.iload_n 1, 1) := am_row (r := (11, .iload_n 1, 1)) ro_Marks_add 8 rfl
theorem d_Marks_add_12 : decode prog_7_method_4_code 12 = .ok (.bipush 63, 2) := am_row (r := (12, .bipush 63, 2)) ro_Marks_add 9 rfl
theorem d_Marks_add_14 : decode prog_7_method_4_code 14 = .ok (.iand, 1) := am_row (r := (14, .iand, 1)) ro_Marks_add 10 rfl
theorem d_Marks_add_15 : decode prog_7_method_4_code 15 = .ok (.lshl, 1) := am_row (r := (15, .lshl, 1)) ro_Marks_add 11 rfl
theorem d_Marks_add_16 : decode prog_7_method_4_code 16 = .ok (.lor, 1) := am_row (r := (16, .lor, 1)) ro_Marks_add 12 rfl
theorem d_Marks_add_17 : decode prog_7_method_4_code 17 = .ok (.lastore, 1) := am_row (r := (17, .lastore, 1)) ro_Marks_add 13 rfl
theorem d_Marks_add_18 : decode prog_7_method_4_code 18 = .ok (.return_, 1) := am_row (r := (18, .return_, 1)) ro_Marks_add 14 rfl
abbrev y_View_allUnlike : MethodName := ⟨"WheelDisc$View", "allUnlike", "(I)Z"⟩
theorem c_View_allUnlike : Cond.code y_View_allUnlike prog_10_method_5_code 4 (some .boolean) ∈ am_T := am_mem 557 (by decide +kernel) rfl
def rw_View_allUnlike : List (Nat × Instr × Nat) := [(0, .aload_n 0, 1), (1, .getfield 18, 3), (4, .invokevirtual 59, 3), (7, .iconst 0, 1), (8, .istore_n 2, 1), (9, .iload_n 2, 1), (10, .aload_n 0, 1), (11, .getfield 22, 3), (14, .if_icmp .ge 39, 3), (17, .aload_n 0, 1), (18, .getfield 9, 3), (21, .iload_n 2, 1), (22, .iaload, 1), (23, .iload_n 1, 1), (24, .iand, 1), (25, .istore_n 3, 1), (26, .aload_n 0, 1), (27, .getfield 18, 3), (30, .iload_n 3, 1), (31, .invokevirtual 62, 3), (34, .ifCond .eq 5, 3), (37, .iconst 0, 1), (38, .ireturn, 1), (39, .aload_n 0, 1), (40, .getfield 18, 3), (43, .iload_n 3, 1), (44, .invokevirtual 65, 3), (47, .iinc 2 1, 3), (50, .goto (-41), 3), (53, .iconst 1, 1), (54, .ireturn, 1)]
theorem ro_View_allUnlike : rw_View_allUnlike.all (fun r => decide (decode prog_10_method_5_code r.1 = .ok r.2)) = true := by decide +kernel
theorem d_View_allUnlike_0 : decode prog_10_method_5_code 0 = .ok (.aload_n 0, 1) := am_row (r := (0, .aload_n 0, 1)) ro_View_allUnlike 0 rfl
theorem d_View_allUnlike_1 : decode prog_10_method_5_code 1 = .ok (.getfield 18, 3) := am_row (r := (1, .getfield 18, 3)) ro_View_allUnlike 1 rfl
theorem d_View_allUnlike_4 : decode prog_10_method_5_code 4 = .ok (.invokevirtual 59, 3) := am_row (r := (4, .invokevirtual 59, 3)) ro_View_allUnlike 2 rfl
theorem d_View_allUnlike_7 : decode prog_10_method_5_code 7 = .ok (.iconst 0, 1) := am_row (r := (7, .iconst 0, 1)) ro_View_allUnlike 3 rfl
theorem d_View_allUnlike_8 : decode prog_10_method_5_code 8 = .ok (.istore_n 2, 1) := am_row (r := (8, .istore_n 2, 1)) ro_View_allUnlike 4 rfl
theorem d_View_allUnlike_9 : decode prog_10_method_5_code 9 = .ok (.iload_n 2, 1) := am_row (r := (9, .iload_n 2, 1)) ro_View_allUnlike 5 rfl
theorem d_View_allUnlike_10 : decode prog_10_method_5_code 10 = .ok (.aload_n 0, 1) := am_row (r := (10, .aload_n 0, 1)) ro_View_allUnlike 6 rfl
theorem d_View_allUnlike_11 : decode prog_10_method_5_code 11 = .ok (.getfield 22, 3) := am_row (r := (11, .getfield 22, 3)) ro_View_allUnlike 7 rfl
theorem d_View_allUnlike_14 : decode prog_10_method_5_code 14 = .ok (.if_icmp .ge 39, 3) := am_row (r := (14, .if_icmp .ge 39, 3)) ro_View_allUnlike 8 rfl
theorem d_View_allUnlike_17 : decode prog_10_method_5_code 17 = .ok (.aload_n 0, 1) := am_row (r := (17, .aload_n 0, 1)) ro_View_allUnlike 9 rfl
theorem d_View_allUnlike_18 : decode prog_10_method_5_code 18 = .ok (.getfield 9, 3) := am_row (r := (18, .getfield 9, 3)) ro_View_allUnlike 10 rfl
theorem d_View_allUnlike_21 : decode prog_10_method_5_code 21 = .ok (.iload_n 2, 1) := am_row (r := (21, .iload_n 2, 1)) ro_View_allUnlike 11 rfl
theorem d_View_allUnlike_22 : decode prog_10_method_5_code 22 = .ok (.iaload, 1) := am_row (r := (22, .iaload, 1)) ro_View_allUnlike 12 rfl
theorem d_View_allUnlike_23 : decode prog_10_method_5_code 23 = .ok (.iload_n 1, 1) := am_row (r := (23, .iload_n 1, 1)) ro_View_allUnlike 13 rfl
theorem d_View_allUnlike_24 : decode prog_10_method_5_code 24 = .ok (.iand, 1) := am_row (r := (24, .iand, 1)) ro_View_allUnlike 14 rfl
theorem d_View_allUnlike_25 : decode prog_10_method_5_code 25 = .ok (.istore_n 3, 1) := am_row (r := (25, .istore_n 3, 1)) ro_View_allUnlike 15 rfl
theorem d_View_allUnlike_26 : decode prog_10_method_5_code 26 = .ok (.aload_n 0, 1) := am_row (r := (26, .aload_n 0, 1)) ro_View_allUnlike 16 rfl
theorem d_View_allUnlike_27 : decode prog_10_method_5_code 27 = .ok (.getfield 18, 3) := am_row (r := (27, .getfield 18, 3)) ro_View_allUnlike 17 rfl
theorem d_View_allUnlike_30 : decode prog_10_method_5_code 30 = .ok (.iload_n 3, 1) := am_row (r := (30, .iload_n 3, 1)) ro_View_allUnlike 18 rfl
theorem d_View_allUnlike_31 : decode prog_10_method_5_code 31 = .ok (.invokevirtual 62, 3) := am_row (r := (31, .invokevirtual 62, 3)) ro_View_allUnlike 19 rfl
theorem d_View_allUnlike_34 : decode prog_10_method_5_code 34 = .ok (.ifCond .eq 5, 3) := am_row (r := (34, .ifCond .eq 5, 3)) ro_View_allUnlike 20 rfl
theorem d_View_allUnlike_37 : decode prog_10_method_5_code 37 = .ok (.iconst 0, 1) := am_row (r := (37, .iconst 0, 1)) ro_View_allUnlike 21 rfl
theorem d_View_allUnlike_38 : decode prog_10_method_5_code 38 = .ok (.ireturn, 1) := am_row (r := (38, .ireturn, 1)) ro_View_allUnlike 22 rfl
theorem d_View_allUnlike_39 : decode prog_10_method_5_code 39 = .ok (.aload_n 0, 1) := am_row (r := (39, .aload_n 0, 1)) ro_View_allUnlike 23 rfl
theorem d_View_allUnlike_40 : decode prog_10_method_5_code 40 = .ok (.getfield 18, 3) := am_row (r := (40, .getfield 18, 3)) ro_View_allUnlike 24 rfl
theorem d_View_allUnlike_43 : decode prog_10_method_5_code 43 = .ok (.iload_n 3, 1) := am_row (r := (43, .iload_n 3, 1)) ro_View_allUnlike 25 rfl
theorem d_View_allUnlike_44 : decode prog_10_method_5_code 44 = .ok (.invokevirtual 65, 3) := am_row (r := (44, .invokevirtual 65, 3)) ro_View_allUnlike 26 rfl
theorem d_View_allUnlike_47 : decode prog_10_method_5_code 47 = .ok (.iinc 2 1, 3) := am_row (r := (47, .iinc 2 1, 3)) ro_View_allUnlike 27 rfl
theorem d_View_allUnlike_50 : decode prog_10_method_5_code 50 = .ok (.goto (-41), 3) := am_row (r := (50, .goto (-41), 3)) ro_View_allUnlike 28 rfl
theorem d_View_allUnlike_53 : decode prog_10_method_5_code 53 = .ok (.iconst 1, 1) := am_row (r := (53, .iconst 1, 1)) ro_View_allUnlike 29 rfl
theorem d_View_allUnlike_54 : decode prog_10_method_5_code 54 = .ok (.ireturn, 1) := am_row (r := (54, .ireturn, 1)) ro_View_allUnlike 30 rfl
abbrev y_View_unlikeBehind : MethodName := ⟨"WheelDisc$View", "unlikeBehind", "(I)I"⟩
theorem c_View_unlikeBehind : Cond.code y_View_unlikeBehind prog_10_method_7_code 2 (some .int) ∈ am_T := am_mem 579 (by decide +kernel) rfl
def rw_View_unlikeBehind : List (Nat × Instr × Nat) := [(0, .aload_n 0, 1), (1, .getfield 9, 3), (4, .iload_n 1, 1), (5, .iaload, 1), (6, .aload_n 0, 1), (7, .getfield 9, 3), (10, .iload_n 1, 1), (11, .iconst 1, 1), (12, .aload_n 0, 1), (13, .getfield 22, 3), (16, .invokestatic 77, 3), (19, .iaload, 1), (20, .ixor, 1), (21, .ireturn, 1)]
theorem ro_View_unlikeBehind : rw_View_unlikeBehind.all (fun r => decide (decode prog_10_method_7_code r.1 = .ok r.2)) = true := by decide +kernel
theorem d_View_unlikeBehind_0 : decode prog_10_method_7_code 0 = .ok (.aload_n 0, 1) := am_row (r := (0, .aload_n 0, 1)) ro_View_unlikeBehind 0 rfl
theorem d_View_unlikeBehind_1 : decode prog_10_method_7_code 1 = .ok (.getfield 9, 3) := am_row (r := (1, .getfield 9, 3)) ro_View_unlikeBehind 1 rfl
theorem d_View_unlikeBehind_4 : decode prog_10_method_7_code 4 = .ok (.iload_n 1, 1) := am_row (r := (4, .iload_n 1, 1)) ro_View_unlikeBehind 2 rfl
theorem d_View_unlikeBehind_5 : decode prog_10_method_7_code 5 = .ok (.iaload, 1) := am_row (r := (5, .iaload, 1)) ro_View_unlikeBehind 3 rfl
theorem d_View_unlikeBehind_6 : decode prog_10_method_7_code 6 = .ok (.aload_n 0, 1) := am_row (r := (6, .aload_n 0, 1)) ro_View_unlikeBehind 4 rfl
theorem d_View_unlikeBehind_7 : decode prog_10_method_7_code 7 = .ok (.getfield 9, 3) := am_row (r := (7, .getfield 9, 3)) ro_View_unlikeBehind 5 rfl
theorem d_View_unlikeBehind_10 : decode prog_10_method_7_code 10 = .ok (.iload_n 1, 1) := am_row (r := (10, .iload_n 1, 1)) ro_View_unlikeBehind 6 rfl
theorem d_View_unlikeBehind_11 : decode prog_10_method_7_code 11 = .ok (.iconst 1, 1) := am_row (r := (11, .iconst 1, 1)) ro_View_unlikeBehind 7 rfl
theorem d_View_unlikeBehind_12 : decode prog_10_method_7_code 12 = .ok (.aload_n 0, 1) := am_row (r := (12, .aload_n 0, 1)) ro_View_unlikeBehind 8 rfl
theorem d_View_unlikeBehind_13 : decode prog_10_method_7_code 13 = .ok (.getfield 22, 3) := am_row (r := (13, .getfield 22, 3)) ro_View_unlikeBehind 9 rfl
theorem d_View_unlikeBehind_16 : decode prog_10_method_7_code 16 = .ok (.invokestatic 77, 3) := am_row (r := (16, .invokestatic 77, 3)) ro_View_unlikeBehind 10 rfl
theorem d_View_unlikeBehind_19 : decode prog_10_method_7_code 19 = .ok (.iaload, 1) := am_row (r := (19, .iaload, 1)) ro_View_unlikeBehind 11 rfl
theorem d_View_unlikeBehind_20 : decode prog_10_method_7_code 20 = .ok (.ixor, 1) := am_row (r := (20, .ixor, 1)) ro_View_unlikeBehind 12 rfl
theorem d_View_unlikeBehind_21 : decode prog_10_method_7_code 21 = .ok (.ireturn, 1) := am_row (r := (21, .ireturn, 1)) ro_View_unlikeBehind 13 rfl
abbrev y_Int_bitCount : MethodName := ⟨"java/lang/Integer", "bitCount", "(I)I"⟩
theorem c_Int_bitCount : Cond.code y_Int_bitCount prog_14_method_49_code 1 (some .int) ∈ am_T := am_mem 583 (by decide +kernel) rfl
def rw_Int_bitCount : List (Nat × Instr × Nat) := [(0, .iload_n 0, 1), (1, .iload_n 0, 1), (2, .iconst 1, 1), (3, .iushr, 1), (4, .ldc_w 265, 3), (7, .iand, 1), (8, .isub, 1), (9, .istore_n 0, 1), (10, .iload_n 0, 1), (11, .ldc_w 266, 3), (14, .iand, 1), (15, .iload_n 0, 1), (16, .iconst 2, 1), (17, .iushr, 1), (18, .ldc_w 266, 3), (21, .iand, 1), (22, .iadd, 1), (23, .istore_n 0, 1), (24, .iload_n 0, 1), (25, .iload_n 0, 1), (26, .iconst 4, 1), (27, .iushr, 1), (28, .iadd, 1), (29, .ldc_w 267, 3), (32, .iand, 1), (33, .istore_n 0, 1), (34, .iload_n 0, 1), (35, .iload_n 0, 1), (36, .bipush 8, 2), (38, .iushr, 1), (39, .iadd, 1), (40, .istore_n 0, 1), (41, .iload_n 0, 1), (42, .iload_n 0, 1), (43, .bipush 16, 2), (45, .iushr, 1), (46, .iadd, 1), (47, .istore_n 0, 1), (48, .iload_n 0, 1), (49, .bipush 63, 2), (51, .iand, 1), (52, .ireturn, 1)]
theorem ro_Int_bitCount : rw_Int_bitCount.all (fun r => decide (decode prog_14_method_49_code r.1 = .ok r.2)) = true := by decide +kernel
theorem d_Int_bitCount_0 : decode prog_14_method_49_code 0 = .ok (.iload_n 0, 1) := am_row (r := (0, .iload_n 0, 1)) ro_Int_bitCount 0 rfl
theorem d_Int_bitCount_1 : decode prog_14_method_49_code 1 = .ok (.iload_n 0, 1) := am_row (r := (1, .iload_n 0, 1)) ro_Int_bitCount 1 rfl
theorem d_Int_bitCount_2 : decode prog_14_method_49_code 2 = .ok (.iconst 1, 1) := am_row (r := (2, .iconst 1, 1)) ro_Int_bitCount 2 rfl
theorem d_Int_bitCount_3 : decode prog_14_method_49_code 3 = .ok (.iushr, 1) := am_row (r := (3, .iushr, 1)) ro_Int_bitCount 3 rfl
theorem d_Int_bitCount_4 : decode prog_14_method_49_code 4 = .ok (.ldc_w 265, 3) := am_row (r := (4, .ldc_w 265, 3)) ro_Int_bitCount 4 rfl
theorem d_Int_bitCount_7 : decode prog_14_method_49_code 7 = .ok (.iand, 1) := am_row (r := (7, .iand, 1)) ro_Int_bitCount 5 rfl
theorem d_Int_bitCount_8 : decode prog_14_method_49_code 8 = .ok (.isub, 1) := am_row (r := (8, .isub, 1)) ro_Int_bitCount 6 rfl
theorem d_Int_bitCount_9 : decode prog_14_method_49_code 9 = .ok (.istore_n 0, 1) := am_row (r := (9, .istore_n 0, 1)) ro_Int_bitCount 7 rfl
theorem d_Int_bitCount_10 : decode prog_14_method_49_code 10 = .ok (.iload_n 0, 1) := am_row (r := (10, .iload_n 0, 1)) ro_Int_bitCount 8 rfl
theorem d_Int_bitCount_11 : decode prog_14_method_49_code 11 = .ok (.ldc_w 266, 3) := am_row (r := (11, .ldc_w 266, 3)) ro_Int_bitCount 9 rfl
theorem d_Int_bitCount_14 : decode prog_14_method_49_code 14 = .ok (.iand, 1) := am_row (r := (14, .iand, 1)) ro_Int_bitCount 10 rfl
theorem d_Int_bitCount_15 : decode prog_14_method_49_code 15 = .ok (.iload_n 0, 1) := am_row (r := (15, .iload_n 0, 1)) ro_Int_bitCount 11 rfl
theorem d_Int_bitCount_16 : decode prog_14_method_49_code 16 = .ok (.iconst 2, 1) := am_row (r := (16, .iconst 2, 1)) ro_Int_bitCount 12 rfl
theorem d_Int_bitCount_17 : decode prog_14_method_49_code 17 = .ok (.iushr, 1) := am_row (r := (17, .iushr, 1)) ro_Int_bitCount 13 rfl
theorem d_Int_bitCount_18 : decode prog_14_method_49_code 18 = .ok (.ldc_w 266, 3) := am_row (r := (18, .ldc_w 266, 3)) ro_Int_bitCount 14 rfl
theorem d_Int_bitCount_21 : decode prog_14_method_49_code 21 = .ok (.iand, 1) := am_row (r := (21, .iand, 1)) ro_Int_bitCount 15 rfl
theorem d_Int_bitCount_22 : decode prog_14_method_49_code 22 = .ok (.iadd, 1) := am_row (r := (22, .iadd, 1)) ro_Int_bitCount 16 rfl
theorem d_Int_bitCount_23 : decode prog_14_method_49_code 23 = .ok (.istore_n 0, 1) := am_row (r := (23, .istore_n 0, 1)) ro_Int_bitCount 17 rfl
theorem d_Int_bitCount_24 : decode prog_14_method_49_code 24 = .ok (.iload_n 0, 1) := am_row (r := (24, .iload_n 0, 1)) ro_Int_bitCount 18 rfl
theorem d_Int_bitCount_25 : decode prog_14_method_49_code 25 = .ok (.iload_n 0, 1) := am_row (r := (25, .iload_n 0, 1)) ro_Int_bitCount 19 rfl
theorem d_Int_bitCount_26 : decode prog_14_method_49_code 26 = .ok (.iconst 4, 1) := am_row (r := (26, .iconst 4, 1)) ro_Int_bitCount 20 rfl
theorem d_Int_bitCount_27 : decode prog_14_method_49_code 27 = .ok (.iushr, 1) := am_row (r := (27, .iushr, 1)) ro_Int_bitCount 21 rfl
theorem d_Int_bitCount_28 : decode prog_14_method_49_code 28 = .ok (.iadd, 1) := am_row (r := (28, .iadd, 1)) ro_Int_bitCount 22 rfl
theorem d_Int_bitCount_29 : decode prog_14_method_49_code 29 = .ok (.ldc_w 267, 3) := am_row (r := (29, .ldc_w 267, 3)) ro_Int_bitCount 23 rfl
theorem d_Int_bitCount_32 : decode prog_14_method_49_code 32 = .ok (.iand, 1) := am_row (r := (32, .iand, 1)) ro_Int_bitCount 24 rfl
theorem d_Int_bitCount_33 : decode prog_14_method_49_code 33 = .ok (.istore_n 0, 1) := am_row (r := (33, .istore_n 0, 1)) ro_Int_bitCount 25 rfl
theorem d_Int_bitCount_34 : decode prog_14_method_49_code 34 = .ok (.iload_n 0, 1) := am_row (r := (34, .iload_n 0, 1)) ro_Int_bitCount 26 rfl
theorem d_Int_bitCount_35 : decode prog_14_method_49_code 35 = .ok (.iload_n 0, 1) := am_row (r := (35, .iload_n 0, 1)) ro_Int_bitCount 27 rfl
theorem d_Int_bitCount_36 : decode prog_14_method_49_code 36 = .ok (.bipush 8, 2) := am_row (r := (36, .bipush 8, 2)) ro_Int_bitCount 28 rfl
theorem d_Int_bitCount_38 : decode prog_14_method_49_code 38 = .ok (.iushr, 1) := am_row (r := (38, .iushr, 1)) ro_Int_bitCount 29 rfl
theorem d_Int_bitCount_39 : decode prog_14_method_49_code 39 = .ok (.iadd, 1) := am_row (r := (39, .iadd, 1)) ro_Int_bitCount 30 rfl
theorem d_Int_bitCount_40 : decode prog_14_method_49_code 40 = .ok (.istore_n 0, 1) := am_row (r := (40, .istore_n 0, 1)) ro_Int_bitCount 31 rfl
theorem d_Int_bitCount_41 : decode prog_14_method_49_code 41 = .ok (.iload_n 0, 1) := am_row (r := (41, .iload_n 0, 1)) ro_Int_bitCount 32 rfl
theorem d_Int_bitCount_42 : decode prog_14_method_49_code 42 = .ok (.iload_n 0, 1) := am_row (r := (42, .iload_n 0, 1)) ro_Int_bitCount 33 rfl
theorem d_Int_bitCount_43 : decode prog_14_method_49_code 43 = .ok (.bipush 16, 2) := am_row (r := (43, .bipush 16, 2)) ro_Int_bitCount 34 rfl
theorem d_Int_bitCount_45 : decode prog_14_method_49_code 45 = .ok (.iushr, 1) := am_row (r := (45, .iushr, 1)) ro_Int_bitCount 35 rfl
theorem d_Int_bitCount_46 : decode prog_14_method_49_code 46 = .ok (.iadd, 1) := am_row (r := (46, .iadd, 1)) ro_Int_bitCount 36 rfl
theorem d_Int_bitCount_47 : decode prog_14_method_49_code 47 = .ok (.istore_n 0, 1) := am_row (r := (47, .istore_n 0, 1)) ro_Int_bitCount 37 rfl
theorem d_Int_bitCount_48 : decode prog_14_method_49_code 48 = .ok (.iload_n 0, 1) := am_row (r := (48, .iload_n 0, 1)) ro_Int_bitCount 38 rfl
theorem d_Int_bitCount_49 : decode prog_14_method_49_code 49 = .ok (.bipush 63, 2) := am_row (r := (49, .bipush 63, 2)) ro_Int_bitCount 39 rfl
theorem d_Int_bitCount_51 : decode prog_14_method_49_code 51 = .ok (.iand, 1) := am_row (r := (51, .iand, 1)) ro_Int_bitCount 40 rfl
theorem d_Int_bitCount_52 : decode prog_14_method_49_code 52 = .ok (.ireturn, 1) := am_row (r := (52, .ireturn, 1)) ro_Int_bitCount 41 rfl
abbrev y_View_stepsAreSingle : MethodName := ⟨"WheelDisc$View", "stepsAreSingle", "()Z"⟩
theorem c_View_stepsAreSingle : Cond.code y_View_stepsAreSingle prog_10_method_6_code 2 (some .boolean) ∈ am_T := am_mem 575 (by decide +kernel) rfl
def rw_View_stepsAreSingle : List (Nat × Instr × Nat) := [(0, .iconst 0, 1), (1, .istore_n 1, 1), (2, .iload_n 1, 1), (3, .aload_n 0, 1), (4, .getfield 22, 3), (7, .if_icmp .ge 23, 3), (10, .aload_n 0, 1), (11, .iload_n 1, 1), (12, .invokevirtual 69, 3), (15, .invokestatic 72, 3), (18, .iconst 1, 1), (19, .if_icmp .eq 5, 3), (22, .iconst 0, 1), (23, .ireturn, 1), (24, .iinc 1 1, 3), (27, .goto (-25), 3), (30, .iconst 1, 1), (31, .ireturn, 1)]
theorem ro_View_stepsAreSingle : rw_View_stepsAreSingle.all (fun r => decide (decode prog_10_method_6_code r.1 = .ok r.2)) = true := by decide +kernel
theorem d_View_stepsAreSingle_0 : decode prog_10_method_6_code 0 = .ok (.iconst 0, 1) := am_row (r := (0, .iconst 0, 1)) ro_View_stepsAreSingle 0 rfl
theorem d_View_stepsAreSingle_1 : decode prog_10_method_6_code 1 = .ok (.istore_n 1, 1) := am_row (r := (1, .istore_n 1, 1)) ro_View_stepsAreSingle 1 rfl
theorem d_View_stepsAreSingle_2 : decode prog_10_method_6_code 2 = .ok (.iload_n 1, 1) := am_row (r := (2, .iload_n 1, 1)) ro_View_stepsAreSingle 2 rfl
theorem d_View_stepsAreSingle_3 : decode prog_10_method_6_code 3 = .ok (.aload_n 0, 1) := am_row (r := (3, .aload_n 0, 1)) ro_View_stepsAreSingle 3 rfl
theorem d_View_stepsAreSingle_4 : decode prog_10_method_6_code 4 = .ok (.getfield 22, 3) := am_row (r := (4, .getfield 22, 3)) ro_View_stepsAreSingle 4 rfl
theorem d_View_stepsAreSingle_7 : decode prog_10_method_6_code 7 = .ok (.if_icmp .ge 23, 3) := am_row (r := (7, .if_icmp .ge 23, 3)) ro_View_stepsAreSingle 5 rfl
theorem d_View_stepsAreSingle_10 : decode prog_10_method_6_code 10 = .ok (.aload_n 0, 1) := am_row (r := (10, .aload_n 0, 1)) ro_View_stepsAreSingle 6 rfl
theorem d_View_stepsAreSingle_11 : decode prog_10_method_6_code 11 = .ok (.iload_n 1, 1) := am_row (r := (11, .iload_n 1, 1)) ro_View_stepsAreSingle 7 rfl
theorem d_View_stepsAreSingle_12 : decode prog_10_method_6_code 12 = .ok (.invokevirtual 69, 3) := am_row (r := (12, .invokevirtual 69, 3)) ro_View_stepsAreSingle 8 rfl
theorem d_View_stepsAreSingle_15 : decode prog_10_method_6_code 15 = .ok (.invokestatic 72, 3) := am_row (r := (15, .invokestatic 72, 3)) ro_View_stepsAreSingle 9 rfl
theorem d_View_stepsAreSingle_18 : decode prog_10_method_6_code 18 = .ok (.iconst 1, 1) := am_row (r := (18, .iconst 1, 1)) ro_View_stepsAreSingle 10 rfl
theorem d_View_stepsAreSingle_19 : decode prog_10_method_6_code 19 = .ok (.if_icmp .eq 5, 3) := am_row (r := (19, .if_icmp .eq 5, 3)) ro_View_stepsAreSingle 11 rfl
theorem d_View_stepsAreSingle_22 : decode prog_10_method_6_code 22 = .ok (.iconst 0, 1) := am_row (r := (22, .iconst 0, 1)) ro_View_stepsAreSingle 12 rfl
theorem d_View_stepsAreSingle_23 : decode prog_10_method_6_code 23 = .ok (.ireturn, 1) := am_row (r := (23, .ireturn, 1)) ro_View_stepsAreSingle 13 rfl
theorem d_View_stepsAreSingle_24 : decode prog_10_method_6_code 24 = .ok (.iinc 1 1, 3) := am_row (r := (24, .iinc 1 1, 3)) ro_View_stepsAreSingle 14 rfl
theorem d_View_stepsAreSingle_27 : decode prog_10_method_6_code 27 = .ok (.goto (-25), 3) := am_row (r := (27, .goto (-25), 3)) ro_View_stepsAreSingle 15 rfl
theorem d_View_stepsAreSingle_30 : decode prog_10_method_6_code 30 = .ok (.iconst 1, 1) := am_row (r := (30, .iconst 1, 1)) ro_View_stepsAreSingle 16 rfl
theorem d_View_stepsAreSingle_31 : decode prog_10_method_6_code 31 = .ok (.ireturn, 1) := am_row (r := (31, .ireturn, 1)) ro_View_stepsAreSingle 17 rfl
abbrev y_Disc_placesFollowOneAnother : MethodName := ⟨"WheelDisc$Disc", "placesFollowOneAnother", "()Z"⟩
theorem c_Disc_placesFollowOneAnother : Cond.code y_Disc_placesFollowOneAnother prog_2_method_18_code 2 (some .boolean) ∈ am_T := am_mem 590 (by decide +kernel) rfl
def rw_Disc_placesFollowOneAnother : List (Nat × Instr × Nat) := [(0, .iconst 1, 1), (1, .istore_n 1, 1), (2, .iload_n 1, 1), (3, .aload_n 0, 1), (4, .getfield 29, 3), (7, .if_icmp .ge 36, 3), (10, .aload_n 0, 1), (11, .getfield 19, 3), (14, .iload_n 1, 1), (15, .iaload, 1), (16, .aload_n 0, 1), (17, .getfield 19, 3), (20, .iload_n 1, 1), (21, .iconst 1, 1), (22, .isub, 1), (23, .iaload, 1), (24, .iconst 1, 1), (25, .aload_n 0, 1), (26, .getfield 22, 3), (29, .invokestatic 64, 3), (32, .if_icmp .eq 5, 3), (35, .iconst 0, 1), (36, .ireturn, 1), (37, .iinc 1 1, 3), (40, .goto (-38), 3), (43, .iconst 1, 1), (44, .ireturn, 1)]
theorem ro_Disc_placesFollowOneAnother : rw_Disc_placesFollowOneAnother.all (fun r => decide (decode prog_2_method_18_code r.1 = .ok r.2)) = true := by decide +kernel
theorem d_Disc_placesFollowOneAnother_0 : decode prog_2_method_18_code 0 = .ok (.iconst 1, 1) := am_row (r := (0, .iconst 1, 1)) ro_Disc_placesFollowOneAnother 0 rfl
theorem d_Disc_placesFollowOneAnother_1 : decode prog_2_method_18_code 1 = .ok (.istore_n 1, 1) := am_row (r := (1, .istore_n 1, 1)) ro_Disc_placesFollowOneAnother 1 rfl
theorem d_Disc_placesFollowOneAnother_2 : decode prog_2_method_18_code 2 = .ok (.iload_n 1, 1) := am_row (r := (2, .iload_n 1, 1)) ro_Disc_placesFollowOneAnother 2 rfl
theorem d_Disc_placesFollowOneAnother_3 : decode prog_2_method_18_code 3 = .ok (.aload_n 0, 1) := am_row (r := (3, .aload_n 0, 1)) ro_Disc_placesFollowOneAnother 3 rfl
theorem d_Disc_placesFollowOneAnother_4 : decode prog_2_method_18_code 4 = .ok (.getfield 29, 3) := am_row (r := (4, .getfield 29, 3)) ro_Disc_placesFollowOneAnother 4 rfl
theorem d_Disc_placesFollowOneAnother_7 : decode prog_2_method_18_code 7 = .ok (.if_icmp .ge 36, 3) := am_row (r := (7, .if_icmp .ge 36, 3)) ro_Disc_placesFollowOneAnother 5 rfl
theorem d_Disc_placesFollowOneAnother_10 : decode prog_2_method_18_code 10 = .ok (.aload_n 0, 1) := am_row (r := (10, .aload_n 0, 1)) ro_Disc_placesFollowOneAnother 6 rfl
theorem d_Disc_placesFollowOneAnother_11 : decode prog_2_method_18_code 11 = .ok (.getfield 19, 3) := am_row (r := (11, .getfield 19, 3)) ro_Disc_placesFollowOneAnother 7 rfl
theorem d_Disc_placesFollowOneAnother_14 : decode prog_2_method_18_code 14 = .ok (.iload_n 1, 1) := am_row (r := (14, .iload_n 1, 1)) ro_Disc_placesFollowOneAnother 8 rfl
theorem d_Disc_placesFollowOneAnother_15 : decode prog_2_method_18_code 15 = .ok (.iaload, 1) := am_row (r := (15, .iaload, 1)) ro_Disc_placesFollowOneAnother 9 rfl
theorem d_Disc_placesFollowOneAnother_16 : decode prog_2_method_18_code 16 = .ok (.aload_n 0, 1) := am_row (r := (16, .aload_n 0, 1)) ro_Disc_placesFollowOneAnother 10 rfl
theorem d_Disc_placesFollowOneAnother_17 : decode prog_2_method_18_code 17 = .ok (.getfield 19, 3) := am_row (r := (17, .getfield 19, 3)) ro_Disc_placesFollowOneAnother 11 rfl
theorem d_Disc_placesFollowOneAnother_20 : decode prog_2_method_18_code 20 = .ok (.iload_n 1, 1) := am_row (r := (20, .iload_n 1, 1)) ro_Disc_placesFollowOneAnother 12 rfl
theorem d_Disc_placesFollowOneAnother_21 : decode prog_2_method_18_code 21 = .ok (.iconst 1, 1) := am_row (r := (21, .iconst 1, 1)) ro_Disc_placesFollowOneAnother 13 rfl
theorem d_Disc_placesFollowOneAnother_22 : decode prog_2_method_18_code 22 = .ok (.isub, 1) := am_row (r := (22, .isub, 1)) ro_Disc_placesFollowOneAnother 14 rfl
theorem d_Disc_placesFollowOneAnother_23 : decode prog_2_method_18_code 23 = .ok (.iaload, 1) := am_row (r := (23, .iaload, 1)) ro_Disc_placesFollowOneAnother 15 rfl
theorem d_Disc_placesFollowOneAnother_24 : decode prog_2_method_18_code 24 = .ok (.iconst 1, 1) := am_row (r := (24, .iconst 1, 1)) ro_Disc_placesFollowOneAnother 16 rfl
theorem d_Disc_placesFollowOneAnother_25 : decode prog_2_method_18_code 25 = .ok (.aload_n 0, 1) := am_row (r := (25, .aload_n 0, 1)) ro_Disc_placesFollowOneAnother 17 rfl
theorem d_Disc_placesFollowOneAnother_26 : decode prog_2_method_18_code 26 = .ok (.getfield 22, 3) := am_row (r := (26, .getfield 22, 3)) ro_Disc_placesFollowOneAnother 18 rfl
theorem d_Disc_placesFollowOneAnother_29 : decode prog_2_method_18_code 29 = .ok (.invokestatic 64, 3) := am_row (r := (29, .invokestatic 64, 3)) ro_Disc_placesFollowOneAnother 19 rfl
theorem d_Disc_placesFollowOneAnother_32 : decode prog_2_method_18_code 32 = .ok (.if_icmp .eq 5, 3) := am_row (r := (32, .if_icmp .eq 5, 3)) ro_Disc_placesFollowOneAnother 20 rfl
theorem d_Disc_placesFollowOneAnother_35 : decode prog_2_method_18_code 35 = .ok (.iconst 0, 1) := am_row (r := (35, .iconst 0, 1)) ro_Disc_placesFollowOneAnother 21 rfl
theorem d_Disc_placesFollowOneAnother_36 : decode prog_2_method_18_code 36 = .ok (.ireturn, 1) := am_row (r := (36, .ireturn, 1)) ro_Disc_placesFollowOneAnother 22 rfl
theorem d_Disc_placesFollowOneAnother_37 : decode prog_2_method_18_code 37 = .ok (.iinc 1 1, 3) := am_row (r := (37, .iinc 1 1, 3)) ro_Disc_placesFollowOneAnother 23 rfl
theorem d_Disc_placesFollowOneAnother_40 : decode prog_2_method_18_code 40 = .ok (.goto (-38), 3) := am_row (r := (40, .goto (-38), 3)) ro_Disc_placesFollowOneAnother 24 rfl
theorem d_Disc_placesFollowOneAnother_43 : decode prog_2_method_18_code 43 = .ok (.iconst 1, 1) := am_row (r := (43, .iconst 1, 1)) ro_Disc_placesFollowOneAnother 25 rfl
theorem d_Disc_placesFollowOneAnother_44 : decode prog_2_method_18_code 44 = .ok (.ireturn, 1) := am_row (r := (44, .ireturn, 1)) ro_Disc_placesFollowOneAnother 26 rfl
abbrev y_View_kindOf : MethodName := ⟨"WheelDisc$View", "kindOf", "(LWheelDisc$Disc;)I"⟩
theorem c_View_kindOf : Cond.code y_View_kindOf prog_10_method_3_code 3 (some .int) ∈ am_T := am_mem 549 (by decide +kernel) rfl
def rw_View_kindOf : List (Nat × Instr × Nat) := [(0, .aload_n 0, 1), (1, .aload_n 0, 1), (2, .invokevirtual 41, 3), (5, .invokevirtual 45, 3), (8, .ifCond .ne 5, 3), (11, .iconst 0, 1), (12, .ireturn, 1), (13, .aload_n 0, 1), (14, .invokevirtual 49, 3), (17, .istore_n 2, 1), (18, .aload_n 1, 1), (19, .getfield 53, 3), (22, .iconst 1, 1), (23, .if_icmp .ne 9, 3), (26, .iload_n 2, 1), (27, .ifCond .eq 5, 3), (30, .iconst 3, 1), (31, .ireturn, 1), (32, .aload_n 1, 1), (33, .getfield 53, 3), (36, .iconst 1, 1), (37, .if_icmp .ne 12, 3), (40, .aload_n 1, 1), (41, .invokevirtual 56, 3), (44, .ifCond .eq 5, 3), (47, .iconst 4, 1), (48, .ireturn, 1), (49, .iload_n 2, 1), (50, .ifCond .eq 7, 3), (53, .iconst 2, 1), (54, .goto 4, 3), (57, .iconst 1, 1), (58, .ireturn, 1)]
theorem ro_View_kindOf : rw_View_kindOf.all (fun r => decide (decode prog_10_method_3_code r.1 = .ok r.2)) = true := by decide +kernel
theorem d_View_kindOf_0 : decode prog_10_method_3_code 0 = .ok (.aload_n 0, 1) := am_row (r := (0, .aload_n 0, 1)) ro_View_kindOf 0 rfl
theorem d_View_kindOf_1 : decode prog_10_method_3_code 1 = .ok (.aload_n 0, 1) := am_row (r := (1, .aload_n 0, 1)) ro_View_kindOf 1 rfl
theorem d_View_kindOf_2 : decode prog_10_method_3_code 2 = .ok (.invokevirtual 41, 3) := am_row (r := (2, .invokevirtual 41, 3)) ro_View_kindOf 2 rfl
theorem d_View_kindOf_5 : decode prog_10_method_3_code 5 = .ok (.invokevirtual 45, 3) := am_row (r := (5, .invokevirtual 45, 3)) ro_View_kindOf 3 rfl
theorem d_View_kindOf_8 : decode prog_10_method_3_code 8 = .ok (.ifCond .ne 5, 3) := am_row (r := (8, .ifCond .ne 5, 3)) ro_View_kindOf 4 rfl
theorem d_View_kindOf_11 : decode prog_10_method_3_code 11 = .ok (.iconst 0, 1) := am_row (r := (11, .iconst 0, 1)) ro_View_kindOf 5 rfl
theorem d_View_kindOf_12 : decode prog_10_method_3_code 12 = .ok (.ireturn, 1) := am_row (r := (12, .ireturn, 1)) ro_View_kindOf 6 rfl
theorem d_View_kindOf_13 : decode prog_10_method_3_code 13 = .ok (.aload_n 0, 1) := am_row (r := (13, .aload_n 0, 1)) ro_View_kindOf 7 rfl
theorem d_View_kindOf_14 : decode prog_10_method_3_code 14 = .ok (.invokevirtual 49, 3) := am_row (r := (14, .invokevirtual 49, 3)) ro_View_kindOf 8 rfl
theorem d_View_kindOf_17 : decode prog_10_method_3_code 17 = .ok (.istore_n 2, 1) := am_row (r := (17, .istore_n 2, 1)) ro_View_kindOf 9 rfl
theorem d_View_kindOf_18 : decode prog_10_method_3_code 18 = .ok (.aload_n 1, 1) := am_row (r := (18, .aload_n 1, 1)) ro_View_kindOf 10 rfl
theorem d_View_kindOf_19 : decode prog_10_method_3_code 19 = .ok (.getfield 53, 3) := am_row (r := (19, .getfield 53, 3)) ro_View_kindOf 11 rfl
theorem d_View_kindOf_22 : decode prog_10_method_3_code 22 = .ok (.iconst 1, 1) := am_row (r := (22, .iconst 1, 1)) ro_View_kindOf 12 rfl
theorem d_View_kindOf_23 : decode prog_10_method_3_code 23 = .ok (.if_icmp .ne 9, 3) := am_row (r := (23, .if_icmp .ne 9, 3)) ro_View_kindOf 13 rfl
theorem d_View_kindOf_26 : decode prog_10_method_3_code 26 = .ok (.iload_n 2, 1) := am_row (r := (26, .iload_n 2, 1)) ro_View_kindOf 14 rfl
theorem d_View_kindOf_27 : decode prog_10_method_3_code 27 = .ok (.ifCond .eq 5, 3) := am_row (r := (27, .ifCond .eq 5, 3)) ro_View_kindOf 15 rfl
theorem d_View_kindOf_30 : decode prog_10_method_3_code 30 = .ok (.iconst 3, 1) := am_row (r := (30, .iconst 3, 1)) ro_View_kindOf 16 rfl
theorem d_View_kindOf_31 : decode prog_10_method_3_code 31 = .ok (.ireturn, 1) := am_row (r := (31, .ireturn, 1)) ro_View_kindOf 17 rfl
theorem d_View_kindOf_32 : decode prog_10_method_3_code 32 = .ok (.aload_n 1, 1) := am_row (r := (32, .aload_n 1, 1)) ro_View_kindOf 18 rfl
theorem d_View_kindOf_33 : decode prog_10_method_3_code 33 = .ok (.getfield 53, 3) := am_row (r := (33, .getfield 53, 3)) ro_View_kindOf 19 rfl
theorem d_View_kindOf_36 : decode prog_10_method_3_code 36 = .ok (.iconst 1, 1) := am_row (r := (36, .iconst 1, 1)) ro_View_kindOf 20 rfl
theorem d_View_kindOf_37 : decode prog_10_method_3_code 37 = .ok (.if_icmp .ne 12, 3) := am_row (r := (37, .if_icmp .ne 12, 3)) ro_View_kindOf 21 rfl
theorem d_View_kindOf_40 : decode prog_10_method_3_code 40 = .ok (.aload_n 1, 1) := am_row (r := (40, .aload_n 1, 1)) ro_View_kindOf 22 rfl
theorem d_View_kindOf_41 : decode prog_10_method_3_code 41 = .ok (.invokevirtual 56, 3) := am_row (r := (41, .invokevirtual 56, 3)) ro_View_kindOf 23 rfl
theorem d_View_kindOf_44 : decode prog_10_method_3_code 44 = .ok (.ifCond .eq 5, 3) := am_row (r := (44, .ifCond .eq 5, 3)) ro_View_kindOf 24 rfl
theorem d_View_kindOf_47 : decode prog_10_method_3_code 47 = .ok (.iconst 4, 1) := am_row (r := (47, .iconst 4, 1)) ro_View_kindOf 25 rfl
theorem d_View_kindOf_48 : decode prog_10_method_3_code 48 = .ok (.ireturn, 1) := am_row (r := (48, .ireturn, 1)) ro_View_kindOf 26 rfl
theorem d_View_kindOf_49 : decode prog_10_method_3_code 49 = .ok (.iload_n 2, 1) := am_row (r := (49, .iload_n 2, 1)) ro_View_kindOf 27 rfl
theorem d_View_kindOf_50 : decode prog_10_method_3_code 50 = .ok (.ifCond .eq 7, 3) := am_row (r := (50, .ifCond .eq 7, 3)) ro_View_kindOf 28 rfl
theorem d_View_kindOf_53 : decode prog_10_method_3_code 53 = .ok (.iconst 2, 1) := am_row (r := (53, .iconst 2, 1)) ro_View_kindOf 29 rfl
theorem d_View_kindOf_54 : decode prog_10_method_3_code 54 = .ok (.goto 4, 3) := am_row (r := (54, .goto 4, 3)) ro_View_kindOf 30 rfl
theorem d_View_kindOf_57 : decode prog_10_method_3_code 57 = .ok (.iconst 1, 1) := am_row (r := (57, .iconst 1, 1)) ro_View_kindOf 31 rfl
theorem d_View_kindOf_58 : decode prog_10_method_3_code 58 = .ok (.ireturn, 1) := am_row (r := (58, .ireturn, 1)) ro_View_kindOf 32 rfl
abbrev y_WD_count : MethodName := ⟨"WheelDisc", "count", "(I)I"⟩
theorem c_WD_count : Cond.code y_WD_count prog_1_method_13_code 2 (some .int) ∈ am_T := am_mem 532 (by decide +kernel) rfl
def rw_WD_count : List (Nat × Instr × Nat) := [(0, .iload_n 1, 1), (1, .tableswitch 161 0 7 #[47, 59, 71, 83, 99, 111, 123, 135], 47), (48, .aload_n 0, 1), (49, .aload_n 0, 1), (50, .getfield 19, 3), (53, .getfield 133, 3), (56, .invokevirtual 91, 3), (59, .ireturn, 1), (60, .aload_n 0, 1), (61, .aload_n 0, 1), (62, .getfield 19, 3), (65, .getfield 126, 3), (68, .invokevirtual 91, 3), (71, .ireturn, 1), (72, .aload_n 0, 1), (73, .aload_n 0, 1), (74, .getfield 19, 3), (77, .getfield 152, 3), (80, .invokevirtual 91, 3), (83, .ireturn, 1), (84, .aload_n 0, 1), (85, .aload_n 0, 1), (86, .invokevirtual 187, 3), (89, .aload_n 0, 1), (90, .getfield 19, 3), (93, .invokevirtual 191, 3), (96, .invokevirtual 91, 3), (99, .ireturn, 1), (100, .aload_n 0, 1), (101, .aload_n 0, 1), (102, .getfield 26, 3), (105, .getfield 179, 3), (108, .invokevirtual 91, 3), (111, .ireturn, 1), (112, .aload_n 0, 1), (113, .aload_n 0, 1), (114, .getfield 57, 3), (117, .getfield 195, 3), (120, .invokevirtual 91, 3), (123, .ireturn, 1), (124, .aload_n 0, 1), (125, .aload_n 0, 1), (126, .getfield 64, 3), (129, .getfield 196, 3), (132, .invokevirtual 91, 3), (135, .ireturn, 1), (136, .aload_n 0, 1), (137, .aload_n 0, 1), (138, .getfield 10, 3), (141, .invokevirtual 123, 3), (144, .ifCond .eq 13, 3), (147, .aload_n 0, 1), (148, .getfield 10, 3), (151, .getfield 106, 3), (154, .goto 4, 3), (157, .iconst (-1), 1), (158, .invokevirtual 91, 3), (161, .ireturn, 1), (162, .aload_n 0, 1), (163, .iconst 1, 1), (164, .invokevirtual 95, 3), (167, .ireturn, 1)]
theorem ro_WD_count : rw_WD_count.all (fun r => decide (decode prog_1_method_13_code r.1 = .ok r.2)) = true := by decide +kernel
theorem d_WD_count_0 : decode prog_1_method_13_code 0 = .ok (.iload_n 1, 1) := am_row (r := (0, .iload_n 1, 1)) ro_WD_count 0 rfl
theorem d_WD_count_1 : decode prog_1_method_13_code 1 = .ok (.tableswitch 161 0 7 #[47, 59, 71, 83, 99, 111, 123, 135], 47) := am_row (r := (1, .tableswitch 161 0 7 #[47, 59, 71, 83, 99, 111, 123, 135], 47)) ro_WD_count 1 rfl
theorem d_WD_count_48 : decode prog_1_method_13_code 48 = .ok (.aload_n 0, 1) := am_row (r := (48, .aload_n 0, 1)) ro_WD_count 2 rfl
theorem d_WD_count_49 : decode prog_1_method_13_code 49 = .ok (.aload_n 0, 1) := am_row (r := (49, .aload_n 0, 1)) ro_WD_count 3 rfl
theorem d_WD_count_50 : decode prog_1_method_13_code 50 = .ok (.getfield 19, 3) := am_row (r := (50, .getfield 19, 3)) ro_WD_count 4 rfl
theorem d_WD_count_53 : decode prog_1_method_13_code 53 = .ok (.getfield 133, 3) := am_row (r := (53, .getfield 133, 3)) ro_WD_count 5 rfl
theorem d_WD_count_56 : decode prog_1_method_13_code 56 = .ok (.invokevirtual 91, 3) := am_row (r := (56, .invokevirtual 91, 3)) ro_WD_count 6 rfl
theorem d_WD_count_59 : decode prog_1_method_13_code 59 = .ok (.ireturn, 1) := am_row (r := (59, .ireturn, 1)) ro_WD_count 7 rfl
theorem d_WD_count_60 : decode prog_1_method_13_code 60 = .ok (.aload_n 0, 1) := am_row (r := (60, .aload_n 0, 1)) ro_WD_count 8 rfl
theorem d_WD_count_61 : decode prog_1_method_13_code 61 = .ok (.aload_n 0, 1) := am_row (r := (61, .aload_n 0, 1)) ro_WD_count 9 rfl
theorem d_WD_count_62 : decode prog_1_method_13_code 62 = .ok (.getfield 19, 3) := am_row (r := (62, .getfield 19, 3)) ro_WD_count 10 rfl
theorem d_WD_count_65 : decode prog_1_method_13_code 65 = .ok (.getfield 126, 3) := am_row (r := (65, .getfield 126, 3)) ro_WD_count 11 rfl
theorem d_WD_count_68 : decode prog_1_method_13_code 68 = .ok (.invokevirtual 91, 3) := am_row (r := (68, .invokevirtual 91, 3)) ro_WD_count 12 rfl
theorem d_WD_count_71 : decode prog_1_method_13_code 71 = .ok (.ireturn, 1) := am_row (r := (71, .ireturn, 1)) ro_WD_count 13 rfl
theorem d_WD_count_72 : decode prog_1_method_13_code 72 = .ok (.aload_n 0, 1) := am_row (r := (72, .aload_n 0, 1)) ro_WD_count 14 rfl
theorem d_WD_count_73 : decode prog_1_method_13_code 73 = .ok (.aload_n 0, 1) := am_row (r := (73, .aload_n 0, 1)) ro_WD_count 15 rfl
theorem d_WD_count_74 : decode prog_1_method_13_code 74 = .ok (.getfield 19, 3) := am_row (r := (74, .getfield 19, 3)) ro_WD_count 16 rfl
theorem d_WD_count_77 : decode prog_1_method_13_code 77 = .ok (.getfield 152, 3) := am_row (r := (77, .getfield 152, 3)) ro_WD_count 17 rfl
theorem d_WD_count_80 : decode prog_1_method_13_code 80 = .ok (.invokevirtual 91, 3) := am_row (r := (80, .invokevirtual 91, 3)) ro_WD_count 18 rfl
theorem d_WD_count_83 : decode prog_1_method_13_code 83 = .ok (.ireturn, 1) := am_row (r := (83, .ireturn, 1)) ro_WD_count 19 rfl
theorem d_WD_count_84 : decode prog_1_method_13_code 84 = .ok (.aload_n 0, 1) := am_row (r := (84, .aload_n 0, 1)) ro_WD_count 20 rfl
theorem d_WD_count_85 : decode prog_1_method_13_code 85 = .ok (.aload_n 0, 1) := am_row (r := (85, .aload_n 0, 1)) ro_WD_count 21 rfl
theorem d_WD_count_86 : decode prog_1_method_13_code 86 = .ok (.invokevirtual 187, 3) := am_row (r := (86, .invokevirtual 187, 3)) ro_WD_count 22 rfl
theorem d_WD_count_89 : decode prog_1_method_13_code 89 = .ok (.aload_n 0, 1) := am_row (r := (89, .aload_n 0, 1)) ro_WD_count 23 rfl
theorem d_WD_count_90 : decode prog_1_method_13_code 90 = .ok (.getfield 19, 3) := am_row (r := (90, .getfield 19, 3)) ro_WD_count 24 rfl
theorem d_WD_count_93 : decode prog_1_method_13_code 93 = .ok (.invokevirtual 191, 3) := am_row (r := (93, .invokevirtual 191, 3)) ro_WD_count 25 rfl
theorem d_WD_count_96 : decode prog_1_method_13_code 96 = .ok (.invokevirtual 91, 3) := am_row (r := (96, .invokevirtual 91, 3)) ro_WD_count 26 rfl
theorem d_WD_count_99 : decode prog_1_method_13_code 99 = .ok (.ireturn, 1) := am_row (r := (99, .ireturn, 1)) ro_WD_count 27 rfl
theorem d_WD_count_100 : decode prog_1_method_13_code 100 = .ok (.aload_n 0, 1) := am_row (r := (100, .aload_n 0, 1)) ro_WD_count 28 rfl
theorem d_WD_count_101 : decode prog_1_method_13_code 101 = .ok (.aload_n 0, 1) := am_row (r := (101, .aload_n 0, 1)) ro_WD_count 29 rfl
theorem d_WD_count_102 : decode prog_1_method_13_code 102 = .ok (.getfield 26, 3) := am_row (r := (102, .getfield 26, 3)) ro_WD_count 30 rfl
theorem d_WD_count_105 : decode prog_1_method_13_code 105 = .ok (.getfield 179, 3) := am_row (r := (105, .getfield 179, 3)) ro_WD_count 31 rfl
theorem d_WD_count_108 : decode prog_1_method_13_code 108 = .ok (.invokevirtual 91, 3) := am_row (r := (108, .invokevirtual 91, 3)) ro_WD_count 32 rfl
theorem d_WD_count_111 : decode prog_1_method_13_code 111 = .ok (.ireturn, 1) := am_row (r := (111, .ireturn, 1)) ro_WD_count 33 rfl
theorem d_WD_count_112 : decode prog_1_method_13_code 112 = .ok (.aload_n 0, 1) := am_row (r := (112, .aload_n 0, 1)) ro_WD_count 34 rfl
theorem d_WD_count_113 : decode prog_1_method_13_code 113 = .ok (.aload_n 0, 1) := am_row (r := (113, .aload_n 0, 1)) ro_WD_count 35 rfl
theorem d_WD_count_114 : decode prog_1_method_13_code 114 = .ok (.getfield 57, 3) := am_row (r := (114, .getfield 57, 3)) ro_WD_count 36 rfl
theorem d_WD_count_117 : decode prog_1_method_13_code 117 = .ok (.getfield 195, 3) := am_row (r := (117, .getfield 195, 3)) ro_WD_count 37 rfl
theorem d_WD_count_120 : decode prog_1_method_13_code 120 = .ok (.invokevirtual 91, 3) := am_row (r := (120, .invokevirtual 91, 3)) ro_WD_count 38 rfl
theorem d_WD_count_123 : decode prog_1_method_13_code 123 = .ok (.ireturn, 1) := am_row (r := (123, .ireturn, 1)) ro_WD_count 39 rfl
theorem d_WD_count_124 : decode prog_1_method_13_code 124 = .ok (.aload_n 0, 1) := am_row (r := (124, .aload_n 0, 1)) ro_WD_count 40 rfl
theorem d_WD_count_125 : decode prog_1_method_13_code 125 = .ok (.aload_n 0, 1) := am_row (r := (125, .aload_n 0, 1)) ro_WD_count 41 rfl
theorem d_WD_count_126 : decode prog_1_method_13_code 126 = .ok (.getfield 64, 3) := am_row (r := (126, .getfield 64, 3)) ro_WD_count 42 rfl
theorem d_WD_count_129 : decode prog_1_method_13_code 129 = .ok (.getfield 196, 3) := am_row (r := (129, .getfield 196, 3)) ro_WD_count 43 rfl
theorem d_WD_count_132 : decode prog_1_method_13_code 132 = .ok (.invokevirtual 91, 3) := am_row (r := (132, .invokevirtual 91, 3)) ro_WD_count 44 rfl
theorem d_WD_count_135 : decode prog_1_method_13_code 135 = .ok (.ireturn, 1) := am_row (r := (135, .ireturn, 1)) ro_WD_count 45 rfl
theorem d_WD_count_136 : decode prog_1_method_13_code 136 = .ok (.aload_n 0, 1) := am_row (r := (136, .aload_n 0, 1)) ro_WD_count 46 rfl
theorem d_WD_count_137 : decode prog_1_method_13_code 137 = .ok (.aload_n 0, 1) := am_row (r := (137, .aload_n 0, 1)) ro_WD_count 47 rfl
theorem d_WD_count_138 : decode prog_1_method_13_code 138 = .ok (.getfield 10, 3) := am_row (r := (138, .getfield 10, 3)) ro_WD_count 48 rfl
theorem d_WD_count_141 : decode prog_1_method_13_code 141 = .ok (.invokevirtual 123, 3) := am_row (r := (141, .invokevirtual 123, 3)) ro_WD_count 49 rfl
theorem d_WD_count_144 : decode prog_1_method_13_code 144 = .ok (.ifCond .eq 13, 3) := am_row (r := (144, .ifCond .eq 13, 3)) ro_WD_count 50 rfl
theorem d_WD_count_147 : decode prog_1_method_13_code 147 = .ok (.aload_n 0, 1) := am_row (r := (147, .aload_n 0, 1)) ro_WD_count 51 rfl
theorem d_WD_count_148 : decode prog_1_method_13_code 148 = .ok (.getfield 10, 3) := am_row (r := (148, .getfield 10, 3)) ro_WD_count 52 rfl
theorem d_WD_count_151 : decode prog_1_method_13_code 151 = .ok (.getfield 106, 3) := am_row (r := (151, .getfield 106, 3)) ro_WD_count 53 rfl
theorem d_WD_count_154 : decode prog_1_method_13_code 154 = .ok (.goto 4, 3) := am_row (r := (154, .goto 4, 3)) ro_WD_count 54 rfl
theorem d_WD_count_157 : decode prog_1_method_13_code 157 = .ok (.iconst (-1), 1) := am_row (r := (157, .iconst (-1), 1)) ro_WD_count 55 rfl
theorem d_WD_count_158 : decode prog_1_method_13_code 158 = .ok (.invokevirtual 91, 3) := am_row (r := (158, .invokevirtual 91, 3)) ro_WD_count 56 rfl
theorem d_WD_count_161 : decode prog_1_method_13_code 161 = .ok (.ireturn, 1) := am_row (r := (161, .ireturn, 1)) ro_WD_count 57 rfl
theorem d_WD_count_162 : decode prog_1_method_13_code 162 = .ok (.aload_n 0, 1) := am_row (r := (162, .aload_n 0, 1)) ro_WD_count 58 rfl
theorem d_WD_count_163 : decode prog_1_method_13_code 163 = .ok (.iconst 1, 1) := am_row (r := (163, .iconst 1, 1)) ro_WD_count 59 rfl
theorem d_WD_count_164 : decode prog_1_method_13_code 164 = .ok (.invokevirtual 95, 3) := am_row (r := (164, .invokevirtual 95, 3)) ro_WD_count 60 rfl
theorem d_WD_count_167 : decode prog_1_method_13_code 167 = .ok (.ireturn, 1) := am_row (r := (167, .ireturn, 1)) ro_WD_count 61 rfl
abbrev y_WD_word : MethodName := ⟨"WheelDisc", "word", "(I)I"⟩
theorem c_WD_word : Cond.code y_WD_word prog_1_method_14_code 2 (some .int) ∈ am_T := am_mem 594 (by decide +kernel) rfl
def rw_WD_word : List (Nat × Instr × Nat) := [(0, .aload_n 0, 1), (1, .getfield 19, 3), (4, .iload_n 1, 1), (5, .invokevirtual 146, 3), (8, .ifCond .ne 9, 3), (11, .aload_n 0, 1), (12, .iconst 1, 1), (13, .invokevirtual 95, 3), (16, .ireturn, 1), (17, .aload_n 0, 1), (18, .aload_n 0, 1), (19, .invokevirtual 187, 3), (22, .getfield 197, 3), (25, .iload_n 1, 1), (26, .iaload, 1), (27, .invokevirtual 91, 3), (30, .ireturn, 1)]
theorem ro_WD_word : rw_WD_word.all (fun r => decide (decode prog_1_method_14_code r.1 = .ok r.2)) = true := by decide +kernel
theorem d_WD_word_0 : decode prog_1_method_14_code 0 = .ok (.aload_n 0, 1) := am_row (r := (0, .aload_n 0, 1)) ro_WD_word 0 rfl
theorem d_WD_word_1 : decode prog_1_method_14_code 1 = .ok (.getfield 19, 3) := am_row (r := (1, .getfield 19, 3)) ro_WD_word 1 rfl
theorem d_WD_word_4 : decode prog_1_method_14_code 4 = .ok (.iload_n 1, 1) := am_row (r := (4, .iload_n 1, 1)) ro_WD_word 2 rfl
theorem d_WD_word_5 : decode prog_1_method_14_code 5 = .ok (.invokevirtual 146, 3) := am_row (r := (5, .invokevirtual 146, 3)) ro_WD_word 3 rfl
theorem d_WD_word_8 : decode prog_1_method_14_code 8 = .ok (.ifCond .ne 9, 3) := am_row (r := (8, .ifCond .ne 9, 3)) ro_WD_word 4 rfl
theorem d_WD_word_11 : decode prog_1_method_14_code 11 = .ok (.aload_n 0, 1) := am_row (r := (11, .aload_n 0, 1)) ro_WD_word 5 rfl
theorem d_WD_word_12 : decode prog_1_method_14_code 12 = .ok (.iconst 1, 1) := am_row (r := (12, .iconst 1, 1)) ro_WD_word 6 rfl
theorem d_WD_word_13 : decode prog_1_method_14_code 13 = .ok (.invokevirtual 95, 3) := am_row (r := (13, .invokevirtual 95, 3)) ro_WD_word 7 rfl
theorem d_WD_word_16 : decode prog_1_method_14_code 16 = .ok (.ireturn, 1) := am_row (r := (16, .ireturn, 1)) ro_WD_word 8 rfl
theorem d_WD_word_17 : decode prog_1_method_14_code 17 = .ok (.aload_n 0, 1) := am_row (r := (17, .aload_n 0, 1)) ro_WD_word 9 rfl
theorem d_WD_word_18 : decode prog_1_method_14_code 18 = .ok (.aload_n 0, 1) := am_row (r := (18, .aload_n 0, 1)) ro_WD_word 10 rfl
theorem d_WD_word_19 : decode prog_1_method_14_code 19 = .ok (.invokevirtual 187, 3) := am_row (r := (19, .invokevirtual 187, 3)) ro_WD_word 11 rfl
theorem d_WD_word_22 : decode prog_1_method_14_code 22 = .ok (.getfield 197, 3) := am_row (r := (22, .getfield 197, 3)) ro_WD_word 12 rfl
theorem d_WD_word_25 : decode prog_1_method_14_code 25 = .ok (.iload_n 1, 1) := am_row (r := (25, .iload_n 1, 1)) ro_WD_word 13 rfl
theorem d_WD_word_26 : decode prog_1_method_14_code 26 = .ok (.iaload, 1) := am_row (r := (26, .iaload, 1)) ro_WD_word 14 rfl
theorem d_WD_word_27 : decode prog_1_method_14_code 27 = .ok (.invokevirtual 91, 3) := am_row (r := (27, .invokevirtual 91, 3)) ro_WD_word 15 rfl
theorem d_WD_word_30 : decode prog_1_method_14_code 30 = .ok (.ireturn, 1) := am_row (r := (30, .ireturn, 1)) ro_WD_word 16 rfl
abbrev y_View_changesBehind : MethodName := ⟨"WheelDisc$View", "changesBehind", "(II)Z"⟩
theorem c_View_changesBehind : Cond.code y_View_changesBehind prog_10_method_8_code 3 (some .boolean) ∈ am_T := am_mem 606 (by decide +kernel) rfl
def rw_View_changesBehind : List (Nat × Instr × Nat) := [(0, .aload_n 0, 1), (1, .iload_n 1, 1), (2, .invokevirtual 69, 3), (5, .aload_n 0, 1), (6, .getfield 26, 3), (9, .iconst 1, 1), (10, .isub, 1), (11, .iload_n 2, 1), (12, .isub, 1), (13, .ishr, 1), (14, .iconst 1, 1), (15, .iand, 1), (16, .ifCond .eq 7, 3), (19, .iconst 1, 1), (20, .goto 4, 3), (23, .iconst 0, 1), (24, .ireturn, 1)]
theorem ro_View_changesBehind : rw_View_changesBehind.all (fun r => decide (decode prog_10_method_8_code r.1 = .ok r.2)) = true := by decide +kernel
theorem d_View_changesBehind_0 : decode prog_10_method_8_code 0 = .ok (.aload_n 0, 1) := am_row (r := (0, .aload_n 0, 1)) ro_View_changesBehind 0 rfl
theorem d_View_changesBehind_1 : decode prog_10_method_8_code 1 = .ok (.iload_n 1, 1) := am_row (r := (1, .iload_n 1, 1)) ro_View_changesBehind 1 rfl
theorem d_View_changesBehind_2 : decode prog_10_method_8_code 2 = .ok (.invokevirtual 69, 3) := am_row (r := (2, .invokevirtual 69, 3)) ro_View_changesBehind 2 rfl
theorem d_View_changesBehind_5 : decode prog_10_method_8_code 5 = .ok (.aload_n 0, 1) := am_row (r := (5, .aload_n 0, 1)) ro_View_changesBehind 3 rfl
theorem d_View_changesBehind_6 : decode prog_10_method_8_code 6 = .ok (.getfield 26, 3) := am_row (r := (6, .getfield 26, 3)) ro_View_changesBehind 4 rfl
theorem d_View_changesBehind_9 : decode prog_10_method_8_code 9 = .ok (.iconst 1, 1) := am_row (r := (9, .iconst 1, 1)) ro_View_changesBehind 5 rfl
theorem d_View_changesBehind_10 : decode prog_10_method_8_code 10 = .ok (.isub, 1) := am_row (r := (10, .isub, 1)) ro_View_changesBehind 6 rfl
theorem d_View_changesBehind_11 : decode prog_10_method_8_code 11 = .ok (.iload_n 2, 1) := am_row (r := (11, .iload_n 2, 1)) ro_View_changesBehind 7 rfl
theorem d_View_changesBehind_12 : decode prog_10_method_8_code 12 = .ok (.isub, 1) := am_row (r := (12, .isub, 1)) ro_View_changesBehind 8 rfl
theorem d_View_changesBehind_13 : decode prog_10_method_8_code 13 = .ok (.ishr, 1) := am_row (r := (13, .ishr, 1)) ro_View_changesBehind 9 rfl
theorem d_View_changesBehind_14 : decode prog_10_method_8_code 14 = .ok (.iconst 1, 1) := am_row (r := (14, .iconst 1, 1)) ro_View_changesBehind 10 rfl
theorem d_View_changesBehind_15 : decode prog_10_method_8_code 15 = .ok (.iand, 1) := am_row (r := (15, .iand, 1)) ro_View_changesBehind 11 rfl
theorem d_View_changesBehind_16 : decode prog_10_method_8_code 16 = .ok (.ifCond .eq 7, 3) := am_row (r := (16, .ifCond .eq 7, 3)) ro_View_changesBehind 12 rfl
theorem d_View_changesBehind_19 : decode prog_10_method_8_code 19 = .ok (.iconst 1, 1) := am_row (r := (19, .iconst 1, 1)) ro_View_changesBehind 13 rfl
theorem d_View_changesBehind_20 : decode prog_10_method_8_code 20 = .ok (.goto 4, 3) := am_row (r := (20, .goto 4, 3)) ro_View_changesBehind 14 rfl
theorem d_View_changesBehind_23 : decode prog_10_method_8_code 23 = .ok (.iconst 0, 1) := am_row (r := (23, .iconst 0, 1)) ro_View_changesBehind 15 rfl
theorem d_View_changesBehind_24 : decode prog_10_method_8_code 24 = .ok (.ireturn, 1) := am_row (r := (24, .ireturn, 1)) ro_View_changesBehind 16 rfl
abbrev y_View_changesOf : MethodName := ⟨"WheelDisc$View", "changesOf", "(I)I"⟩
theorem c_View_changesOf : Cond.code y_View_changesOf prog_10_method_9_code 4 (some .int) ∈ am_T := am_mem 602 (by decide +kernel) rfl
def rw_View_changesOf : List (Nat × Instr × Nat) := [(0, .iconst 0, 1), (1, .istore_n 2, 1), (2, .iconst 0, 1), (3, .istore_n 3, 1), (4, .iload_n 3, 1), (5, .aload_n 0, 1), (6, .getfield 22, 3), (9, .if_icmp .ge 21, 3), (12, .aload_n 0, 1), (13, .iload_n 3, 1), (14, .iload_n 1, 1), (15, .invokevirtual 81, 3), (18, .ifCond .eq 6, 3), (21, .iinc 2 1, 3), (24, .iinc 3 1, 3), (27, .goto (-23), 3), (30, .iload_n 2, 1), (31, .ireturn, 1)]
theorem ro_View_changesOf : rw_View_changesOf.all (fun r => decide (decode prog_10_method_9_code r.1 = .ok r.2)) = true := by decide +kernel
theorem d_View_changesOf_0 : decode prog_10_method_9_code 0 = .ok (.iconst 0, 1) := am_row (r := (0, .iconst 0, 1)) ro_View_changesOf 0 rfl
theorem d_View_changesOf_1 : decode prog_10_method_9_code 1 = .ok (.istore_n 2, 1) := am_row (r := (1, .istore_n 2, 1)) ro_View_changesOf 1 rfl
theorem d_View_changesOf_2 : decode prog_10_method_9_code 2 = .ok (.iconst 0, 1) := am_row (r := (2, .iconst 0, 1)) ro_View_changesOf 2 rfl
theorem d_View_changesOf_3 : decode prog_10_method_9_code 3 = .ok (.istore_n 3, 1) := am_row (r := (3, .istore_n 3, 1)) ro_View_changesOf 3 rfl
theorem d_View_changesOf_4 : decode prog_10_method_9_code 4 = .ok (.iload_n 3, 1) := am_row (r := (4, .iload_n 3, 1)) ro_View_changesOf 4 rfl
theorem d_View_changesOf_5 : decode prog_10_method_9_code 5 = .ok (.aload_n 0, 1) := am_row (r := (5, .aload_n 0, 1)) ro_View_changesOf 5 rfl
theorem d_View_changesOf_6 : decode prog_10_method_9_code 6 = .ok (.getfield 22, 3) := am_row (r := (6, .getfield 22, 3)) ro_View_changesOf 6 rfl
theorem d_View_changesOf_9 : decode prog_10_method_9_code 9 = .ok (.if_icmp .ge 21, 3) := am_row (r := (9, .if_icmp .ge 21, 3)) ro_View_changesOf 7 rfl
theorem d_View_changesOf_12 : decode prog_10_method_9_code 12 = .ok (.aload_n 0, 1) := am_row (r := (12, .aload_n 0, 1)) ro_View_changesOf 8 rfl
theorem d_View_changesOf_13 : decode prog_10_method_9_code 13 = .ok (.iload_n 3, 1) := am_row (r := (13, .iload_n 3, 1)) ro_View_changesOf 9 rfl
theorem d_View_changesOf_14 : decode prog_10_method_9_code 14 = .ok (.iload_n 1, 1) := am_row (r := (14, .iload_n 1, 1)) ro_View_changesOf 10 rfl
theorem d_View_changesOf_15 : decode prog_10_method_9_code 15 = .ok (.invokevirtual 81, 3) := am_row (r := (15, .invokevirtual 81, 3)) ro_View_changesOf 11 rfl
theorem d_View_changesOf_18 : decode prog_10_method_9_code 18 = .ok (.ifCond .eq 6, 3) := am_row (r := (18, .ifCond .eq 6, 3)) ro_View_changesOf 12 rfl
theorem d_View_changesOf_21 : decode prog_10_method_9_code 21 = .ok (.iinc 2 1, 3) := am_row (r := (21, .iinc 2 1, 3)) ro_View_changesOf 13 rfl
theorem d_View_changesOf_24 : decode prog_10_method_9_code 24 = .ok (.iinc 3 1, 3) := am_row (r := (24, .iinc 3 1, 3)) ro_View_changesOf 14 rfl
theorem d_View_changesOf_27 : decode prog_10_method_9_code 27 = .ok (.goto (-23), 3) := am_row (r := (27, .goto (-23), 3)) ro_View_changesOf 15 rfl
theorem d_View_changesOf_30 : decode prog_10_method_9_code 30 = .ok (.iload_n 2, 1) := am_row (r := (30, .iload_n 2, 1)) ro_View_changesOf 16 rfl
theorem d_View_changesOf_31 : decode prog_10_method_9_code 31 = .ok (.ireturn, 1) := am_row (r := (31, .ireturn, 1)) ro_View_changesOf 17 rfl
abbrev y_Math_min : MethodName := ⟨"java/lang/Math", "min", "(II)I"⟩
theorem c_Math_min : Cond.code y_Math_min prog_15_method_69_code 2 (some .int) ∈ am_T := am_mem 613 (by decide +kernel) rfl
def rw_Math_min : List (Nat × Instr × Nat) := [(0, .iload_n 0, 1), (1, .iload_n 1, 1), (2, .if_icmp .gt 7, 3), (5, .iload_n 0, 1), (6, .goto 4, 3), (9, .iload_n 1, 1), (10, .ireturn, 1)]
theorem ro_Math_min : rw_Math_min.all (fun r => decide (decode prog_15_method_69_code r.1 = .ok r.2)) = true := by decide +kernel
theorem d_Math_min_0 : decode prog_15_method_69_code 0 = .ok (.iload_n 0, 1) := am_row (r := (0, .iload_n 0, 1)) ro_Math_min 0 rfl
theorem d_Math_min_1 : decode prog_15_method_69_code 1 = .ok (.iload_n 1, 1) := am_row (r := (1, .iload_n 1, 1)) ro_Math_min 1 rfl
theorem d_Math_min_2 : decode prog_15_method_69_code 2 = .ok (.if_icmp .gt 7, 3) := am_row (r := (2, .if_icmp .gt 7, 3)) ro_Math_min 2 rfl
theorem d_Math_min_5 : decode prog_15_method_69_code 5 = .ok (.iload_n 0, 1) := am_row (r := (5, .iload_n 0, 1)) ro_Math_min 3 rfl
theorem d_Math_min_6 : decode prog_15_method_69_code 6 = .ok (.goto 4, 3) := am_row (r := (6, .goto 4, 3)) ro_Math_min 4 rfl
theorem d_Math_min_9 : decode prog_15_method_69_code 9 = .ok (.iload_n 1, 1) := am_row (r := (9, .iload_n 1, 1)) ro_Math_min 5 rfl
theorem d_Math_min_10 : decode prog_15_method_69_code 10 = .ok (.ireturn, 1) := am_row (r := (10, .ireturn, 1)) ro_Math_min 6 rfl
abbrev y_View_shortestStretchOf : MethodName := ⟨"WheelDisc$View", "shortestStretchOf", "(I)I"⟩
theorem c_View_shortestStretchOf : Cond.code y_View_shortestStretchOf prog_10_method_10_code 6 (some .int) ∈ am_T := am_mem 610 (by decide +kernel) rfl
def rw_View_shortestStretchOf : List (Nat × Instr × Nat) := [(0, .aload_n 0, 1), (1, .getfield 22, 3), (4, .istore_n 2, 1), (5, .iconst (-1), 1), (6, .istore_n 3, 1), (7, .iconst (-1), 1), (8, .istore 4, 2), (10, .iconst 0, 1), (11, .istore 5, 2), (13, .iload 5, 2), (15, .aload_n 0, 1), (16, .getfield 22, 3), (19, .if_icmp .ge 44, 3), (22, .aload_n 0, 1), (23, .iload 5, 2), (25, .iload_n 1, 1), (26, .invokevirtual 81, 3), (29, .ifCond .eq 28, 3), (32, .iload_n 3, 1), (33, .iconst (-1), 1), (34, .if_icmp .ne 9, 3), (37, .iload 5, 2), (39, .istore_n 3, 1), (40, .goto 13, 3), (43, .iload_n 2, 1), (44, .iload 5, 2), (46, .iload 4, 2), (48, .isub, 1), (49, .invokestatic 85, 3), (52, .istore_n 2, 1), (53, .iload 5, 2), (55, .istore 4, 2), (57, .iinc 5 1, 3), (60, .goto (-47), 3), (63, .iload_n 3, 1), (64, .iconst (-1), 1), (65, .if_icmp .ne 10, 3), (68, .aload_n 0, 1), (69, .getfield 22, 3), (72, .goto 16, 3), (75, .iload_n 2, 1), (76, .iload_n 3, 1), (77, .aload_n 0, 1), (78, .getfield 22, 3), (81, .iadd, 1), (82, .iload 4, 2), (84, .isub, 1), (85, .invokestatic 85, 3), (88, .ireturn, 1)]
theorem ro_View_shortestStretchOf : rw_View_shortestStretchOf.all (fun r => decide (decode prog_10_method_10_code r.1 = .ok r.2)) = true := by decide +kernel
theorem d_View_shortestStretchOf_0 : decode prog_10_method_10_code 0 = .ok (.aload_n 0, 1) := am_row (r := (0, .aload_n 0, 1)) ro_View_shortestStretchOf 0 rfl
theorem d_View_shortestStretchOf_1 : decode prog_10_method_10_code 1 = .ok (.getfield 22, 3) := am_row (r := (1, .getfield 22, 3)) ro_View_shortestStretchOf 1 rfl
theorem d_View_shortestStretchOf_4 : decode prog_10_method_10_code 4 = .ok (.istore_n 2, 1) := am_row (r := (4, .istore_n 2, 1)) ro_View_shortestStretchOf 2 rfl
theorem d_View_shortestStretchOf_5 : decode prog_10_method_10_code 5 = .ok (.iconst (-1), 1) := am_row (r := (5, .iconst (-1), 1)) ro_View_shortestStretchOf 3 rfl
theorem d_View_shortestStretchOf_6 : decode prog_10_method_10_code 6 = .ok (.istore_n 3, 1) := am_row (r := (6, .istore_n 3, 1)) ro_View_shortestStretchOf 4 rfl
theorem d_View_shortestStretchOf_7 : decode prog_10_method_10_code 7 = .ok (.iconst (-1), 1) := am_row (r := (7, .iconst (-1), 1)) ro_View_shortestStretchOf 5 rfl
theorem d_View_shortestStretchOf_8 : decode prog_10_method_10_code 8 = .ok (.istore 4, 2) := am_row (r := (8, .istore 4, 2)) ro_View_shortestStretchOf 6 rfl
theorem d_View_shortestStretchOf_10 : decode prog_10_method_10_code 10 = .ok (.iconst 0, 1) := am_row (r := (10, .iconst 0, 1)) ro_View_shortestStretchOf 7 rfl
theorem d_View_shortestStretchOf_11 : decode prog_10_method_10_code 11 = .ok (.istore 5, 2) := am_row (r := (11, .istore 5, 2)) ro_View_shortestStretchOf 8 rfl
theorem d_View_shortestStretchOf_13 : decode prog_10_method_10_code 13 = .ok (.iload 5, 2) := am_row (r := (13, .iload 5, 2)) ro_View_shortestStretchOf 9 rfl
theorem d_View_shortestStretchOf_15 : decode prog_10_method_10_code 15 = .ok (.aload_n 0, 1) := am_row (r := (15, .aload_n 0, 1)) ro_View_shortestStretchOf 10 rfl
theorem d_View_shortestStretchOf_16 : decode prog_10_method_10_code 16 = .ok (.getfield 22, 3) := am_row (r := (16, .getfield 22, 3)) ro_View_shortestStretchOf 11 rfl
theorem d_View_shortestStretchOf_19 : decode prog_10_method_10_code 19 = .ok (.if_icmp .ge 44, 3) := am_row (r := (19, .if_icmp .ge 44, 3)) ro_View_shortestStretchOf 12 rfl
theorem d_View_shortestStretchOf_22 : decode prog_10_method_10_code 22 = .ok (.aload_n 0, 1) := am_row (r := (22, .aload_n 0, 1)) ro_View_shortestStretchOf 13 rfl
theorem d_View_shortestStretchOf_23 : decode prog_10_method_10_code 23 = .ok (.iload 5, 2) := am_row (r := (23, .iload 5, 2)) ro_View_shortestStretchOf 14 rfl
theorem d_View_shortestStretchOf_25 : decode prog_10_method_10_code 25 = .ok (.iload_n 1, 1) := am_row (r := (25, .iload_n 1, 1)) ro_View_shortestStretchOf 15 rfl
theorem d_View_shortestStretchOf_26 : decode prog_10_method_10_code 26 = .ok (.invokevirtual 81, 3) := am_row (r := (26, .invokevirtual 81, 3)) ro_View_shortestStretchOf 16 rfl
theorem d_View_shortestStretchOf_29 : decode prog_10_method_10_code 29 = .ok (.ifCond .eq 28, 3) := am_row (r := (29, .ifCond .eq 28, 3)) ro_View_shortestStretchOf 17 rfl
theorem d_View_shortestStretchOf_32 : decode prog_10_method_10_code 32 = .ok (.iload_n 3, 1) := am_row (r := (32, .iload_n 3, 1)) ro_View_shortestStretchOf 18 rfl
theorem d_View_shortestStretchOf_33 : decode prog_10_method_10_code 33 = .ok (.iconst (-1), 1) := am_row (r := (33, .iconst (-1), 1)) ro_View_shortestStretchOf 19 rfl
theorem d_View_shortestStretchOf_34 : decode prog_10_method_10_code 34 = .ok (.if_icmp .ne 9, 3) := am_row (r := (34, .if_icmp .ne 9, 3)) ro_View_shortestStretchOf 20 rfl
theorem d_View_shortestStretchOf_37 : decode prog_10_method_10_code 37 = .ok (.iload 5, 2) := am_row (r := (37, .iload 5, 2)) ro_View_shortestStretchOf 21 rfl
theorem d_View_shortestStretchOf_39 : decode prog_10_method_10_code 39 = .ok (.istore_n 3, 1) := am_row (r := (39, .istore_n 3, 1)) ro_View_shortestStretchOf 22 rfl
theorem d_View_shortestStretchOf_40 : decode prog_10_method_10_code 40 = .ok (.goto 13, 3) := am_row (r := (40, .goto 13, 3)) ro_View_shortestStretchOf 23 rfl
theorem d_View_shortestStretchOf_43 : decode prog_10_method_10_code 43 = .ok (.iload_n 2, 1) := am_row (r := (43, .iload_n 2, 1)) ro_View_shortestStretchOf 24 rfl
theorem d_View_shortestStretchOf_44 : decode prog_10_method_10_code 44 = .ok (.iload 5, 2) := am_row (r := (44, .iload 5, 2)) ro_View_shortestStretchOf 25 rfl
theorem d_View_shortestStretchOf_46 : decode prog_10_method_10_code 46 = .ok (.iload 4, 2) := am_row (r := (46, .iload 4, 2)) ro_View_shortestStretchOf 26 rfl
theorem d_View_shortestStretchOf_48 : decode prog_10_method_10_code 48 = .ok (.isub, 1) := am_row (r := (48, .isub, 1)) ro_View_shortestStretchOf 27 rfl
theorem d_View_shortestStretchOf_49 : decode prog_10_method_10_code 49 = .ok (.invokestatic 85, 3) := am_row (r := (49, .invokestatic 85, 3)) ro_View_shortestStretchOf 28 rfl
theorem d_View_shortestStretchOf_52 : decode prog_10_method_10_code 52 = .ok (.istore_n 2, 1) := am_row (r := (52, .istore_n 2, 1)) ro_View_shortestStretchOf 29 rfl
theorem d_View_shortestStretchOf_53 : decode prog_10_method_10_code 53 = .ok (.iload 5, 2) := am_row (r := (53, .iload 5, 2)) ro_View_shortestStretchOf 30 rfl
theorem d_View_shortestStretchOf_55 : decode prog_10_method_10_code 55 = .ok (.istore 4, 2) := am_row (r := (55, .istore 4, 2)) ro_View_shortestStretchOf 31 rfl
theorem d_View_shortestStretchOf_57 : decode prog_10_method_10_code 57 = .ok (.iinc 5 1, 3) := am_row (r := (57, .iinc 5 1, 3)) ro_View_shortestStretchOf 32 rfl
theorem d_View_shortestStretchOf_60 : decode prog_10_method_10_code 60 = .ok (.goto (-47), 3) := am_row (r := (60, .goto (-47), 3)) ro_View_shortestStretchOf 33 rfl
theorem d_View_shortestStretchOf_63 : decode prog_10_method_10_code 63 = .ok (.iload_n 3, 1) := am_row (r := (63, .iload_n 3, 1)) ro_View_shortestStretchOf 34 rfl
theorem d_View_shortestStretchOf_64 : decode prog_10_method_10_code 64 = .ok (.iconst (-1), 1) := am_row (r := (64, .iconst (-1), 1)) ro_View_shortestStretchOf 35 rfl
theorem d_View_shortestStretchOf_65 : decode prog_10_method_10_code 65 = .ok (.if_icmp .ne 10, 3) := am_row (r := (65, .if_icmp .ne 10, 3)) ro_View_shortestStretchOf 36 rfl
theorem d_View_shortestStretchOf_68 : decode prog_10_method_10_code 68 = .ok (.aload_n 0, 1) := am_row (r := (68, .aload_n 0, 1)) ro_View_shortestStretchOf 37 rfl
theorem d_View_shortestStretchOf_69 : decode prog_10_method_10_code 69 = .ok (.getfield 22, 3) := am_row (r := (69, .getfield 22, 3)) ro_View_shortestStretchOf 38 rfl
theorem d_View_shortestStretchOf_72 : decode prog_10_method_10_code 72 = .ok (.goto 16, 3) := am_row (r := (72, .goto 16, 3)) ro_View_shortestStretchOf 39 rfl
theorem d_View_shortestStretchOf_75 : decode prog_10_method_10_code 75 = .ok (.iload_n 2, 1) := am_row (r := (75, .iload_n 2, 1)) ro_View_shortestStretchOf 40 rfl
theorem d_View_shortestStretchOf_76 : decode prog_10_method_10_code 76 = .ok (.iload_n 3, 1) := am_row (r := (76, .iload_n 3, 1)) ro_View_shortestStretchOf 41 rfl
theorem d_View_shortestStretchOf_77 : decode prog_10_method_10_code 77 = .ok (.aload_n 0, 1) := am_row (r := (77, .aload_n 0, 1)) ro_View_shortestStretchOf 42 rfl
theorem d_View_shortestStretchOf_78 : decode prog_10_method_10_code 78 = .ok (.getfield 22, 3) := am_row (r := (78, .getfield 22, 3)) ro_View_shortestStretchOf 43 rfl
theorem d_View_shortestStretchOf_81 : decode prog_10_method_10_code 81 = .ok (.iadd, 1) := am_row (r := (81, .iadd, 1)) ro_View_shortestStretchOf 44 rfl
theorem d_View_shortestStretchOf_82 : decode prog_10_method_10_code 82 = .ok (.iload 4, 2) := am_row (r := (82, .iload 4, 2)) ro_View_shortestStretchOf 45 rfl
theorem d_View_shortestStretchOf_84 : decode prog_10_method_10_code 84 = .ok (.isub, 1) := am_row (r := (84, .isub, 1)) ro_View_shortestStretchOf 46 rfl
theorem d_View_shortestStretchOf_85 : decode prog_10_method_10_code 85 = .ok (.invokestatic 85, 3) := am_row (r := (85, .invokestatic 85, 3)) ro_View_shortestStretchOf 47 rfl
theorem d_View_shortestStretchOf_88 : decode prog_10_method_10_code 88 = .ok (.ireturn, 1) := am_row (r := (88, .ireturn, 1)) ro_View_shortestStretchOf 48 rfl
abbrev y_WD_seen : MethodName := ⟨"WheelDisc", "seen", "(II)I"⟩
theorem c_WD_seen : Cond.code y_WD_seen prog_1_method_15_code 3 (some .int) ∈ am_T := am_mem 598 (by decide +kernel) rfl
def rw_WD_seen : List (Nat × Instr × Nat) := [(0, .aload_n 0, 1), (1, .getfield 19, 3), (4, .iload_n 1, 1), (5, .invokevirtual 159, 3), (8, .ifCond .ne 9, 3), (11, .aload_n 0, 1), (12, .iconst 1, 1), (13, .invokevirtual 95, 3), (16, .ireturn, 1), (17, .iload_n 2, 1), (18, .tableswitch 84 0 3 #[30, 44, 58, 71], 30), (48, .aload_n 0, 1), (49, .aload_n 0, 1), (50, .getfield 19, 3), (53, .getfield 201, 3), (56, .iload_n 1, 1), (57, .iaload, 1), (58, .invokevirtual 91, 3), (61, .ireturn, 1), (62, .aload_n 0, 1), (63, .aload_n 0, 1), (64, .getfield 19, 3), (67, .getfield 204, 3), (70, .iload_n 1, 1), (71, .iaload, 1), (72, .invokevirtual 91, 3), (75, .ireturn, 1), (76, .aload_n 0, 1), (77, .aload_n 0, 1), (78, .invokevirtual 187, 3), (81, .iload_n 1, 1), (82, .invokevirtual 207, 3), (85, .invokevirtual 91, 3), (88, .ireturn, 1), (89, .aload_n 0, 1), (90, .aload_n 0, 1), (91, .invokevirtual 187, 3), (94, .iload_n 1, 1), (95, .invokevirtual 210, 3), (98, .invokevirtual 91, 3), (101, .ireturn, 1), (102, .aload_n 0, 1), (103, .iconst 1, 1), (104, .invokevirtual 95, 3), (107, .ireturn, 1)]
theorem ro_WD_seen : rw_WD_seen.all (fun r => decide (decode prog_1_method_15_code r.1 = .ok r.2)) = true := by decide +kernel
theorem d_WD_seen_0 : decode prog_1_method_15_code 0 = .ok (.aload_n 0, 1) := am_row (r := (0, .aload_n 0, 1)) ro_WD_seen 0 rfl
theorem d_WD_seen_1 : decode prog_1_method_15_code 1 = .ok (.getfield 19, 3) := am_row (r := (1, .getfield 19, 3)) ro_WD_seen 1 rfl
theorem d_WD_seen_4 : decode prog_1_method_15_code 4 = .ok (.iload_n 1, 1) := am_row (r := (4, .iload_n 1, 1)) ro_WD_seen 2 rfl
theorem d_WD_seen_5 : decode prog_1_method_15_code 5 = .ok (.invokevirtual 159, 3) := am_row (r := (5, .invokevirtual 159, 3)) ro_WD_seen 3 rfl
theorem d_WD_seen_8 : decode prog_1_method_15_code 8 = .ok (.ifCond .ne 9, 3) := am_row (r := (8, .ifCond .ne 9, 3)) ro_WD_seen 4 rfl
theorem d_WD_seen_11 : decode prog_1_method_15_code 11 = .ok (.aload_n 0, 1) := am_row (r := (11, .aload_n 0, 1)) ro_WD_seen 5 rfl
theorem d_WD_seen_12 : decode prog_1_method_15_code 12 = .ok (.iconst 1, 1) := am_row (r := (12, .iconst 1, 1)) ro_WD_seen 6 rfl
theorem d_WD_seen_13 : decode prog_1_method_15_code 13 = .ok (.invokevirtual 95, 3) := am_row (r := (13, .invokevirtual 95, 3)) ro_WD_seen 7 rfl
theorem d_WD_seen_16 : decode prog_1_method_15_code 16 = .ok (.ireturn, 1) := am_row (r := (16, .ireturn, 1)) ro_WD_seen 8 rfl
theorem d_WD_seen_17 : decode prog_1_method_15_code 17 = .ok (.iload_n 2, 1) := am_row (r := (17, .iload_n 2, 1)) ro_WD_seen 9 rfl
theorem d_WD_seen_18 : decode prog_1_method_15_code 18 = .ok (.tableswitch 84 0 3 #[30, 44, 58, 71], 30) := am_row (r := (18, .tableswitch 84 0 3 #[30, 44, 58, 71], 30)) ro_WD_seen 10 rfl
theorem d_WD_seen_48 : decode prog_1_method_15_code 48 = .ok (.aload_n 0, 1) := am_row (r := (48, .aload_n 0, 1)) ro_WD_seen 11 rfl
theorem d_WD_seen_49 : decode prog_1_method_15_code 49 = .ok (.aload_n 0, 1) := am_row (r := (49, .aload_n 0, 1)) ro_WD_seen 12 rfl
theorem d_WD_seen_50 : decode prog_1_method_15_code 50 = .ok (.getfield 19, 3) := am_row (r := (50, .getfield 19, 3)) ro_WD_seen 13 rfl
theorem d_WD_seen_53 : decode prog_1_method_15_code 53 = .ok (.getfield 201, 3) := am_row (r := (53, .getfield 201, 3)) ro_WD_seen 14 rfl
theorem d_WD_seen_56 : decode prog_1_method_15_code 56 = .ok (.iload_n 1, 1) := am_row (r := (56, .iload_n 1, 1)) ro_WD_seen 15 rfl
theorem d_WD_seen_57 : decode prog_1_method_15_code 57 = .ok (.iaload, 1) := am_row (r := (57, .iaload, 1)) ro_WD_seen 16 rfl
theorem d_WD_seen_58 : decode prog_1_method_15_code 58 = .ok (.invokevirtual 91, 3) := am_row (r := (58, .invokevirtual 91, 3)) ro_WD_seen 17 rfl
theorem d_WD_seen_61 : decode prog_1_method_15_code 61 = .ok (.ireturn, 1) := am_row (r := (61, .ireturn, 1)) ro_WD_seen 18 rfl
theorem d_WD_seen_62 : decode prog_1_method_15_code 62 = .ok (.aload_n 0, 1) := am_row (r := (62, .aload_n 0, 1)) ro_WD_seen 19 rfl
theorem d_WD_seen_63 : decode prog_1_method_15_code 63 = .ok (.aload_n 0, 1) := am_row (r := (63, .aload_n 0, 1)) ro_WD_seen 20 rfl
theorem d_WD_seen_64 : decode prog_1_method_15_code 64 = .ok (.getfield 19, 3) := am_row (r := (64, .getfield 19, 3)) ro_WD_seen 21 rfl
theorem d_WD_seen_67 : decode prog_1_method_15_code 67 = .ok (.getfield 204, 3) := am_row (r := (67, .getfield 204, 3)) ro_WD_seen 22 rfl
theorem d_WD_seen_70 : decode prog_1_method_15_code 70 = .ok (.iload_n 1, 1) := am_row (r := (70, .iload_n 1, 1)) ro_WD_seen 23 rfl
theorem d_WD_seen_71 : decode prog_1_method_15_code 71 = .ok (.iaload, 1) := am_row (r := (71, .iaload, 1)) ro_WD_seen 24 rfl
theorem d_WD_seen_72 : decode prog_1_method_15_code 72 = .ok (.invokevirtual 91, 3) := am_row (r := (72, .invokevirtual 91, 3)) ro_WD_seen 25 rfl
theorem d_WD_seen_75 : decode prog_1_method_15_code 75 = .ok (.ireturn, 1) := am_row (r := (75, .ireturn, 1)) ro_WD_seen 26 rfl
theorem d_WD_seen_76 : decode prog_1_method_15_code 76 = .ok (.aload_n 0, 1) := am_row (r := (76, .aload_n 0, 1)) ro_WD_seen 27 rfl
theorem d_WD_seen_77 : decode prog_1_method_15_code 77 = .ok (.aload_n 0, 1) := am_row (r := (77, .aload_n 0, 1)) ro_WD_seen 28 rfl
theorem d_WD_seen_78 : decode prog_1_method_15_code 78 = .ok (.invokevirtual 187, 3) := am_row (r := (78, .invokevirtual 187, 3)) ro_WD_seen 29 rfl
theorem d_WD_seen_81 : decode prog_1_method_15_code 81 = .ok (.iload_n 1, 1) := am_row (r := (81, .iload_n 1, 1)) ro_WD_seen 30 rfl
theorem d_WD_seen_82 : decode prog_1_method_15_code 82 = .ok (.invokevirtual 207, 3) := am_row (r := (82, .invokevirtual 207, 3)) ro_WD_seen 31 rfl
theorem d_WD_seen_85 : decode prog_1_method_15_code 85 = .ok (.invokevirtual 91, 3) := am_row (r := (85, .invokevirtual 91, 3)) ro_WD_seen 32 rfl
theorem d_WD_seen_88 : decode prog_1_method_15_code 88 = .ok (.ireturn, 1) := am_row (r := (88, .ireturn, 1)) ro_WD_seen 33 rfl
theorem d_WD_seen_89 : decode prog_1_method_15_code 89 = .ok (.aload_n 0, 1) := am_row (r := (89, .aload_n 0, 1)) ro_WD_seen 34 rfl
theorem d_WD_seen_90 : decode prog_1_method_15_code 90 = .ok (.aload_n 0, 1) := am_row (r := (90, .aload_n 0, 1)) ro_WD_seen 35 rfl
theorem d_WD_seen_91 : decode prog_1_method_15_code 91 = .ok (.invokevirtual 187, 3) := am_row (r := (91, .invokevirtual 187, 3)) ro_WD_seen 36 rfl
theorem d_WD_seen_94 : decode prog_1_method_15_code 94 = .ok (.iload_n 1, 1) := am_row (r := (94, .iload_n 1, 1)) ro_WD_seen 37 rfl
theorem d_WD_seen_95 : decode prog_1_method_15_code 95 = .ok (.invokevirtual 210, 3) := am_row (r := (95, .invokevirtual 210, 3)) ro_WD_seen 38 rfl
theorem d_WD_seen_98 : decode prog_1_method_15_code 98 = .ok (.invokevirtual 91, 3) := am_row (r := (98, .invokevirtual 91, 3)) ro_WD_seen 39 rfl
theorem d_WD_seen_101 : decode prog_1_method_15_code 101 = .ok (.ireturn, 1) := am_row (r := (101, .ireturn, 1)) ro_WD_seen 40 rfl
theorem d_WD_seen_102 : decode prog_1_method_15_code 102 = .ok (.aload_n 0, 1) := am_row (r := (102, .aload_n 0, 1)) ro_WD_seen 41 rfl
theorem d_WD_seen_103 : decode prog_1_method_15_code 103 = .ok (.iconst 1, 1) := am_row (r := (103, .iconst 1, 1)) ro_WD_seen 42 rfl
theorem d_WD_seen_104 : decode prog_1_method_15_code 104 = .ok (.invokevirtual 95, 3) := am_row (r := (104, .invokevirtual 95, 3)) ro_WD_seen 43 rfl
theorem d_WD_seen_107 : decode prog_1_method_15_code 107 = .ok (.ireturn, 1) := am_row (r := (107, .ireturn, 1)) ro_WD_seen 44 rfl
abbrev y_View_standsWith : MethodName := ⟨"WheelDisc$View", "standsWith", "(I)I"⟩
theorem c_View_standsWith : Cond.code y_View_standsWith prog_10_method_11_code 4 (some .int) ∈ am_T := am_mem 621 (by decide +kernel) rfl
def rw_View_standsWith : List (Nat × Instr × Nat) := [(0, .iconst 0, 1), (1, .istore_n 2, 1), (2, .iconst 0, 1), (3, .istore_n 3, 1), (4, .iload_n 3, 1), (5, .aload_n 0, 1), (6, .getfield 22, 3), (9, .if_icmp .ge 22, 3), (12, .aload_n 0, 1), (13, .getfield 9, 3), (16, .iload_n 3, 1), (17, .iaload, 1), (18, .iload_n 1, 1), (19, .if_icmp .ne 6, 3), (22, .iinc 2 1, 3), (25, .iinc 3 1, 3), (28, .goto (-24), 3), (31, .iload_n 2, 1), (32, .ireturn, 1)]
theorem ro_View_standsWith : rw_View_standsWith.all (fun r => decide (decode prog_10_method_11_code r.1 = .ok r.2)) = true := by decide +kernel
theorem d_View_standsWith_0 : decode prog_10_method_11_code 0 = .ok (.iconst 0, 1) := am_row (r := (0, .iconst 0, 1)) ro_View_standsWith 0 rfl
theorem d_View_standsWith_1 : decode prog_10_method_11_code 1 = .ok (.istore_n 2, 1) := am_row (r := (1, .istore_n 2, 1)) ro_View_standsWith 1 rfl
theorem d_View_standsWith_2 : decode prog_10_method_11_code 2 = .ok (.iconst 0, 1) := am_row (r := (2, .iconst 0, 1)) ro_View_standsWith 2 rfl
theorem d_View_standsWith_3 : decode prog_10_method_11_code 3 = .ok (.istore_n 3, 1) := am_row (r := (3, .istore_n 3, 1)) ro_View_standsWith 3 rfl
theorem d_View_standsWith_4 : decode prog_10_method_11_code 4 = .ok (.iload_n 3, 1) := am_row (r := (4, .iload_n 3, 1)) ro_View_standsWith 4 rfl
theorem d_View_standsWith_5 : decode prog_10_method_11_code 5 = .ok (.aload_n 0, 1) := am_row (r := (5, .aload_n 0, 1)) ro_View_standsWith 5 rfl
theorem d_View_standsWith_6 : decode prog_10_method_11_code 6 = .ok (.getfield 22, 3) := am_row (r := (6, .getfield 22, 3)) ro_View_standsWith 6 rfl
theorem d_View_standsWith_9 : decode prog_10_method_11_code 9 = .ok (.if_icmp .ge 22, 3) := am_row (r := (9, .if_icmp .ge 22, 3)) ro_View_standsWith 7 rfl
theorem d_View_standsWith_12 : decode prog_10_method_11_code 12 = .ok (.aload_n 0, 1) := am_row (r := (12, .aload_n 0, 1)) ro_View_standsWith 8 rfl
theorem d_View_standsWith_13 : decode prog_10_method_11_code 13 = .ok (.getfield 9, 3) := am_row (r := (13, .getfield 9, 3)) ro_View_standsWith 9 rfl
theorem d_View_standsWith_16 : decode prog_10_method_11_code 16 = .ok (.iload_n 3, 1) := am_row (r := (16, .iload_n 3, 1)) ro_View_standsWith 10 rfl
theorem d_View_standsWith_17 : decode prog_10_method_11_code 17 = .ok (.iaload, 1) := am_row (r := (17, .iaload, 1)) ro_View_standsWith 11 rfl
theorem d_View_standsWith_18 : decode prog_10_method_11_code 18 = .ok (.iload_n 1, 1) := am_row (r := (18, .iload_n 1, 1)) ro_View_standsWith 12 rfl
theorem d_View_standsWith_19 : decode prog_10_method_11_code 19 = .ok (.if_icmp .ne 6, 3) := am_row (r := (19, .if_icmp .ne 6, 3)) ro_View_standsWith 13 rfl
theorem d_View_standsWith_22 : decode prog_10_method_11_code 22 = .ok (.iinc 2 1, 3) := am_row (r := (22, .iinc 2 1, 3)) ro_View_standsWith 14 rfl
theorem d_View_standsWith_25 : decode prog_10_method_11_code 25 = .ok (.iinc 3 1, 3) := am_row (r := (25, .iinc 3 1, 3)) ro_View_standsWith 15 rfl
theorem d_View_standsWith_28 : decode prog_10_method_11_code 28 = .ok (.goto (-24), 3) := am_row (r := (28, .goto (-24), 3)) ro_View_standsWith 16 rfl
theorem d_View_standsWith_31 : decode prog_10_method_11_code 31 = .ok (.iload_n 2, 1) := am_row (r := (31, .iload_n 2, 1)) ro_View_standsWith 17 rfl
theorem d_View_standsWith_32 : decode prog_10_method_11_code 32 = .ok (.ireturn, 1) := am_row (r := (32, .ireturn, 1)) ro_View_standsWith 18 rfl
abbrev y_WD_where : MethodName := ⟨"WheelDisc", "where", "(I)I"⟩
theorem c_WD_where : Cond.code y_WD_where prog_1_method_16_code 2 (some .int) ∈ am_T := am_mem 617 (by decide +kernel) rfl
def rw_WD_where : List (Nat × Instr × Nat) := [(0, .aload_n 0, 1), (1, .aload_n 0, 1), (2, .invokevirtual 187, 3), (5, .iload_n 1, 1), (6, .invokevirtual 213, 3), (9, .invokevirtual 91, 3), (12, .ireturn, 1)]
theorem ro_WD_where : rw_WD_where.all (fun r => decide (decode prog_1_method_16_code r.1 = .ok r.2)) = true := by decide +kernel
theorem d_WD_where_0 : decode prog_1_method_16_code 0 = .ok (.aload_n 0, 1) := am_row (r := (0, .aload_n 0, 1)) ro_WD_where 0 rfl
theorem d_WD_where_1 : decode prog_1_method_16_code 1 = .ok (.aload_n 0, 1) := am_row (r := (1, .aload_n 0, 1)) ro_WD_where 1 rfl
theorem d_WD_where_2 : decode prog_1_method_16_code 2 = .ok (.invokevirtual 187, 3) := am_row (r := (2, .invokevirtual 187, 3)) ro_WD_where 2 rfl
theorem d_WD_where_5 : decode prog_1_method_16_code 5 = .ok (.iload_n 1, 1) := am_row (r := (5, .iload_n 1, 1)) ro_WD_where 3 rfl
theorem d_WD_where_6 : decode prog_1_method_16_code 6 = .ok (.invokevirtual 213, 3) := am_row (r := (6, .invokevirtual 213, 3)) ro_WD_where 4 rfl
theorem d_WD_where_9 : decode prog_1_method_16_code 9 = .ok (.invokevirtual 91, 3) := am_row (r := (9, .invokevirtual 91, 3)) ro_WD_where 5 rfl
theorem d_WD_where_12 : decode prog_1_method_16_code 12 = .ok (.ireturn, 1) := am_row (r := (12, .ireturn, 1)) ro_WD_where 6 rfl
abbrev y_View_standWith : MethodName := ⟨"WheelDisc$View", "standWith", "(II)I"⟩
theorem c_View_standWith : Cond.code y_View_standWith prog_10_method_12_code 5 (some .int) ∈ am_T := am_mem 629 (by decide +kernel) rfl
def rw_View_standWith : List (Nat × Instr × Nat) := [(0, .iconst 0, 1), (1, .istore_n 3, 1), (2, .iconst 0, 1), (3, .istore 4, 2), (5, .iload 4, 2), (7, .aload_n 0, 1), (8, .getfield 22, 3), (11, .if_icmp .ge 31, 3), (14, .aload_n 0, 1), (15, .getfield 9, 3), (18, .iload 4, 2), (20, .iaload, 1), (21, .iload_n 1, 1), (22, .if_icmp .ne 14, 3), (25, .iload_n 3, 1), (26, .iload_n 2, 1), (27, .if_icmp .ne 6, 3), (30, .iload 4, 2), (32, .ireturn, 1), (33, .iinc 3 1, 3), (36, .iinc 4 1, 3), (39, .goto (-34), 3), (42, .iconst (-1), 1), (43, .ireturn, 1)]
theorem ro_View_standWith : rw_View_standWith.all (fun r => decide (decode prog_10_method_12_code r.1 = .ok r.2)) = true := by decide +kernel
theorem d_View_standWith_0 : decode prog_10_method_12_code 0 = .ok (.iconst 0, 1) := am_row (r := (0, .iconst 0, 1)) ro_View_standWith 0 rfl
theorem d_View_standWith_1 : decode prog_10_method_12_code 1 = .ok (.istore_n 3, 1) := am_row (r := (1, .istore_n 3, 1)) ro_View_standWith 1 rfl
theorem d_View_standWith_2 : decode prog_10_method_12_code 2 = .ok (.iconst 0, 1) := am_row (r := (2, .iconst 0, 1)) ro_View_standWith 2 rfl
theorem d_View_standWith_3 : decode prog_10_method_12_code 3 = .ok (.istore 4, 2) := am_row (r := (3, .istore 4, 2)) ro_View_standWith 3 rfl
theorem d_View_standWith_5 : decode prog_10_method_12_code 5 = .ok (.iload 4, 2) := am_row (r := (5, .iload 4, 2)) ro_View_standWith 4 rfl
theorem d_View_standWith_7 : decode prog_10_method_12_code 7 = .ok (.aload_n 0, 1) := am_row (r := (7, .aload_n 0, 1)) ro_View_standWith 5 rfl
theorem d_View_standWith_8 : decode prog_10_method_12_code 8 = .ok (.getfield 22, 3) := am_row (r := (8, .getfield 22, 3)) ro_View_standWith 6 rfl
theorem d_View_standWith_11 : decode prog_10_method_12_code 11 = .ok (.if_icmp .ge 31, 3) := am_row (r := (11, .if_icmp .ge 31, 3)) ro_View_standWith 7 rfl
theorem d_View_standWith_14 : decode prog_10_method_12_code 14 = .ok (.aload_n 0, 1) := am_row (r := (14, .aload_n 0, 1)) ro_View_standWith 8 rfl
theorem d_View_standWith_15 : decode prog_10_method_12_code 15 = .ok (.getfield 9, 3) := am_row (r := (15, .getfield 9, 3)) ro_View_standWith 9 rfl
theorem d_View_standWith_18 : decode prog_10_method_12_code 18 = .ok (.iload 4, 2) := am_row (r := (18, .iload 4, 2)) ro_View_standWith 10 rfl
theorem d_View_standWith_20 : decode prog_10_method_12_code 20 = .ok (.iaload, 1) := am_row (r := (20, .iaload, 1)) ro_View_standWith 11 rfl
theorem d_View_standWith_21 : decode prog_10_method_12_code 21 = .ok (.iload_n 1, 1) := am_row (r := (21, .iload_n 1, 1)) ro_View_standWith 12 rfl
theorem d_View_standWith_22 : decode prog_10_method_12_code 22 = .ok (.if_icmp .ne 14, 3) := am_row (r := (22, .if_icmp .ne 14, 3)) ro_View_standWith 13 rfl
theorem d_View_standWith_25 : decode prog_10_method_12_code 25 = .ok (.iload_n 3, 1) := am_row (r := (25, .iload_n 3, 1)) ro_View_standWith 14 rfl
theorem d_View_standWith_26 : decode prog_10_method_12_code 26 = .ok (.iload_n 2, 1) := am_row (r := (26, .iload_n 2, 1)) ro_View_standWith 15 rfl
theorem d_View_standWith_27 : decode prog_10_method_12_code 27 = .ok (.if_icmp .ne 6, 3) := am_row (r := (27, .if_icmp .ne 6, 3)) ro_View_standWith 16 rfl
theorem d_View_standWith_30 : decode prog_10_method_12_code 30 = .ok (.iload 4, 2) := am_row (r := (30, .iload 4, 2)) ro_View_standWith 17 rfl
theorem d_View_standWith_32 : decode prog_10_method_12_code 32 = .ok (.ireturn, 1) := am_row (r := (32, .ireturn, 1)) ro_View_standWith 18 rfl
theorem d_View_standWith_33 : decode prog_10_method_12_code 33 = .ok (.iinc 3 1, 3) := am_row (r := (33, .iinc 3 1, 3)) ro_View_standWith 19 rfl
theorem d_View_standWith_36 : decode prog_10_method_12_code 36 = .ok (.iinc 4 1, 3) := am_row (r := (36, .iinc 4 1, 3)) ro_View_standWith 20 rfl
theorem d_View_standWith_39 : decode prog_10_method_12_code 39 = .ok (.goto (-34), 3) := am_row (r := (39, .goto (-34), 3)) ro_View_standWith 21 rfl
theorem d_View_standWith_42 : decode prog_10_method_12_code 42 = .ok (.iconst (-1), 1) := am_row (r := (42, .iconst (-1), 1)) ro_View_standWith 22 rfl
theorem d_View_standWith_43 : decode prog_10_method_12_code 43 = .ok (.ireturn, 1) := am_row (r := (43, .ireturn, 1)) ro_View_standWith 23 rfl
abbrev y_WD_at : MethodName := ⟨"WheelDisc", "at", "(II)I"⟩
theorem c_WD_at : Cond.code y_WD_at prog_1_method_17_code 4 (some .int) ∈ am_T := am_mem 625 (by decide +kernel) rfl
def rw_WD_at : List (Nat × Instr × Nat) := [(0, .aload_n 0, 1), (1, .invokevirtual 187, 3), (4, .iload_n 1, 1), (5, .iload_n 2, 1), (6, .invokevirtual 216, 3), (9, .istore_n 3, 1), (10, .iload_n 3, 1), (11, .iconst (-1), 1), (12, .if_icmp .ne 11, 3), (15, .aload_n 0, 1), (16, .iconst 1, 1), (17, .invokevirtual 95, 3), (20, .goto 8, 3), (23, .aload_n 0, 1), (24, .iload_n 3, 1), (25, .invokevirtual 91, 3), (28, .ireturn, 1)]
theorem ro_WD_at : rw_WD_at.all (fun r => decide (decode prog_1_method_17_code r.1 = .ok r.2)) = true := by decide +kernel
theorem d_WD_at_0 : decode prog_1_method_17_code 0 = .ok (.aload_n 0, 1) := am_row (r := (0, .aload_n 0, 1)) ro_WD_at 0 rfl
theorem d_WD_at_1 : decode prog_1_method_17_code 1 = .ok (.invokevirtual 187, 3) := am_row (r := (1, .invokevirtual 187, 3)) ro_WD_at 1 rfl
theorem d_WD_at_4 : decode prog_1_method_17_code 4 = .ok (.iload_n 1, 1) := am_row (r := (4, .iload_n 1, 1)) ro_WD_at 2 rfl
theorem d_WD_at_5 : decode prog_1_method_17_code 5 = .ok (.iload_n 2, 1) := am_row (r := (5, .iload_n 2, 1)) ro_WD_at 3 rfl
theorem d_WD_at_6 : decode prog_1_method_17_code 6 = .ok (.invokevirtual 216, 3) := am_row (r := (6, .invokevirtual 216, 3)) ro_WD_at 4 rfl
theorem d_WD_at_9 : decode prog_1_method_17_code 9 = .ok (.istore_n 3, 1) := am_row (r := (9, .istore_n 3, 1)) ro_WD_at 5 rfl
theorem d_WD_at_10 : decode prog_1_method_17_code 10 = .ok (.iload_n 3, 1) := am_row (r := (10, .iload_n 3, 1)) ro_WD_at 6 rfl
theorem d_WD_at_11 : decode prog_1_method_17_code 11 = .ok (.iconst (-1), 1) := am_row (r := (11, .iconst (-1), 1)) ro_WD_at 7 rfl
theorem d_WD_at_12 : decode prog_1_method_17_code 12 = .ok (.if_icmp .ne 11, 3) := am_row (r := (12, .if_icmp .ne 11, 3)) ro_WD_at 8 rfl
theorem d_WD_at_15 : decode prog_1_method_17_code 15 = .ok (.aload_n 0, 1) := am_row (r := (15, .aload_n 0, 1)) ro_WD_at 9 rfl
theorem d_WD_at_16 : decode prog_1_method_17_code 16 = .ok (.iconst 1, 1) := am_row (r := (16, .iconst 1, 1)) ro_WD_at 10 rfl
theorem d_WD_at_17 : decode prog_1_method_17_code 17 = .ok (.invokevirtual 95, 3) := am_row (r := (17, .invokevirtual 95, 3)) ro_WD_at 11 rfl
theorem d_WD_at_20 : decode prog_1_method_17_code 20 = .ok (.goto 8, 3) := am_row (r := (20, .goto 8, 3)) ro_WD_at 12 rfl
theorem d_WD_at_23 : decode prog_1_method_17_code 23 = .ok (.aload_n 0, 1) := am_row (r := (23, .aload_n 0, 1)) ro_WD_at 13 rfl
theorem d_WD_at_24 : decode prog_1_method_17_code 24 = .ok (.iload_n 3, 1) := am_row (r := (24, .iload_n 3, 1)) ro_WD_at 14 rfl
theorem d_WD_at_25 : decode prog_1_method_17_code 25 = .ok (.invokevirtual 91, 3) := am_row (r := (25, .invokevirtual 91, 3)) ro_WD_at 15 rfl
theorem d_WD_at_28 : decode prog_1_method_17_code 28 = .ok (.ireturn, 1) := am_row (r := (28, .ireturn, 1)) ro_WD_at 16 rfl
abbrev y_View_waysBehind : MethodName := ⟨"WheelDisc$View", "waysBehind", "(I)I"⟩
theorem c_View_waysBehind : Cond.code y_View_waysBehind prog_10_method_13_code 2 (some .int) ∈ am_T := am_mem 637 (by decide +kernel) rfl
def rw_View_waysBehind : List (Nat × Instr × Nat) := [(0, .iconst 1, 1), (1, .aload_n 0, 1), (2, .iload_n 1, 1), (3, .invokevirtual 69, 3), (6, .invokestatic 72, 3), (9, .ishl, 1), (10, .ireturn, 1)]
theorem ro_View_waysBehind : rw_View_waysBehind.all (fun r => decide (decode prog_10_method_13_code r.1 = .ok r.2)) = true := by decide +kernel
theorem d_View_waysBehind_0 : decode prog_10_method_13_code 0 = .ok (.iconst 1, 1) := am_row (r := (0, .iconst 1, 1)) ro_View_waysBehind 0 rfl
theorem d_View_waysBehind_1 : decode prog_10_method_13_code 1 = .ok (.aload_n 0, 1) := am_row (r := (1, .aload_n 0, 1)) ro_View_waysBehind 1 rfl
theorem d_View_waysBehind_2 : decode prog_10_method_13_code 2 = .ok (.iload_n 1, 1) := am_row (r := (2, .iload_n 1, 1)) ro_View_waysBehind 2 rfl
theorem d_View_waysBehind_3 : decode prog_10_method_13_code 3 = .ok (.invokevirtual 69, 3) := am_row (r := (3, .invokevirtual 69, 3)) ro_View_waysBehind 3 rfl
theorem d_View_waysBehind_6 : decode prog_10_method_13_code 6 = .ok (.invokestatic 72, 3) := am_row (r := (6, .invokestatic 72, 3)) ro_View_waysBehind 4 rfl
theorem d_View_waysBehind_9 : decode prog_10_method_13_code 9 = .ok (.ishl, 1) := am_row (r := (9, .ishl, 1)) ro_View_waysBehind 5 rfl
theorem d_View_waysBehind_10 : decode prog_10_method_13_code 10 = .ok (.ireturn, 1) := am_row (r := (10, .ireturn, 1)) ro_View_waysBehind 6 rfl
abbrev y_WD_edge : MethodName := ⟨"WheelDisc", "edge", "(I)I"⟩
theorem c_WD_edge : Cond.code y_WD_edge prog_1_method_18_code 2 (some .int) ∈ am_T := am_mem 633 (by decide +kernel) rfl
def rw_WD_edge : List (Nat × Instr × Nat) := [(0, .aload_n 0, 1), (1, .getfield 19, 3), (4, .iload_n 1, 1), (5, .invokevirtual 146, 3), (8, .ifCond .ne 9, 3), (11, .aload_n 0, 1), (12, .iconst 1, 1), (13, .invokevirtual 95, 3), (16, .ireturn, 1), (17, .aload_n 0, 1), (18, .aload_n 0, 1), (19, .invokevirtual 187, 3), (22, .iload_n 1, 1), (23, .invokevirtual 219, 3), (26, .invokevirtual 91, 3), (29, .ireturn, 1)]
theorem ro_WD_edge : rw_WD_edge.all (fun r => decide (decode prog_1_method_18_code r.1 = .ok r.2)) = true := by decide +kernel
theorem d_WD_edge_0 : decode prog_1_method_18_code 0 = .ok (.aload_n 0, 1) := am_row (r := (0, .aload_n 0, 1)) ro_WD_edge 0 rfl
theorem d_WD_edge_1 : decode prog_1_method_18_code 1 = .ok (.getfield 19, 3) := am_row (r := (1, .getfield 19, 3)) ro_WD_edge 1 rfl
theorem d_WD_edge_4 : decode prog_1_method_18_code 4 = .ok (.iload_n 1, 1) := am_row (r := (4, .iload_n 1, 1)) ro_WD_edge 2 rfl
theorem d_WD_edge_5 : decode prog_1_method_18_code 5 = .ok (.invokevirtual 146, 3) := am_row (r := (5, .invokevirtual 146, 3)) ro_WD_edge 3 rfl
theorem d_WD_edge_8 : decode prog_1_method_18_code 8 = .ok (.ifCond .ne 9, 3) := am_row (r := (8, .ifCond .ne 9, 3)) ro_WD_edge 4 rfl
theorem d_WD_edge_11 : decode prog_1_method_18_code 11 = .ok (.aload_n 0, 1) := am_row (r := (11, .aload_n 0, 1)) ro_WD_edge 5 rfl
theorem d_WD_edge_12 : decode prog_1_method_18_code 12 = .ok (.iconst 1, 1) := am_row (r := (12, .iconst 1, 1)) ro_WD_edge 6 rfl
theorem d_WD_edge_13 : decode prog_1_method_18_code 13 = .ok (.invokevirtual 95, 3) := am_row (r := (13, .invokevirtual 95, 3)) ro_WD_edge 7 rfl
theorem d_WD_edge_16 : decode prog_1_method_18_code 16 = .ok (.ireturn, 1) := am_row (r := (16, .ireturn, 1)) ro_WD_edge 8 rfl
theorem d_WD_edge_17 : decode prog_1_method_18_code 17 = .ok (.aload_n 0, 1) := am_row (r := (17, .aload_n 0, 1)) ro_WD_edge 9 rfl
theorem d_WD_edge_18 : decode prog_1_method_18_code 18 = .ok (.aload_n 0, 1) := am_row (r := (18, .aload_n 0, 1)) ro_WD_edge 10 rfl
theorem d_WD_edge_19 : decode prog_1_method_18_code 19 = .ok (.invokevirtual 187, 3) := am_row (r := (19, .invokevirtual 187, 3)) ro_WD_edge 11 rfl
theorem d_WD_edge_22 : decode prog_1_method_18_code 22 = .ok (.iload_n 1, 1) := am_row (r := (22, .iload_n 1, 1)) ro_WD_edge 12 rfl
theorem d_WD_edge_23 : decode prog_1_method_18_code 23 = .ok (.invokevirtual 219, 3) := am_row (r := (23, .invokevirtual 219, 3)) ro_WD_edge 13 rfl
theorem d_WD_edge_26 : decode prog_1_method_18_code 26 = .ok (.invokevirtual 91, 3) := am_row (r := (26, .invokevirtual 91, 3)) ro_WD_edge 14 rfl
theorem d_WD_edge_29 : decode prog_1_method_18_code 29 = .ok (.ireturn, 1) := am_row (r := (29, .ireturn, 1)) ro_WD_edge 15 rfl
abbrev y_View_wayBehind : MethodName := ⟨"WheelDisc$View", "wayBehind", "(II)I"⟩
theorem c_View_wayBehind : Cond.code y_View_wayBehind prog_10_method_14_code 7 (some .int) ∈ am_T := am_mem 645 (by decide +kernel) rfl
def rw_View_wayBehind : List (Nat × Instr × Nat) := [(0, .aload_n 0, 1), (1, .iload_n 1, 1), (2, .invokevirtual 69, 3), (5, .istore_n 3, 1), (6, .aload_n 0, 1), (7, .getfield 9, 3), (10, .iload_n 1, 1), (11, .iaload, 1), (12, .iload_n 3, 1), (13, .iconst (-1), 1), (14, .ixor, 1), (15, .iand, 1), (16, .istore 4, 2), (18, .iload_n 2, 1), (19, .istore 5, 2), (21, .iconst 0, 1), (22, .istore 6, 2), (24, .iload 6, 2), (26, .aload_n 0, 1), (27, .getfield 26, 3), (30, .if_icmp .ge 36, 3), (33, .iload_n 3, 1), (34, .iload 6, 2), (36, .ishr, 1), (37, .iconst 1, 1), (38, .iand, 1), (39, .ifCond .eq 21, 3), (42, .iload 4, 2), (44, .iload 5, 2), (46, .iconst 1, 1), (47, .iand, 1), (48, .iload 6, 2), (50, .ishl, 1), (51, .ior, 1), (52, .istore 4, 2), (54, .iload 5, 2), (56, .iconst 1, 1), (57, .ishr, 1), (58, .istore 5, 2), (60, .iinc 6 1, 3), (63, .goto (-39), 3), (66, .iload 4, 2), (68, .ireturn, 1)]
theorem ro_View_wayBehind : rw_View_wayBehind.all (fun r => decide (decode prog_10_method_14_code r.1 = .ok r.2)) = true := by decide +kernel
theorem d_View_wayBehind_0 : decode prog_10_method_14_code 0 = .ok (.aload_n 0, 1) := am_row (r := (0, .aload_n 0, 1)) ro_View_wayBehind 0 rfl
theorem d_View_wayBehind_1 : decode prog_10_method_14_code 1 = .ok (.iload_n 1, 1) := am_row (r := (1, .iload_n 1, 1)) ro_View_wayBehind 1 rfl
theorem d_View_wayBehind_2 : decode prog_10_method_14_code 2 = .ok (.invokevirtual 69, 3) := am_row (r := (2, .invokevirtual 69, 3)) ro_View_wayBehind 2 rfl
theorem d_View_wayBehind_5 : decode prog_10_method_14_code 5 = .ok (.istore_n 3, 1) := am_row (r := (5, .istore_n 3, 1)) ro_View_wayBehind 3 rfl
theorem d_View_wayBehind_6 : decode prog_10_method_14_code 6 = .ok (.aload_n 0, 1) := am_row (r := (6, .aload_n 0, 1)) ro_View_wayBehind 4 rfl
theorem d_View_wayBehind_7 : decode prog_10_method_14_code 7 = .ok (.getfield 9, 3) := am_row (r := (7, .getfield 9, 3)) ro_View_wayBehind 5 rfl
theorem d_View_wayBehind_10 : decode prog_10_method_14_code 10 = .ok (.iload_n 1, 1) := am_row (r := (10, .iload_n 1, 1)) ro_View_wayBehind 6 rfl
theorem d_View_wayBehind_11 : decode prog_10_method_14_code 11 = .ok (.iaload, 1) := am_row (r := (11, .iaload, 1)) ro_View_wayBehind 7 rfl
theorem d_View_wayBehind_12 : decode prog_10_method_14_code 12 = .ok (.iload_n 3, 1) := am_row (r := (12, .iload_n 3, 1)) ro_View_wayBehind 8 rfl
theorem d_View_wayBehind_13 : decode prog_10_method_14_code 13 = .ok (.iconst (-1), 1) := am_row (r := (13, .iconst (-1), 1)) ro_View_wayBehind 9 rfl
theorem d_View_wayBehind_14 : decode prog_10_method_14_code 14 = .ok (.ixor, 1) := am_row (r := (14, .ixor, 1)) ro_View_wayBehind 10 rfl
theorem d_View_wayBehind_15 : decode prog_10_method_14_code 15 = .ok (.iand, 1) := am_row (r := (15, .iand, 1)) ro_View_wayBehind 11 rfl
theorem d_View_wayBehind_16 : decode prog_10_method_14_code 16 = .ok (.istore 4, 2) := am_row (r := (16, .istore 4, 2)) ro_View_wayBehind 12 rfl
theorem d_View_wayBehind_18 : decode prog_10_method_14_code 18 = .ok (.iload_n 2, 1) := am_row (r := (18, .iload_n 2, 1)) ro_View_wayBehind 13 rfl
theorem d_View_wayBehind_19 : decode prog_10_method_14_code 19 = .ok (.istore 5, 2) := am_row (r := (19, .istore 5, 2)) ro_View_wayBehind 14 rfl
theorem d_View_wayBehind_21 : decode prog_10_method_14_code 21 = .ok (.iconst 0, 1) := am_row (r := (21, .iconst 0, 1)) ro_View_wayBehind 15 rfl
theorem d_View_wayBehind_22 : decode prog_10_method_14_code 22 = .ok (.istore 6, 2) := am_row (r := (22, .istore 6, 2)) ro_View_wayBehind 16 rfl
theorem d_View_wayBehind_24 : decode prog_10_method_14_code 24 = .ok (.iload 6, 2) := am_row (r := (24, .iload 6, 2)) ro_View_wayBehind 17 rfl
theorem d_View_wayBehind_26 : decode prog_10_method_14_code 26 = .ok (.aload_n 0, 1) := am_row (r := (26, .aload_n 0, 1)) ro_View_wayBehind 18 rfl
theorem d_View_wayBehind_27 : decode prog_10_method_14_code 27 = .ok (.getfield 26, 3) := am_row (r := (27, .getfield 26, 3)) ro_View_wayBehind 19 rfl
theorem d_View_wayBehind_30 : decode prog_10_method_14_code 30 = .ok (.if_icmp .ge 36, 3) := am_row (r := (30, .if_icmp .ge 36, 3)) ro_View_wayBehind 20 rfl
theorem d_View_wayBehind_33 : decode prog_10_method_14_code 33 = .ok (.iload_n 3, 1) := am_row (r := (33, .iload_n 3, 1)) ro_View_wayBehind 21 rfl
theorem d_View_wayBehind_34 : decode prog_10_method_14_code 34 = .ok (.iload 6, 2) := am_row (r := (34, .iload 6, 2)) ro_View_wayBehind 22 rfl
theorem d_View_wayBehind_36 : decode prog_10_method_14_code 36 = .ok (.ishr, 1) := am_row (r := (36, .ishr, 1)) ro_View_wayBehind 23 rfl
theorem d_View_wayBehind_37 : decode prog_10_method_14_code 37 = .ok (.iconst 1, 1) := am_row (r := (37, .iconst 1, 1)) ro_View_wayBehind 24 rfl
theorem d_View_wayBehind_38 : decode prog_10_method_14_code 38 = .ok (.iand, 1) := am_row (r := (38, .iand, 1)) ro_View_wayBehind 25 rfl
theorem d_View_wayBehind_39 : decode prog_10_method_14_code 39 = .ok (.ifCond .eq 21, 3) := am_row (r := (39, .ifCond .eq 21, 3)) ro_View_wayBehind 26 rfl
theorem d_View_wayBehind_42 : decode prog_10_method_14_code 42 = .ok (.iload 4, 2) := am_row (r := (42, .iload 4, 2)) ro_View_wayBehind 27 rfl
theorem d_View_wayBehind_44 : decode prog_10_method_14_code 44 = .ok (.iload 5, 2) := am_row (r := (44, .iload 5, 2)) ro_View_wayBehind 28 rfl
theorem d_View_wayBehind_46 : decode prog_10_method_14_code 46 = .ok (.iconst 1, 1) := am_row (r := (46, .iconst 1, 1)) ro_View_wayBehind 29 rfl
theorem d_View_wayBehind_47 : decode prog_10_method_14_code 47 = .ok (.iand, 1) := am_row (r := (47, .iand, 1)) ro_View_wayBehind 30 rfl
theorem d_View_wayBehind_48 : decode prog_10_method_14_code 48 = .ok (.iload 6, 2) := am_row (r := (48, .iload 6, 2)) ro_View_wayBehind 31 rfl
theorem d_View_wayBehind_50 : decode prog_10_method_14_code 50 = .ok (.ishl, 1) := am_row (r := (50, .ishl, 1)) ro_View_wayBehind 32 rfl
theorem d_View_wayBehind_51 : decode prog_10_method_14_code 51 = .ok (.ior, 1) := am_row (r := (51, .ior, 1)) ro_View_wayBehind 33 rfl
theorem d_View_wayBehind_52 : decode prog_10_method_14_code 52 = .ok (.istore 4, 2) := am_row (r := (52, .istore 4, 2)) ro_View_wayBehind 34 rfl
theorem d_View_wayBehind_54 : decode prog_10_method_14_code 54 = .ok (.iload 5, 2) := am_row (r := (54, .iload 5, 2)) ro_View_wayBehind 35 rfl
theorem d_View_wayBehind_56 : decode prog_10_method_14_code 56 = .ok (.iconst 1, 1) := am_row (r := (56, .iconst 1, 1)) ro_View_wayBehind 36 rfl
theorem d_View_wayBehind_57 : decode prog_10_method_14_code 57 = .ok (.ishr, 1) := am_row (r := (57, .ishr, 1)) ro_View_wayBehind 37 rfl
theorem d_View_wayBehind_58 : decode prog_10_method_14_code 58 = .ok (.istore 5, 2) := am_row (r := (58, .istore 5, 2)) ro_View_wayBehind 38 rfl
theorem d_View_wayBehind_60 : decode prog_10_method_14_code 60 = .ok (.iinc 6 1, 3) := am_row (r := (60, .iinc 6 1, 3)) ro_View_wayBehind 39 rfl
theorem d_View_wayBehind_63 : decode prog_10_method_14_code 63 = .ok (.goto (-39), 3) := am_row (r := (63, .goto (-39), 3)) ro_View_wayBehind 40 rfl
theorem d_View_wayBehind_66 : decode prog_10_method_14_code 66 = .ok (.iload 4, 2) := am_row (r := (66, .iload 4, 2)) ro_View_wayBehind 41 rfl
theorem d_View_wayBehind_68 : decode prog_10_method_14_code 68 = .ok (.ireturn, 1) := am_row (r := (68, .ireturn, 1)) ro_View_wayBehind 42 rfl
abbrev y_WD_way : MethodName := ⟨"WheelDisc", "way", "(II)I"⟩
theorem c_WD_way : Cond.code y_WD_way prog_1_method_19_code 3 (some .int) ∈ am_T := am_mem 641 (by decide +kernel) rfl
def rw_WD_way : List (Nat × Instr × Nat) := [(0, .aload_n 0, 1), (1, .getfield 19, 3), (4, .iload_n 1, 1), (5, .invokevirtual 146, 3), (8, .ifCond .eq 19, 3), (11, .iload_n 2, 1), (12, .ifCond .lt 15, 3), (15, .iload_n 2, 1), (16, .aload_n 0, 1), (17, .invokevirtual 187, 3), (20, .iload_n 1, 1), (21, .invokevirtual 219, 3), (24, .if_icmp .lt 9, 3), (27, .aload_n 0, 1), (28, .iconst 1, 1), (29, .invokevirtual 95, 3), (32, .ireturn, 1), (33, .aload_n 0, 1), (34, .aload_n 0, 1), (35, .invokevirtual 187, 3), (38, .iload_n 1, 1), (39, .iload_n 2, 1), (40, .invokevirtual 222, 3), (43, .invokevirtual 91, 3), (46, .ireturn, 1)]
theorem ro_WD_way : rw_WD_way.all (fun r => decide (decode prog_1_method_19_code r.1 = .ok r.2)) = true := by decide +kernel
theorem d_WD_way_0 : decode prog_1_method_19_code 0 = .ok (.aload_n 0, 1) := am_row (r := (0, .aload_n 0, 1)) ro_WD_way 0 rfl
theorem d_WD_way_1 : decode prog_1_method_19_code 1 = .ok (.getfield 19, 3) := am_row (r := (1, .getfield 19, 3)) ro_WD_way 1 rfl
theorem d_WD_way_4 : decode prog_1_method_19_code 4 = .ok (.iload_n 1, 1) := am_row (r := (4, .iload_n 1, 1)) ro_WD_way 2 rfl
theorem d_WD_way_5 : decode prog_1_method_19_code 5 = .ok (.invokevirtual 146, 3) := am_row (r := (5, .invokevirtual 146, 3)) ro_WD_way 3 rfl
theorem d_WD_way_8 : decode prog_1_method_19_code 8 = .ok (.ifCond .eq 19, 3) := am_row (r := (8, .ifCond .eq 19, 3)) ro_WD_way 4 rfl
theorem d_WD_way_11 : decode prog_1_method_19_code 11 = .ok (.iload_n 2, 1) := am_row (r := (11, .iload_n 2, 1)) ro_WD_way 5 rfl
theorem d_WD_way_12 : decode prog_1_method_19_code 12 = .ok (.ifCond .lt 15, 3) := am_row (r := (12, .ifCond .lt 15, 3)) ro_WD_way 6 rfl
theorem d_WD_way_15 : decode prog_1_method_19_code 15 = .ok (.iload_n 2, 1) := am_row (r := (15, .iload_n 2, 1)) ro_WD_way 7 rfl
theorem d_WD_way_16 : decode prog_1_method_19_code 16 = .ok (.aload_n 0, 1) := am_row (r := (16, .aload_n 0, 1)) ro_WD_way 8 rfl
theorem d_WD_way_17 : decode prog_1_method_19_code 17 = .ok (.invokevirtual 187, 3) := am_row (r := (17, .invokevirtual 187, 3)) ro_WD_way 9 rfl
theorem d_WD_way_20 : decode prog_1_method_19_code 20 = .ok (.iload_n 1, 1) := am_row (r := (20, .iload_n 1, 1)) ro_WD_way 10 rfl
theorem d_WD_way_21 : decode prog_1_method_19_code 21 = .ok (.invokevirtual 219, 3) := am_row (r := (21, .invokevirtual 219, 3)) ro_WD_way 11 rfl
theorem d_WD_way_24 : decode prog_1_method_19_code 24 = .ok (.if_icmp .lt 9, 3) := am_row (r := (24, .if_icmp .lt 9, 3)) ro_WD_way 12 rfl
theorem d_WD_way_27 : decode prog_1_method_19_code 27 = .ok (.aload_n 0, 1) := am_row (r := (27, .aload_n 0, 1)) ro_WD_way 13 rfl
theorem d_WD_way_28 : decode prog_1_method_19_code 28 = .ok (.iconst 1, 1) := am_row (r := (28, .iconst 1, 1)) ro_WD_way 14 rfl
theorem d_WD_way_29 : decode prog_1_method_19_code 29 = .ok (.invokevirtual 95, 3) := am_row (r := (29, .invokevirtual 95, 3)) ro_WD_way 15 rfl
theorem d_WD_way_32 : decode prog_1_method_19_code 32 = .ok (.ireturn, 1) := am_row (r := (32, .ireturn, 1)) ro_WD_way 16 rfl
theorem d_WD_way_33 : decode prog_1_method_19_code 33 = .ok (.aload_n 0, 1) := am_row (r := (33, .aload_n 0, 1)) ro_WD_way 17 rfl
theorem d_WD_way_34 : decode prog_1_method_19_code 34 = .ok (.aload_n 0, 1) := am_row (r := (34, .aload_n 0, 1)) ro_WD_way 18 rfl
theorem d_WD_way_35 : decode prog_1_method_19_code 35 = .ok (.invokevirtual 187, 3) := am_row (r := (35, .invokevirtual 187, 3)) ro_WD_way 19 rfl
theorem d_WD_way_38 : decode prog_1_method_19_code 38 = .ok (.iload_n 1, 1) := am_row (r := (38, .iload_n 1, 1)) ro_WD_way 20 rfl
theorem d_WD_way_39 : decode prog_1_method_19_code 39 = .ok (.iload_n 2, 1) := am_row (r := (39, .iload_n 2, 1)) ro_WD_way 21 rfl
theorem d_WD_way_40 : decode prog_1_method_19_code 40 = .ok (.invokevirtual 222, 3) := am_row (r := (40, .invokevirtual 222, 3)) ro_WD_way 22 rfl
theorem d_WD_way_43 : decode prog_1_method_19_code 43 = .ok (.invokevirtual 91, 3) := am_row (r := (43, .invokevirtual 91, 3)) ro_WD_way 23 rfl
theorem d_WD_way_46 : decode prog_1_method_19_code 46 = .ok (.ireturn, 1) := am_row (r := (46, .ireturn, 1)) ro_WD_way 24 rfl
