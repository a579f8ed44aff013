abbrev y_Mod_swap : MethodName := ⟨"WheelDiscModel", "swap", "(II)Z"⟩
theorem c_Mod_swap : Cond.code y_Mod_swap prog_13_method_19_code 5 (some .boolean) ∈ am_T := am_mem 1103 (by decide +kernel) rfl
def rw_Mod_swap : List (Nat × Instr × Nat) := [(0, .aload_n 0, 1), (1, .iconst 0, 1), (2, .putfield 62, 3), (5, .iload_n 1, 1), (6, .ifCond .lt 23, 3), (9, .iload_n 1, 1), (10, .aload_n 0, 1), (11, .invokevirtual 96, 3), (14, .if_icmp .ge 15, 3), (17, .iload_n 2, 1), (18, .ifCond .lt 11, 3), (21, .iload_n 2, 1), (22, .aload_n 0, 1), (23, .invokevirtual 96, 3), (26, .if_icmp .lt 11, 3), (29, .aload_n 0, 1), (30, .iconst 1, 1), (31, .invokevirtual 75, 3), (34, .pop, 1), (35, .iconst 0, 1), (36, .ireturn, 1), (37, .aload_n 0, 1), (38, .invokevirtual 82, 3), (41, .aload_n 0, 1), (42, .getfield 13, 3), (45, .iload_n 1, 1), (46, .iaload, 1), (47, .istore_n 3, 1), (48, .aload_n 0, 1), (49, .getfield 16, 3), (52, .iload_n 1, 1), (53, .iaload, 1), (54, .istore 4, 2), (56, .aload_n 0, 1), (57, .getfield 13, 3), (60, .iload_n 1, 1), (61, .aload_n 0, 1), (62, .getfield 13, 3), (65, .iload_n 2, 1), (66, .iaload, 1), (67, .iastore, 1), (68, .aload_n 0, 1), (69, .getfield 16, 3), (72, .iload_n 1, 1), (73, .aload_n 0, 1), (74, .getfield 16, 3), (77, .iload_n 2, 1), (78, .iaload, 1), (79, .iastore, 1), (80, .aload_n 0, 1), (81, .getfield 13, 3), (84, .iload_n 2, 1), (85, .iload_n 3, 1), (86, .iastore, 1), (87, .aload_n 0, 1), (88, .getfield 16, 3), (91, .iload_n 2, 1), (92, .iload 4, 2), (94, .iastore, 1), (95, .iconst 1, 1), (96, .ireturn, 1)]
theorem ro_Mod_swap : rw_Mod_swap.all (fun r => decide (decode prog_13_method_19_code r.1 = .ok r.2)) = true := by decide +kernel
theorem d_Mod_swap_0 : decode prog_13_method_19_code 0 = .ok (.aload_n 0, 1) := am_row (r := (0, .aload_n 0, 1)) ro_Mod_swap 0 rfl
theorem d_Mod_swap_1 : decode prog_13_method_19_code 1 = .ok (.iconst 0, 1) := am_row (r := (1, .iconst 0, 1)) ro_Mod_swap 1 rfl
theorem d_Mod_swap_2 : decode prog_13_method_19_code 2 = .ok (.putfield 62, 3) := am_row (r := (2, .putfield 62, 3)) ro_Mod_swap 2 rfl
theorem d_Mod_swap_5 : decode prog_13_method_19_code 5 = .ok (.iload_n 1, 1) := am_row (r := (5, .iload_n 1, 1)) ro_Mod_swap 3 rfl
theorem d_Mod_swap_6 : decode prog_13_method_19_code 6 = .ok (.ifCond .lt 23, 3) := am_row (r := (6, .ifCond .lt 23, 3)) ro_Mod_swap 4 rfl
theorem d_Mod_swap_9 : decode prog_13_method_19_code 9 = .ok (.iload_n 1, 1) := am_row (r := (9, .iload_n 1, 1)) ro_Mod_swap 5 rfl
theorem d_Mod_swap_10 : decode prog_13_method_19_code 10 = .ok (.aload_n 0, 1) := am_row (r := (10, .aload_n 0, 1)) ro_Mod_swap 6 rfl
theorem d_Mod_swap_11 : decode prog_13_method_19_code 11 = .ok (.invokevirtual 96, 3) := am_row (r := (11, .invokevirtual 96, 3)) ro_Mod_swap 7 rfl
theorem d_Mod_swap_14 : decode prog_13_method_19_code 14 = .ok (.if_icmp .ge 15, 3) := am_row (r := (14, .if_icmp .ge 15, 3)) ro_Mod_swap 8 rfl
theorem d_Mod_swap_17 : decode prog_13_method_19_code 17 = .ok (.iload_n 2, 1) := am_row (r := (17, .iload_n 2, 1)) ro_Mod_swap 9 rfl
theorem d_Mod_swap_18 : decode prog_13_method_19_code 18 = .ok (.ifCond .lt 11, 3) := am_row (r := (18, .ifCond .lt 11, 3)) ro_Mod_swap 10 rfl
theorem d_Mod_swap_21 : decode prog_13_method_19_code 21 = .ok (.iload_n 2, 1) := am_row (r := (21, .iload_n 2, 1)) ro_Mod_swap 11 rfl
theorem d_Mod_swap_22 : decode prog_13_method_19_code 22 = .ok (.aload_n 0, 1) := am_row (r := (22, .aload_n 0, 1)) ro_Mod_swap 12 rfl
theorem d_Mod_swap_23 : decode prog_13_method_19_code 23 = .ok (.invokevirtual 96, 3) := am_row (r := (23, .invokevirtual 96, 3)) ro_Mod_swap 13 rfl
theorem d_Mod_swap_26 : decode prog_13_method_19_code 26 = .ok (.if_icmp .lt 11, 3) := am_row (r := (26, .if_icmp .lt 11, 3)) ro_Mod_swap 14 rfl
theorem d_Mod_swap_29 : decode prog_13_method_19_code 29 = .ok (.aload_n 0, 1) := am_row (r := (29, .aload_n 0, 1)) ro_Mod_swap 15 rfl
theorem d_Mod_swap_30 : decode prog_13_method_19_code 30 = .ok (.iconst 1, 1) := am_row (r := (30, .iconst 1, 1)) ro_Mod_swap 16 rfl
theorem d_Mod_swap_31 : decode prog_13_method_19_code 31 = .ok (.invokevirtual 75, 3) := am_row (r := (31, .invokevirtual 75, 3)) ro_Mod_swap 17 rfl
theorem d_Mod_swap_34 : decode prog_13_method_19_code 34 = .ok (.pop, 1) := am_row (r := (34, .pop, 1)) ro_Mod_swap 18 rfl
theorem d_Mod_swap_35 : decode prog_13_method_19_code 35 = .ok (.iconst 0, 1) := am_row (r := (35, .iconst 0, 1)) ro_Mod_swap 19 rfl
theorem d_Mod_swap_36 : decode prog_13_method_19_code 36 = .ok (.ireturn, 1) := am_row (r := (36, .ireturn, 1)) ro_Mod_swap 20 rfl
theorem d_Mod_swap_37 : decode prog_13_method_19_code 37 = .ok (.aload_n 0, 1) := am_row (r := (37, .aload_n 0, 1)) ro_Mod_swap 21 rfl
theorem d_Mod_swap_38 : decode prog_13_method_19_code 38 = .ok (.invokevirtual 82, 3) := am_row (r := (38, .invokevirtual 82, 3)) ro_Mod_swap 22 rfl
theorem d_Mod_swap_41 : decode prog_13_method_19_code 41 = .ok (.aload_n 0, 1) := am_row (r := (41, .aload_n 0, 1)) ro_Mod_swap 23 rfl
theorem d_Mod_swap_42 : decode prog_13_method_19_code 42 = .ok (.getfield 13, 3) := am_row (r := (42, .getfield 13, 3)) ro_Mod_swap 24 rfl
theorem d_Mod_swap_45 : decode prog_13_method_19_code 45 = .ok (.iload_n 1, 1) := am_row (r := (45, .iload_n 1, 1)) ro_Mod_swap 25 rfl
theorem d_Mod_swap_46 : decode prog_13_method_19_code 46 = .ok (.iaload, 1) := am_row (r := (46, .iaload, 1)) ro_Mod_swap 26 rfl
theorem d_Mod_swap_47 : decode prog_13_method_19_code 47 = .ok (.istore_n 3, 1) := am_row (r := (47, .istore_n 3, 1)) ro_Mod_swap 27 rfl
theorem d_Mod_swap_48 : decode prog_13_method_19_code 48 = .ok (.aload_n 0, 1) := am_row (r := (48, .aload_n 0, 1)) ro_Mod_swap 28 rfl
theorem d_Mod_swap_49 : decode prog_13_method_19_code 49 = .ok (.getfield 16, 3) := am_row (r := (49, .getfield 16, 3)) ro_Mod_swap 29 rfl
theorem d_Mod_swap_52 : decode prog_13_method_19_code 52 = .ok (.iload_n 1, 1) := am_row (r := (52, .iload_n 1, 1)) ro_Mod_swap 30 rfl
theorem d_Mod_swap_53 : decode prog_13_method_19_code 53 = .ok (.iaload, 1) := am_row (r := (53, .iaload, 1)) ro_Mod_swap 31 rfl
theorem d_Mod_swap_54 : decode prog_13_method_19_code 54 = .ok (.istore 4, 2) := am_row (r := (54, .istore 4, 2)) ro_Mod_swap 32 rfl
theorem d_Mod_swap_56 : decode prog_13_method_19_code 56 = .ok (.aload_n 0, 1) := am_row (r := (56, .aload_n 0, 1)) ro_Mod_swap 33 rfl
theorem d_Mod_swap_57 : decode prog_13_method_19_code 57 = .ok (.getfield 13, 3) := am_row (r := (57, .getfield 13, 3)) ro_Mod_swap 34 rfl
theorem d_Mod_swap_60 : decode prog_13_method_19_code 60 = .ok (.iload_n 1, 1) := am_row (r := (60, .iload_n 1, 1)) ro_Mod_swap 35 rfl
theorem d_Mod_swap_61 : decode prog_13_method_19_code 61 = .ok (.aload_n 0, 1) := am_row (r := (61, .aload_n 0, 1)) ro_Mod_swap 36 rfl
theorem d_Mod_swap_62 : decode prog_13_method_19_code 62 = .ok (.getfield 13, 3) := am_row (r := (62, .getfield 13, 3)) ro_Mod_swap 37 rfl
theorem d_Mod_swap_65 : decode prog_13_method_19_code 65 = .ok (.iload_n 2, 1) := am_row (r := (65, .iload_n 2, 1)) ro_Mod_swap 38 rfl
theorem d_Mod_swap_66 : decode prog_13_method_19_code 66 = .ok (.iaload, 1) := am_row (r := (66, .iaload, 1)) ro_Mod_swap 39 rfl
theorem d_Mod_swap_67 : decode prog_13_method_19_code 67 = .ok (.iastore, 1) := am_row (r := (67, .iastore, 1)) ro_Mod_swap 40 rfl
theorem d_Mod_swap_68 : decode prog_13_method_19_code 68 = .ok (.aload_n 0, 1) := am_row (r := (68, .aload_n 0, 1)) ro_Mod_swap 41 rfl
theorem d_Mod_swap_69 : decode prog_13_method_19_code 69 = .ok (.getfield 16, 3) := am_row (r := (69, .getfield 16, 3)) ro_Mod_swap 42 rfl
theorem d_Mod_swap_72 : decode prog_13_method_19_code 72 = .ok (.iload_n 1, 1) := am_row (r := (72, .iload_n 1, 1)) ro_Mod_swap 43 rfl
theorem d_Mod_swap_73 : decode prog_13_method_19_code 73 = .ok (.aload_n 0, 1) := am_row (r := (73, .aload_n 0, 1)) ro_Mod_swap 44 rfl
theorem d_Mod_swap_74 : decode prog_13_method_19_code 74 = .ok (.getfield 16, 3) := am_row (r := (74, .getfield 16, 3)) ro_Mod_swap 45 rfl
theorem d_Mod_swap_77 : decode prog_13_method_19_code 77 = .ok (.iload_n 2, 1) := am_row (r := (77, .iload_n 2, 1)) ro_Mod_swap 46 rfl
theorem d_Mod_swap_78 : decode prog_13_method_19_code 78 = .ok (.iaload, 1) := am_row (r := (78, .iaload, 1)) ro_Mod_swap 47 rfl
theorem d_Mod_swap_79 : decode prog_13_method_19_code 79 = .ok (.iastore, 1) := am_row (r := (79, .iastore, 1)) ro_Mod_swap 48 rfl
theorem d_Mod_swap_80 : decode prog_13_method_19_code 80 = .ok (.aload_n 0, 1) := am_row (r := (80, .aload_n 0, 1)) ro_Mod_swap 49 rfl
theorem d_Mod_swap_81 : decode prog_13_method_19_code 81 = .ok (.getfield 13, 3) := am_row (r := (81, .getfield 13, 3)) ro_Mod_swap 50 rfl
theorem d_Mod_swap_84 : decode prog_13_method_19_code 84 = .ok (.iload_n 2, 1) := am_row (r := (84, .iload_n 2, 1)) ro_Mod_swap 51 rfl
theorem d_Mod_swap_85 : decode prog_13_method_19_code 85 = .ok (.iload_n 3, 1) := am_row (r := (85, .iload_n 3, 1)) ro_Mod_swap 52 rfl
theorem d_Mod_swap_86 : decode prog_13_method_19_code 86 = .ok (.iastore, 1) := am_row (r := (86, .iastore, 1)) ro_Mod_swap 53 rfl
theorem d_Mod_swap_87 : decode prog_13_method_19_code 87 = .ok (.aload_n 0, 1) := am_row (r := (87, .aload_n 0, 1)) ro_Mod_swap 54 rfl
theorem d_Mod_swap_88 : decode prog_13_method_19_code 88 = .ok (.getfield 16, 3) := am_row (r := (88, .getfield 16, 3)) ro_Mod_swap 55 rfl
theorem d_Mod_swap_91 : decode prog_13_method_19_code 91 = .ok (.iload_n 2, 1) := am_row (r := (91, .iload_n 2, 1)) ro_Mod_swap 56 rfl
theorem d_Mod_swap_92 : decode prog_13_method_19_code 92 = .ok (.iload 4, 2) := am_row (r := (92, .iload 4, 2)) ro_Mod_swap 57 rfl
theorem d_Mod_swap_94 : decode prog_13_method_19_code 94 = .ok (.iastore, 1) := am_row (r := (94, .iastore, 1)) ro_Mod_swap 58 rfl
theorem d_Mod_swap_95 : decode prog_13_method_19_code 95 = .ok (.iconst 1, 1) := am_row (r := (95, .iconst 1, 1)) ro_Mod_swap 59 rfl
theorem d_Mod_swap_96 : decode prog_13_method_19_code 96 = .ok (.ireturn, 1) := am_row (r := (96, .ireturn, 1)) ro_Mod_swap 60 rfl
abbrev y_Mod_undo : MethodName := ⟨"WheelDiscModel", "undo", "()I"⟩
theorem c_Mod_undo : Cond.code y_Mod_undo prog_13_method_20_code 1 (some .int) ∈ am_T := am_mem 1107 (by decide +kernel) rfl
def rw_Mod_undo : List (Nat × Instr × Nat) := [(0, .aload_n 0, 1), (1, .iconst 0, 1), (2, .putfield 62, 3), (5, .aload_n 0, 1), (6, .getfield 65, 3), (9, .ifCond .ne 9, 3), (12, .aload_n 0, 1), (13, .iconst 2, 1), (14, .invokevirtual 75, 3), (17, .ireturn, 1), (18, .aload_n 0, 1), (19, .dup, 1), (20, .getfield 65, 3), (23, .iconst 1, 1), (24, .isub, 1), (25, .putfield 65, 3), (28, .aload_n 0, 1), (29, .iconst 2, 1), (30, .aload_n 0, 1), (31, .getfield 68, 3), (34, .aload_n 0, 1), (35, .getfield 65, 3), (38, .iadd, 1), (39, .bipush 30, 2), (41, .irem, 1), (42, .iadd, 1), (43, .iconst 0, 1), (44, .invokevirtual 71, 3), (47, .aload_n 0, 1), (48, .getfield 65, 3), (51, .ireturn, 1)]
theorem ro_Mod_undo : rw_Mod_undo.all (fun r => decide (decode prog_13_method_20_code r.1 = .ok r.2)) = true := by decide +kernel
theorem d_Mod_undo_0 : decode prog_13_method_20_code 0 = .ok (.aload_n 0, 1) := am_row (r := (0, .aload_n 0, 1)) ro_Mod_undo 0 rfl
theorem d_Mod_undo_1 : decode prog_13_method_20_code 1 = .ok (.iconst 0, 1) := am_row (r := (1, .iconst 0, 1)) ro_Mod_undo 1 rfl
theorem d_Mod_undo_2 : decode prog_13_method_20_code 2 = .ok (.putfield 62, 3) := am_row (r := (2, .putfield 62, 3)) ro_Mod_undo 2 rfl
theorem d_Mod_undo_5 : decode prog_13_method_20_code 5 = .ok (.aload_n 0, 1) := am_row (r := (5, .aload_n 0, 1)) ro_Mod_undo 3 rfl
theorem d_Mod_undo_6 : decode prog_13_method_20_code 6 = .ok (.getfield 65, 3) := am_row (r := (6, .getfield 65, 3)) ro_Mod_undo 4 rfl
theorem d_Mod_undo_9 : decode prog_13_method_20_code 9 = .ok (.ifCond .ne 9, 3) := am_row (r := (9, .ifCond .ne 9, 3)) ro_Mod_undo 5 rfl
theorem d_Mod_undo_12 : decode prog_13_method_20_code 12 = .ok (.aload_n 0, 1) := am_row (r := (12, .aload_n 0, 1)) ro_Mod_undo 6 rfl
theorem d_Mod_undo_13 : decode prog_13_method_20_code 13 = .ok (.iconst 2, 1) := am_row (r := (13, .iconst 2, 1)) ro_Mod_undo 7 rfl
theorem d_Mod_undo_14 : decode prog_13_method_20_code 14 = .ok (.invokevirtual 75, 3) := am_row (r := (14, .invokevirtual 75, 3)) ro_Mod_undo 8 rfl
theorem d_Mod_undo_17 : decode prog_13_method_20_code 17 = .ok (.ireturn, 1) := am_row (r := (17, .ireturn, 1)) ro_Mod_undo 9 rfl
theorem d_Mod_undo_18 : decode prog_13_method_20_code 18 = .ok (.aload_n 0, 1) := am_row (r := (18, .aload_n 0, 1)) ro_Mod_undo 10 rfl
theorem d_Mod_undo_19 : decode prog_13_method_20_code 19 = .ok (.dup, 1) := am_row (r := (19, .dup, 1)) ro_Mod_undo 11 rfl
theorem d_Mod_undo_20 : decode prog_13_method_20_code 20 = .ok (.getfield 65, 3) := am_row (r := (20, .getfield 65, 3)) ro_Mod_undo 12 rfl
theorem d_Mod_undo_23 : decode prog_13_method_20_code 23 = .ok (.iconst 1, 1) := am_row (r := (23, .iconst 1, 1)) ro_Mod_undo 13 rfl
theorem d_Mod_undo_24 : decode prog_13_method_20_code 24 = .ok (.isub, 1) := am_row (r := (24, .isub, 1)) ro_Mod_undo 14 rfl
theorem d_Mod_undo_25 : decode prog_13_method_20_code 25 = .ok (.putfield 65, 3) := am_row (r := (25, .putfield 65, 3)) ro_Mod_undo 15 rfl
theorem d_Mod_undo_28 : decode prog_13_method_20_code 28 = .ok (.aload_n 0, 1) := am_row (r := (28, .aload_n 0, 1)) ro_Mod_undo 16 rfl
theorem d_Mod_undo_29 : decode prog_13_method_20_code 29 = .ok (.iconst 2, 1) := am_row (r := (29, .iconst 2, 1)) ro_Mod_undo 17 rfl
theorem d_Mod_undo_30 : decode prog_13_method_20_code 30 = .ok (.aload_n 0, 1) := am_row (r := (30, .aload_n 0, 1)) ro_Mod_undo 18 rfl
theorem d_Mod_undo_31 : decode prog_13_method_20_code 31 = .ok (.getfield 68, 3) := am_row (r := (31, .getfield 68, 3)) ro_Mod_undo 19 rfl
theorem d_Mod_undo_34 : decode prog_13_method_20_code 34 = .ok (.aload_n 0, 1) := am_row (r := (34, .aload_n 0, 1)) ro_Mod_undo 20 rfl
theorem d_Mod_undo_35 : decode prog_13_method_20_code 35 = .ok (.getfield 65, 3) := am_row (r := (35, .getfield 65, 3)) ro_Mod_undo 21 rfl
theorem d_Mod_undo_38 : decode prog_13_method_20_code 38 = .ok (.iadd, 1) := am_row (r := (38, .iadd, 1)) ro_Mod_undo 22 rfl
theorem d_Mod_undo_39 : decode prog_13_method_20_code 39 = .ok (.bipush 30, 2) := am_row (r := (39, .bipush 30, 2)) ro_Mod_undo 23 rfl
theorem d_Mod_undo_41 : decode prog_13_method_20_code 41 = .ok (.irem, 1) := am_row (r := (41, .irem, 1)) ro_Mod_undo 24 rfl
theorem d_Mod_undo_42 : decode prog_13_method_20_code 42 = .ok (.iadd, 1) := am_row (r := (42, .iadd, 1)) ro_Mod_undo 25 rfl
theorem d_Mod_undo_43 : decode prog_13_method_20_code 43 = .ok (.iconst 0, 1) := am_row (r := (43, .iconst 0, 1)) ro_Mod_undo 26 rfl
theorem d_Mod_undo_44 : decode prog_13_method_20_code 44 = .ok (.invokevirtual 71, 3) := am_row (r := (44, .invokevirtual 71, 3)) ro_Mod_undo 27 rfl
theorem d_Mod_undo_47 : decode prog_13_method_20_code 47 = .ok (.aload_n 0, 1) := am_row (r := (47, .aload_n 0, 1)) ro_Mod_undo 28 rfl
theorem d_Mod_undo_48 : decode prog_13_method_20_code 48 = .ok (.getfield 65, 3) := am_row (r := (48, .getfield 65, 3)) ro_Mod_undo 29 rfl
theorem d_Mod_undo_51 : decode prog_13_method_20_code 51 = .ok (.ireturn, 1) := am_row (r := (51, .ireturn, 1)) ro_Mod_undo 30 rfl
abbrev y_Mod_sees : MethodName := ⟨"WheelDiscModel", "sees", "(II)Z"⟩
theorem c_Mod_sees : Cond.code y_Mod_sees prog_13_method_21_code 3 (some .boolean) ∈ am_T := am_mem 1127 (by decide +kernel) rfl
def rw_Mod_sees : List (Nat × Instr × Nat) := [(0, .aload_n 0, 1), (1, .getfield 20, 3), (4, .sipush 512, 3), (7, .aload_n 0, 1), (8, .getfield 13, 3), (11, .iload_n 1, 1), (12, .iaload, 1), (13, .imul, 1), (14, .iload_n 2, 1), (15, .aload_n 0, 1), (16, .getfield 16, 3), (19, .iload_n 1, 1), (20, .iaload, 1), (21, .iadd, 1), (22, .aload_n 0, 1), (23, .invokevirtual 93, 3), (26, .irem, 1), (27, .iadd, 1), (28, .baload, 1), (29, .ireturn, 1)]
theorem ro_Mod_sees : rw_Mod_sees.all (fun r => decide (decode prog_13_method_21_code r.1 = .ok r.2)) = true := by decide +kernel
theorem d_Mod_sees_0 : decode prog_13_method_21_code 0 = .ok (.aload_n 0, 1) := am_row (r := (0, .aload_n 0, 1)) ro_Mod_sees 0 rfl
theorem d_Mod_sees_1 : decode prog_13_method_21_code 1 = .ok (.getfield 20, 3) := am_row (r := (1, .getfield 20, 3)) ro_Mod_sees 1 rfl
theorem d_Mod_sees_4 : decode prog_13_method_21_code 4 = .ok (.sipush 512, 3) := am_row (r := (4, .sipush 512, 3)) ro_Mod_sees 2 rfl
theorem d_Mod_sees_7 : decode prog_13_method_21_code 7 = .ok (.aload_n 0, 1) := am_row (r := (7, .aload_n 0, 1)) ro_Mod_sees 3 rfl
theorem d_Mod_sees_8 : decode prog_13_method_21_code 8 = .ok (.getfield 13, 3) := am_row (r := (8, .getfield 13, 3)) ro_Mod_sees 4 rfl
theorem d_Mod_sees_11 : decode prog_13_method_21_code 11 = .ok (.iload_n 1, 1) := am_row (r := (11, .iload_n 1, 1)) ro_Mod_sees 5 rfl
theorem d_Mod_sees_12 : decode prog_13_method_21_code 12 = .ok (.iaload, 1) := am_row (r := (12, .iaload, 1)) ro_Mod_sees 6 rfl
theorem d_Mod_sees_13 : decode prog_13_method_21_code 13 = .ok (.imul, 1) := am_row (r := (13, .imul, 1)) ro_Mod_sees 7 rfl
theorem d_Mod_sees_14 : decode prog_13_method_21_code 14 = .ok (.iload_n 2, 1) := am_row (r := (14, .iload_n 2, 1)) ro_Mod_sees 8 rfl
theorem d_Mod_sees_15 : decode prog_13_method_21_code 15 = .ok (.aload_n 0, 1) := am_row (r := (15, .aload_n 0, 1)) ro_Mod_sees 9 rfl
theorem d_Mod_sees_16 : decode prog_13_method_21_code 16 = .ok (.getfield 16, 3) := am_row (r := (16, .getfield 16, 3)) ro_Mod_sees 10 rfl
theorem d_Mod_sees_19 : decode prog_13_method_21_code 19 = .ok (.iload_n 1, 1) := am_row (r := (19, .iload_n 1, 1)) ro_Mod_sees 11 rfl
theorem d_Mod_sees_20 : decode prog_13_method_21_code 20 = .ok (.iaload, 1) := am_row (r := (20, .iaload, 1)) ro_Mod_sees 12 rfl
theorem d_Mod_sees_21 : decode prog_13_method_21_code 21 = .ok (.iadd, 1) := am_row (r := (21, .iadd, 1)) ro_Mod_sees 13 rfl
theorem d_Mod_sees_22 : decode prog_13_method_21_code 22 = .ok (.aload_n 0, 1) := am_row (r := (22, .aload_n 0, 1)) ro_Mod_sees 14 rfl
theorem d_Mod_sees_23 : decode prog_13_method_21_code 23 = .ok (.invokevirtual 93, 3) := am_row (r := (23, .invokevirtual 93, 3)) ro_Mod_sees 15 rfl
theorem d_Mod_sees_26 : decode prog_13_method_21_code 26 = .ok (.irem, 1) := am_row (r := (26, .irem, 1)) ro_Mod_sees 16 rfl
theorem d_Mod_sees_27 : decode prog_13_method_21_code 27 = .ok (.iadd, 1) := am_row (r := (27, .iadd, 1)) ro_Mod_sees 17 rfl
theorem d_Mod_sees_28 : decode prog_13_method_21_code 28 = .ok (.baload, 1) := am_row (r := (28, .baload, 1)) ro_Mod_sees 18 rfl
theorem d_Mod_sees_29 : decode prog_13_method_21_code 29 = .ok (.ireturn, 1) := am_row (r := (29, .ireturn, 1)) ro_Mod_sees 19 rfl
abbrev y_Mod_wordAt : MethodName := ⟨"WheelDiscModel", "wordAt", "(I)I"⟩
theorem c_Mod_wordAt : Cond.code y_Mod_wordAt prog_13_method_22_code 4 (some .int) ∈ am_T := am_mem 1123 (by decide +kernel) rfl
def rw_Mod_wordAt : List (Nat × Instr × Nat) := [(0, .iconst 0, 1), (1, .istore_n 2, 1), (2, .iconst 0, 1), (3, .istore_n 3, 1), (4, .iload_n 3, 1), (5, .aload_n 0, 1), (6, .invokevirtual 96, 3), (9, .if_icmp .ge 28, 3), (12, .iconst 2, 1), (13, .iload_n 2, 1), (14, .imul, 1), (15, .aload_n 0, 1), (16, .iload_n 3, 1), (17, .iload_n 1, 1), (18, .invokevirtual 102, 3), (21, .ifCond .eq 7, 3), (24, .iconst 1, 1), (25, .goto 4, 3), (28, .iconst 0, 1), (29, .iadd, 1), (30, .istore_n 2, 1), (31, .iinc 3 1, 3), (34, .goto (-30), 3), (37, .iload_n 2, 1), (38, .ireturn, 1)]
theorem ro_Mod_wordAt : rw_Mod_wordAt.all (fun r => decide (decode prog_13_method_22_code r.1 = .ok r.2)) = true := by decide +kernel
theorem d_Mod_wordAt_0 : decode prog_13_method_22_code 0 = .ok (.iconst 0, 1) := am_row (r := (0, .iconst 0, 1)) ro_Mod_wordAt 0 rfl
theorem d_Mod_wordAt_1 : decode prog_13_method_22_code 1 = .ok (.istore_n 2, 1) := am_row (r := (1, .istore_n 2, 1)) ro_Mod_wordAt 1 rfl
theorem d_Mod_wordAt_2 : decode prog_13_method_22_code 2 = .ok (.iconst 0, 1) := am_row (r := (2, .iconst 0, 1)) ro_Mod_wordAt 2 rfl
theorem d_Mod_wordAt_3 : decode prog_13_method_22_code 3 = .ok (.istore_n 3, 1) := am_row (r := (3, .istore_n 3, 1)) ro_Mod_wordAt 3 rfl
theorem d_Mod_wordAt_4 : decode prog_13_method_22_code 4 = .ok (.iload_n 3, 1) := am_row (r := (4, .iload_n 3, 1)) ro_Mod_wordAt 4 rfl
theorem d_Mod_wordAt_5 : decode prog_13_method_22_code 5 = .ok (.aload_n 0, 1) := am_row (r := (5, .aload_n 0, 1)) ro_Mod_wordAt 5 rfl
theorem d_Mod_wordAt_6 : decode prog_13_method_22_code 6 = .ok (.invokevirtual 96, 3) := am_row (r := (6, .invokevirtual 96, 3)) ro_Mod_wordAt 6 rfl
theorem d_Mod_wordAt_9 : decode prog_13_method_22_code 9 = .ok (.if_icmp .ge 28, 3) := am_row (r := (9, .if_icmp .ge 28, 3)) ro_Mod_wordAt 7 rfl
theorem d_Mod_wordAt_12 : decode prog_13_method_22_code 12 = .ok (.iconst 2, 1) := am_row (r := (12, .iconst 2, 1)) ro_Mod_wordAt 8 rfl
theorem d_Mod_wordAt_13 : decode prog_13_method_22_code 13 = .ok (.iload_n 2, 1) := am_row (r := (13, .iload_n 2, 1)) ro_Mod_wordAt 9 rfl
theorem d_Mod_wordAt_14 : decode prog_13_method_22_code 14 = .ok (.imul, 1) := am_row (r := (14, .imul, 1)) ro_Mod_wordAt 10 rfl
theorem d_Mod_wordAt_15 : decode prog_13_method_22_code 15 = .ok (.aload_n 0, 1) := am_row (r := (15, .aload_n 0, 1)) ro_Mod_wordAt 11 rfl
theorem d_Mod_wordAt_16 : decode prog_13_method_22_code 16 = .ok (.iload_n 3, 1) := am_row (r := (16, .iload_n 3, 1)) ro_Mod_wordAt 12 rfl
theorem d_Mod_wordAt_17 : decode prog_13_method_22_code 17 = .ok (.iload_n 1, 1) := am_row (r := (17, .iload_n 1, 1)) ro_Mod_wordAt 13 rfl
theorem d_Mod_wordAt_18 : decode prog_13_method_22_code 18 = .ok (.invokevirtual 102, 3) := am_row (r := (18, .invokevirtual 102, 3)) ro_Mod_wordAt 14 rfl
theorem d_Mod_wordAt_21 : decode prog_13_method_22_code 21 = .ok (.ifCond .eq 7, 3) := am_row (r := (21, .ifCond .eq 7, 3)) ro_Mod_wordAt 15 rfl
theorem d_Mod_wordAt_24 : decode prog_13_method_22_code 24 = .ok (.iconst 1, 1) := am_row (r := (24, .iconst 1, 1)) ro_Mod_wordAt 16 rfl
theorem d_Mod_wordAt_25 : decode prog_13_method_22_code 25 = .ok (.goto 4, 3) := am_row (r := (25, .goto 4, 3)) ro_Mod_wordAt 17 rfl
theorem d_Mod_wordAt_28 : decode prog_13_method_22_code 28 = .ok (.iconst 0, 1) := am_row (r := (28, .iconst 0, 1)) ro_Mod_wordAt 18 rfl
theorem d_Mod_wordAt_29 : decode prog_13_method_22_code 29 = .ok (.iadd, 1) := am_row (r := (29, .iadd, 1)) ro_Mod_wordAt 19 rfl
theorem d_Mod_wordAt_30 : decode prog_13_method_22_code 30 = .ok (.istore_n 2, 1) := am_row (r := (30, .istore_n 2, 1)) ro_Mod_wordAt 20 rfl
theorem d_Mod_wordAt_31 : decode prog_13_method_22_code 31 = .ok (.iinc 3 1, 3) := am_row (r := (31, .iinc 3 1, 3)) ro_Mod_wordAt 21 rfl
theorem d_Mod_wordAt_34 : decode prog_13_method_22_code 34 = .ok (.goto (-30), 3) := am_row (r := (34, .goto (-30), 3)) ro_Mod_wordAt 22 rfl
theorem d_Mod_wordAt_37 : decode prog_13_method_22_code 37 = .ok (.iload_n 2, 1) := am_row (r := (37, .iload_n 2, 1)) ro_Mod_wordAt 23 rfl
theorem d_Mod_wordAt_38 : decode prog_13_method_22_code 38 = .ok (.ireturn, 1) := am_row (r := (38, .ireturn, 1)) ro_Mod_wordAt 24 rfl
abbrev y_Mod_read : MethodName := ⟨"WheelDiscModel", "read", "()V"⟩
theorem c_Mod_read : Cond.code y_Mod_read prog_13_method_23_code 2 none ∈ am_T := am_mem 1119 (by decide +kernel) rfl
def rw_Mod_read : List (Nat × Instr × Nat) := [(0, .iconst 0, 1), (1, .istore_n 1, 1), (2, .iload_n 1, 1), (3, .aload_n 0, 1), (4, .invokevirtual 93, 3), (7, .if_icmp .ge 20, 3), (10, .aload_n 0, 1), (11, .getfield 38, 3), (14, .iload_n 1, 1), (15, .aload_n 0, 1), (16, .iload_n 1, 1), (17, .invokevirtual 106, 3), (20, .iastore, 1), (21, .iinc 1 1, 3), (24, .goto (-22), 3), (27, .return_, 1)]
theorem ro_Mod_read : rw_Mod_read.all (fun r => decide (decode prog_13_method_23_code r.1 = .ok r.2)) = true := by decide +kernel
theorem d_Mod_read_0 : decode prog_13_method_23_code 0 = .ok (.iconst 0, 1) := am_row (r := (0, .iconst 0, 1)) ro_Mod_read 0 rfl
theorem d_Mod_read_1 : decode prog_13_method_23_code 1 = .ok (.istore_n 1, 1) := am_row (r := (1, .istore_n 1, 1)) ro_Mod_read 1 rfl
theorem d_Mod_read_2 : decode prog_13_method_23_code 2 = .ok (.iload_n 1, 1) := am_row (r := (2, .iload_n 1, 1)) ro_Mod_read 2 rfl
theorem d_Mod_read_3 : decode prog_13_method_23_code 3 = .ok (.aload_n 0, 1) := am_row (r := (3, .aload_n 0, 1)) ro_Mod_read 3 rfl
theorem d_Mod_read_4 : decode prog_13_method_23_code 4 = .ok (.invokevirtual 93, 3) := am_row (r := (4, .invokevirtual 93, 3)) ro_Mod_read 4 rfl
theorem d_Mod_read_7 : decode prog_13_method_23_code 7 = .ok (.if_icmp .ge 20, 3) := am_row (r := (7, .if_icmp .ge 20, 3)) ro_Mod_read 5 rfl
theorem d_Mod_read_10 : decode prog_13_method_23_code 10 = .ok (.aload_n 0, 1) := am_row (r := (10, .aload_n 0, 1)) ro_Mod_read 6 rfl
theorem d_Mod_read_11 : decode prog_13_method_23_code 11 = .ok (.getfield 38, 3) := am_row (r := (11, .getfield 38, 3)) ro_Mod_read 7 rfl
theorem d_Mod_read_14 : decode prog_13_method_23_code 14 = .ok (.iload_n 1, 1) := am_row (r := (14, .iload_n 1, 1)) ro_Mod_read 8 rfl
theorem d_Mod_read_15 : decode prog_13_method_23_code 15 = .ok (.aload_n 0, 1) := am_row (r := (15, .aload_n 0, 1)) ro_Mod_read 9 rfl
theorem d_Mod_read_16 : decode prog_13_method_23_code 16 = .ok (.iload_n 1, 1) := am_row (r := (16, .iload_n 1, 1)) ro_Mod_read 10 rfl
theorem d_Mod_read_17 : decode prog_13_method_23_code 17 = .ok (.invokevirtual 106, 3) := am_row (r := (17, .invokevirtual 106, 3)) ro_Mod_read 11 rfl
theorem d_Mod_read_20 : decode prog_13_method_23_code 20 = .ok (.iastore, 1) := am_row (r := (20, .iastore, 1)) ro_Mod_read 12 rfl
theorem d_Mod_read_21 : decode prog_13_method_23_code 21 = .ok (.iinc 1 1, 3) := am_row (r := (21, .iinc 1 1, 3)) ro_Mod_read 13 rfl
theorem d_Mod_read_24 : decode prog_13_method_23_code 24 = .ok (.goto (-22), 3) := am_row (r := (24, .goto (-22), 3)) ro_Mod_read 14 rfl
theorem d_Mod_read_27 : decode prog_13_method_23_code 27 = .ok (.return_, 1) := am_row (r := (27, .return_, 1)) ro_Mod_read 15 rfl
abbrev y_Mod_all : MethodName := ⟨"WheelDiscModel", "all", "()I"⟩
theorem c_Mod_all : Cond.code y_Mod_all prog_13_method_25_code 1 (some .int) ∈ am_T := am_mem 1131 (by decide +kernel) rfl
def rw_Mod_all : List (Nat × Instr × Nat) := [(0, .iconst 1, 1), (1, .aload_n 0, 1), (2, .invokevirtual 96, 3), (5, .ishl, 1), (6, .iconst 1, 1), (7, .isub, 1), (8, .ireturn, 1)]
theorem ro_Mod_all : rw_Mod_all.all (fun r => decide (decode prog_13_method_25_code r.1 = .ok r.2)) = true := by decide +kernel
theorem d_Mod_all_0 : decode prog_13_method_25_code 0 = .ok (.iconst 1, 1) := am_row (r := (0, .iconst 1, 1)) ro_Mod_all 0 rfl
theorem d_Mod_all_1 : decode prog_13_method_25_code 1 = .ok (.aload_n 0, 1) := am_row (r := (1, .aload_n 0, 1)) ro_Mod_all 1 rfl
theorem d_Mod_all_2 : decode prog_13_method_25_code 2 = .ok (.invokevirtual 96, 3) := am_row (r := (2, .invokevirtual 96, 3)) ro_Mod_all 2 rfl
theorem d_Mod_all_5 : decode prog_13_method_25_code 5 = .ok (.ishl, 1) := am_row (r := (5, .ishl, 1)) ro_Mod_all 3 rfl
theorem d_Mod_all_6 : decode prog_13_method_25_code 6 = .ok (.iconst 1, 1) := am_row (r := (6, .iconst 1, 1)) ro_Mod_all 4 rfl
theorem d_Mod_all_7 : decode prog_13_method_25_code 7 = .ok (.isub, 1) := am_row (r := (7, .isub, 1)) ro_Mod_all 5 rfl
theorem d_Mod_all_8 : decode prog_13_method_25_code 8 = .ok (.ireturn, 1) := am_row (r := (8, .ireturn, 1)) ro_Mod_all 6 rfl
abbrev y_Mod_isTrue : MethodName := ⟨"WheelDiscModel", "isTrue", "(I)Z"⟩
theorem c_Mod_isTrue : Cond.code y_Mod_isTrue prog_13_method_24_code 4 (some .boolean) ∈ am_T := am_mem 1135 (by decide +kernel) rfl
def rw_Mod_isTrue : List (Nat × Instr × Nat) := [(0, .iconst 0, 1), (1, .istore_n 2, 1), (2, .iload_n 2, 1), (3, .aload_n 0, 1), (4, .invokevirtual 93, 3), (7, .if_icmp .ge 48, 3), (10, .iload_n 2, 1), (11, .iconst 1, 1), (12, .iadd, 1), (13, .istore_n 3, 1), (14, .iload_n 3, 1), (15, .aload_n 0, 1), (16, .invokevirtual 93, 3), (19, .if_icmp .ge 30, 3), (22, .aload_n 0, 1), (23, .getfield 38, 3), (26, .iload_n 2, 1), (27, .iaload, 1), (28, .iload_n 1, 1), (29, .iand, 1), (30, .aload_n 0, 1), (31, .getfield 38, 3), (34, .iload_n 3, 1), (35, .iaload, 1), (36, .iload_n 1, 1), (37, .iand, 1), (38, .if_icmp .ne 5, 3), (41, .iconst 0, 1), (42, .ireturn, 1), (43, .iinc 3 1, 3), (46, .goto (-32), 3), (49, .iinc 2 1, 3), (52, .goto (-50), 3), (55, .iconst 1, 1), (56, .ireturn, 1)]
theorem ro_Mod_isTrue : rw_Mod_isTrue.all (fun r => decide (decode prog_13_method_24_code r.1 = .ok r.2)) = true := by decide +kernel
theorem d_Mod_isTrue_0 : decode prog_13_method_24_code 0 = .ok (.iconst 0, 1) := am_row (r := (0, .iconst 0, 1)) ro_Mod_isTrue 0 rfl
theorem d_Mod_isTrue_1 : decode prog_13_method_24_code 1 = .ok (.istore_n 2, 1) := am_row (r := (1, .istore_n 2, 1)) ro_Mod_isTrue 1 rfl
theorem d_Mod_isTrue_2 : decode prog_13_method_24_code 2 = .ok (.iload_n 2, 1) := am_row (r := (2, .iload_n 2, 1)) ro_Mod_isTrue 2 rfl
theorem d_Mod_isTrue_3 : decode prog_13_method_24_code 3 = .ok (.aload_n 0, 1) := am_row (r := (3, .aload_n 0, 1)) ro_Mod_isTrue 3 rfl
theorem d_Mod_isTrue_4 : decode prog_13_method_24_code 4 = .ok (.invokevirtual 93, 3) := am_row (r := (4, .invokevirtual 93, 3)) ro_Mod_isTrue 4 rfl
theorem d_Mod_isTrue_7 : decode prog_13_method_24_code 7 = .ok (.if_icmp .ge 48, 3) := am_row (r := (7, .if_icmp .ge 48, 3)) ro_Mod_isTrue 5 rfl
theorem d_Mod_isTrue_10 : decode prog_13_method_24_code 10 = .ok (.iload_n 2, 1) := am_row (r := (10, .iload_n 2, 1)) ro_Mod_isTrue 6 rfl
theorem d_Mod_isTrue_11 : decode prog_13_method_24_code 11 = .ok (.iconst 1, 1) := am_row (r := (11, .iconst 1, 1)) ro_Mod_isTrue 7 rfl
theorem d_Mod_isTrue_12 : decode prog_13_method_24_code 12 = .ok (.iadd, 1) := am_row (r := (12, .iadd, 1)) ro_Mod_isTrue 8 rfl
theorem d_Mod_isTrue_13 : decode prog_13_method_24_code 13 = .ok (.istore_n 3, 1) := am_row (r := (13, .istore_n 3, 1)) ro_Mod_isTrue 9 rfl
theorem d_Mod_isTrue_14 : decode prog_13_method_24_code 14 = .ok (.iload_n 3, 1) := am_row (r := (14, .iload_n 3, 1)) ro_Mod_isTrue 10 rfl
theorem d_Mod_isTrue_15 : decode prog_13_method_24_code 15 = .ok (.aload_n 0, 1) := am_row (r := (15, .aload_n 0, 1)) ro_Mod_isTrue 11 rfl
theorem d_Mod_isTrue_16 : decode prog_13_method_24_code 16 = .ok (.invokevirtual 93, 3) := am_row (r := (16, .invokevirtual 93, 3)) ro_Mod_isTrue 12 rfl
theorem d_Mod_isTrue_19 : decode prog_13_method_24_code 19 = .ok (.if_icmp .ge 30, 3) := am_row (r := (19, .if_icmp .ge 30, 3)) ro_Mod_isTrue 13 rfl
theorem d_Mod_isTrue_22 : decode prog_13_method_24_code 22 = .ok (.aload_n 0, 1) := am_row (r := (22, .aload_n 0, 1)) ro_Mod_isTrue 14 rfl
theorem d_Mod_isTrue_23 : decode prog_13_method_24_code 23 = .ok (.getfield 38, 3) := am_row (r := (23, .getfield 38, 3)) ro_Mod_isTrue 15 rfl
theorem d_Mod_isTrue_26 : decode prog_13_method_24_code 26 = .ok (.iload_n 2, 1) := am_row (r := (26, .iload_n 2, 1)) ro_Mod_isTrue 16 rfl
theorem d_Mod_isTrue_27 : decode prog_13_method_24_code 27 = .ok (.iaload, 1) := am_row (r := (27, .iaload, 1)) ro_Mod_isTrue 17 rfl
theorem d_Mod_isTrue_28 : decode prog_13_method_24_code 28 = .ok (.iload_n 1, 1) := am_row (r := (28, .iload_n 1, 1)) ro_Mod_isTrue 18 rfl
theorem d_Mod_isTrue_29 : decode prog_13_method_24_code 29 = .ok (.iand, 1) := am_row (r := (29, .iand, 1)) ro_Mod_isTrue 19 rfl
theorem d_Mod_isTrue_30 : decode prog_13_method_24_code 30 = .ok (.aload_n 0, 1) := am_row (r := (30, .aload_n 0, 1)) ro_Mod_isTrue 20 rfl
theorem d_Mod_isTrue_31 : decode prog_13_method_24_code 31 = .ok (.getfield 38, 3) := am_row (r := (31, .getfield 38, 3)) ro_Mod_isTrue 21 rfl
theorem d_Mod_isTrue_34 : decode prog_13_method_24_code 34 = .ok (.iload_n 3, 1) := am_row (r := (34, .iload_n 3, 1)) ro_Mod_isTrue 22 rfl
theorem d_Mod_isTrue_35 : decode prog_13_method_24_code 35 = .ok (.iaload, 1) := am_row (r := (35, .iaload, 1)) ro_Mod_isTrue 23 rfl
theorem d_Mod_isTrue_36 : decode prog_13_method_24_code 36 = .ok (.iload_n 1, 1) := am_row (r := (36, .iload_n 1, 1)) ro_Mod_isTrue 24 rfl
theorem d_Mod_isTrue_37 : decode prog_13_method_24_code 37 = .ok (.iand, 1) := am_row (r := (37, .iand, 1)) ro_Mod_isTrue 25 rfl
theorem d_Mod_isTrue_38 : decode prog_13_method_24_code 38 = .ok (.if_icmp .ne 5, 3) := am_row (r := (38, .if_icmp .ne 5, 3)) ro_Mod_isTrue 26 rfl
theorem d_Mod_isTrue_41 : decode prog_13_method_24_code 41 = .ok (.iconst 0, 1) := am_row (r := (41, .iconst 0, 1)) ro_Mod_isTrue 27 rfl
theorem d_Mod_isTrue_42 : decode prog_13_method_24_code 42 = .ok (.ireturn, 1) := am_row (r := (42, .ireturn, 1)) ro_Mod_isTrue 28 rfl
theorem d_Mod_isTrue_43 : decode prog_13_method_24_code 43 = .ok (.iinc 3 1, 3) := am_row (r := (43, .iinc 3 1, 3)) ro_Mod_isTrue 29 rfl
theorem d_Mod_isTrue_46 : decode prog_13_method_24_code 46 = .ok (.goto (-32), 3) := am_row (r := (46, .goto (-32), 3)) ro_Mod_isTrue 30 rfl
theorem d_Mod_isTrue_49 : decode prog_13_method_24_code 49 = .ok (.iinc 2 1, 3) := am_row (r := (49, .iinc 2 1, 3)) ro_Mod_isTrue 31 rfl
theorem d_Mod_isTrue_52 : decode prog_13_method_24_code 52 = .ok (.goto (-50), 3) := am_row (r := (52, .goto (-50), 3)) ro_Mod_isTrue 32 rfl
theorem d_Mod_isTrue_55 : decode prog_13_method_24_code 55 = .ok (.iconst 1, 1) := am_row (r := (55, .iconst 1, 1)) ro_Mod_isTrue 33 rfl
theorem d_Mod_isTrue_56 : decode prog_13_method_24_code 56 = .ok (.ireturn, 1) := am_row (r := (56, .ireturn, 1)) ro_Mod_isTrue 34 rfl
abbrev y_Mod_kind : MethodName := ⟨"WheelDiscModel", "kind", "()I"⟩
theorem c_Mod_kind : Cond.code y_Mod_kind prog_13_method_26_code 4 (some .int) ∈ am_T := am_mem 1115 (by decide +kernel) rfl
def rw_Mod_kind : List (Nat × Instr × Nat) := [(0, .aload_n 0, 1), (1, .invokevirtual 109, 3), (4, .aload_n 0, 1), (5, .aload_n 0, 1), (6, .invokevirtual 112, 3), (9, .invokevirtual 115, 3), (12, .ifCond .ne 5, 3), (15, .iconst 0, 1), (16, .ireturn, 1), (17, .aload_n 0, 1), (18, .invokevirtual 93, 3), (21, .iconst 1, 1), (22, .if_icmp .le 7, 3), (25, .iconst 1, 1), (26, .goto 4, 3), (29, .iconst 0, 1), (30, .istore_n 1, 1), (31, .iconst 0, 1), (32, .istore_n 2, 1), (33, .iload_n 2, 1), (34, .aload_n 0, 1), (35, .invokevirtual 93, 3), (38, .if_icmp .ge 46, 3), (41, .iload_n 1, 1), (42, .ifCond .eq 34, 3), (45, .aload_n 0, 1), (46, .getfield 38, 3), (49, .iload_n 2, 1), (50, .iaload, 1), (51, .aload_n 0, 1), (52, .getfield 38, 3), (55, .iload_n 2, 1), (56, .iconst 1, 1), (57, .iadd, 1), (58, .aload_n 0, 1), (59, .invokevirtual 93, 3), (62, .irem, 1), (63, .iaload, 1), (64, .ixor, 1), (65, .invokestatic 119, 3), (68, .iconst 1, 1), (69, .if_icmp .ne 7, 3), (72, .iconst 1, 1), (73, .goto 4, 3), (76, .iconst 0, 1), (77, .istore_n 1, 1), (78, .iinc 2 1, 3), (81, .goto (-48), 3), (84, .iload_n 1, 1), (85, .ifCond .eq 15, 3), (88, .aload_n 0, 1), (89, .getfield 9, 3), (92, .iconst 1, 1), (93, .iaload, 1), (94, .iconst 1, 1), (95, .if_icmp .ne 5, 3), (98, .iconst 3, 1), (99, .ireturn, 1), (100, .aload_n 0, 1), (101, .getfield 9, 3), (104, .iconst 1, 1), (105, .iaload, 1), (106, .iconst 1, 1), (107, .if_icmp .ne 7, 3), (110, .iconst 1, 1), (111, .goto 4, 3), (114, .iconst 0, 1), (115, .istore_n 2, 1), (116, .iconst 1, 1), (117, .istore_n 3, 1), (118, .iload_n 3, 1), (119, .aload_n 0, 1), (120, .invokevirtual 96, 3), (123, .if_icmp .ge 43, 3), (126, .iload_n 2, 1), (127, .ifCond .eq 31, 3), (130, .aload_n 0, 1), (131, .getfield 16, 3), (134, .iload_n 3, 1), (135, .iaload, 1), (136, .aload_n 0, 1), (137, .getfield 16, 3), (140, .iload_n 3, 1), (141, .iconst 1, 1), (142, .isub, 1), (143, .iaload, 1), (144, .iconst 1, 1), (145, .iadd, 1), (146, .aload_n 0, 1), (147, .invokevirtual 93, 3), (150, .irem, 1), (151, .if_icmp .ne 7, 3), (154, .iconst 1, 1), (155, .goto 4, 3), (158, .iconst 0, 1), (159, .istore_n 2, 1), (160, .iinc 3 1, 3), (163, .goto (-45), 3), (166, .iload_n 2, 1), (167, .ifCond .eq 7, 3), (170, .iconst 4, 1), (171, .goto 12, 3), (174, .iload_n 1, 1), (175, .ifCond .eq 7, 3), (178, .iconst 2, 1), (179, .goto 4, 3), (182, .iconst 1, 1), (183, .ireturn, 1)]
theorem ro_Mod_kind : rw_Mod_kind.all (fun r => decide (decode prog_13_method_26_code r.1 = .ok r.2)) = true := by decide +kernel
theorem d_Mod_kind_0 : decode prog_13_method_26_code 0 = .ok (.aload_n 0, 1) := am_row (r := (0, .aload_n 0, 1)) ro_Mod_kind 0 rfl
theorem d_Mod_kind_1 : decode prog_13_method_26_code 1 = .ok (.invokevirtual 109, 3) := am_row (r := (1, .invokevirtual 109, 3)) ro_Mod_kind 1 rfl
theorem d_Mod_kind_4 : decode prog_13_method_26_code 4 = .ok (.aload_n 0, 1) := am_row (r := (4, .aload_n 0, 1)) ro_Mod_kind 2 rfl
theorem d_Mod_kind_5 : decode prog_13_method_26_code 5 = .ok (.aload_n 0, 1) := am_row (r := (5, .aload_n 0, 1)) ro_Mod_kind 3 rfl
theorem d_Mod_kind_6 : decode prog_13_method_26_code 6 = .ok (.invokevirtual 112, 3) := am_row (r := (6, .invokevirtual 112, 3)) ro_Mod_kind 4 rfl
theorem d_Mod_kind_9 : decode prog_13_method_26_code 9 = .ok (.invokevirtual 115, 3) := am_row (r := (9, .invokevirtual 115, 3)) ro_Mod_kind 5 rfl
theorem d_Mod_kind_12 : decode prog_13_method_26_code 12 = .ok (.ifCond .ne 5, 3) := am_row (r := (12, .ifCond .ne 5, 3)) ro_Mod_kind 6 rfl
theorem d_Mod_kind_15 : decode prog_13_method_26_code 15 = .ok (.iconst 0, 1) := am_row (r := (15, .iconst 0, 1)) ro_Mod_kind 7 rfl
theorem d_Mod_kind_16 : decode prog_13_method_26_code 16 = .ok (.ireturn, 1) := am_row (r := (16, .ireturn, 1)) ro_Mod_kind 8 rfl
theorem d_Mod_kind_17 : decode prog_13_method_26_code 17 = .ok (.aload_n 0, 1) := am_row (r := (17, .aload_n 0, 1)) ro_Mod_kind 9 rfl
theorem d_Mod_kind_18 : decode prog_13_method_26_code 18 = .ok (.invokevirtual 93, 3) := am_row (r := (18, .invokevirtual 93, 3)) ro_Mod_kind 10 rfl
theorem d_Mod_kind_21 : decode prog_13_method_26_code 21 = .ok (.iconst 1, 1) := am_row (r := (21, .iconst 1, 1)) ro_Mod_kind 11 rfl
theorem d_Mod_kind_22 : decode prog_13_method_26_code 22 = .ok (.if_icmp .le 7, 3) := am_row (r := (22, .if_icmp .le 7, 3)) ro_Mod_kind 12 rfl
theorem d_Mod_kind_25 : decode prog_13_method_26_code 25 = .ok (.iconst 1, 1) := am_row (r := (25, .iconst 1, 1)) ro_Mod_kind 13 rfl
theorem d_Mod_kind_26 : decode prog_13_method_26_code 26 = .ok (.goto 4, 3) := am_row (r := (26, .goto 4, 3)) ro_Mod_kind 14 rfl
theorem d_Mod_kind_29 : decode prog_13_method_26_code 29 = .ok (.iconst 0, 1) := am_row (r := (29, .iconst 0, 1)) ro_Mod_kind 15 rfl
theorem d_Mod_kind_30 : decode prog_13_method_26_code 30 = .ok (.istore_n 1, 1) := am_row (r := (30, .istore_n 1, 1)) ro_Mod_kind 16 rfl
theorem d_Mod_kind_31 : decode prog_13_method_26_code 31 = .ok (.iconst 0, 1) := am_row (r := (31, .iconst 0, 1)) ro_Mod_kind 17 rfl
theorem d_Mod_kind_32 : decode prog_13_method_26_code 32 = .ok (.istore_n 2, 1) := am_row (r := (32, .istore_n 2, 1)) ro_Mod_kind 18 rfl
theorem d_Mod_kind_33 : decode prog_13_method_26_code 33 = .ok (.iload_n 2, 1) := am_row (r := (33, .iload_n 2, 1)) ro_Mod_kind 19 rfl
theorem d_Mod_kind_34 : decode prog_13_method_26_code 34 = .ok (.aload_n 0, 1) := am_row (r := (34, .aload_n 0, 1)) ro_Mod_kind 20 rfl
theorem d_Mod_kind_35 : decode prog_13_method_26_code 35 = .ok (.invokevirtual 93, 3) := am_row (r := (35, .invokevirtual 93, 3)) ro_Mod_kind 21 rfl
theorem d_Mod_kind_38 : decode prog_13_method_26_code 38 = .ok (.if_icmp .ge 46, 3) := am_row (r := (38, .if_icmp .ge 46, 3)) ro_Mod_kind 22 rfl
theorem d_Mod_kind_41 : decode prog_13_method_26_code 41 = .ok (.iload_n 1, 1) := am_row (r := (41, .iload_n 1, 1)) ro_Mod_kind 23 rfl
theorem d_Mod_kind_42 : decode prog_13_method_26_code 42 = .ok (.ifCond .eq 34, 3) := am_row (r := (42, .ifCond .eq 34, 3)) ro_Mod_kind 24 rfl
theorem d_Mod_kind_45 : decode prog_13_method_26_code 45 = .ok (.aload_n 0, 1) := am_row (r := (45, .aload_n 0, 1)) ro_Mod_kind 25 rfl
theorem d_Mod_kind_46 : decode prog_13_method_26_code 46 = .ok (.getfield 38, 3) := am_row (r := (46, .getfield 38, 3)) ro_Mod_kind 26 rfl
theorem d_Mod_kind_49 : decode prog_13_method_26_code 49 = .ok (.iload_n 2, 1) := am_row (r := (49, .iload_n 2, 1)) ro_Mod_kind 27 rfl
theorem d_Mod_kind_50 : decode prog_13_method_26_code 50 = .ok (.iaload, 1) := am_row (r := (50, .iaload, 1)) ro_Mod_kind 28 rfl
theorem d_Mod_kind_51 : decode prog_13_method_26_code 51 = .ok (.aload_n 0, 1) := am_row (r := (51, .aload_n 0, 1)) ro_Mod_kind 29 rfl
theorem d_Mod_kind_52 : decode prog_13_method_26_code 52 = .ok (.getfield 38, 3) := am_row (r := (52, .getfield 38, 3)) ro_Mod_kind 30 rfl
theorem d_Mod_kind_55 : decode prog_13_method_26_code 55 = .ok (.iload_n 2, 1) := am_row (r := (55, .iload_n 2, 1)) ro_Mod_kind 31 rfl
theorem d_Mod_kind_56 : decode prog_13_method_26_code 56 = .ok (.iconst 1, 1) := am_row (r := (56, .iconst 1, 1)) ro_Mod_kind 32 rfl
theorem d_Mod_kind_57 : decode prog_13_method_26_code 57 = .ok (.iadd, 1) := am_row (r := (57, .iadd, 1)) ro_Mod_kind 33 rfl
theorem d_Mod_kind_58 : decode prog_13_method_26_code 58 = .ok (.aload_n 0, 1) := am_row (r := (58, .aload_n 0, 1)) ro_Mod_kind 34 rfl
theorem d_Mod_kind_59 : decode prog_13_method_26_code 59 = .ok (.invokevirtual 93, 3) := am_row (r := (59, .invokevirtual 93, 3)) ro_Mod_kind 35 rfl
theorem d_Mod_kind_62 : decode prog_13_method_26_code 62 = .ok (.irem, 1) := am_row (r := (62, .irem, 1)) ro_Mod_kind 36 rfl
theorem d_Mod_kind_63 : decode prog_13_method_26_code 63 = .ok (.iaload, 1) := am_row (r := (63, .iaload, 1)) ro_Mod_kind 37 rfl
theorem d_Mod_kind_64 : decode prog_13_method_26_code 64 = .ok (.ixor, 1) := am_row (r := (64, .ixor, 1)) ro_Mod_kind 38 rfl
theorem d_Mod_kind_65 : decode prog_13_method_26_code 65 = .ok (.invokestatic 119, 3) := am_row (r := (65, .invokestatic 119, 3)) ro_Mod_kind 39 rfl
theorem d_Mod_kind_68 : decode prog_13_method_26_code 68 = .ok (.iconst 1, 1) := am_row (r := (68, .iconst 1, 1)) ro_Mod_kind 40 rfl
theorem d_Mod_kind_69 : decode prog_13_method_26_code 69 = .ok (.if_icmp .ne 7, 3) := am_row (r := (69, .if_icmp .ne 7, 3)) ro_Mod_kind 41 rfl
theorem d_Mod_kind_72 : decode prog_13_method_26_code 72 = .ok (.iconst 1, 1) := am_row (r := (72, .iconst 1, 1)) ro_Mod_kind 42 rfl
theorem d_Mod_kind_73 : decode prog_13_method_26_code 73 = .ok (.goto 4, 3) := am_row (r := (73, .goto 4, 3)) ro_Mod_kind 43 rfl
theorem d_Mod_kind_76 : decode prog_13_method_26_code 76 = .ok (.iconst 0, 1) := am_row (r := (76, .iconst 0, 1)) ro_Mod_kind 44 rfl
theorem d_Mod_kind_77 : decode prog_13_method_26_code 77 = .ok (.istore_n 1, 1) := am_row (r := (77, .istore_n 1, 1)) ro_Mod_kind 45 rfl
theorem d_Mod_kind_78 : decode prog_13_method_26_code 78 = .ok (.iinc 2 1, 3) := am_row (r := (78, .iinc 2 1, 3)) ro_Mod_kind 46 rfl
theorem d_Mod_kind_81 : decode prog_13_method_26_code 81 = .ok (.goto (-48), 3) := am_row (r := (81, .goto (-48), 3)) ro_Mod_kind 47 rfl
theorem d_Mod_kind_84 : decode prog_13_method_26_code 84 = .ok (.iload_n 1, 1) := am_row (r := (84, .iload_n 1, 1)) ro_Mod_kind 48 rfl
theorem d_Mod_kind_85 : decode prog_13_method_26_code 85 = .ok (.ifCond .eq 15, 3) := am_row (r := (85, .ifCond .eq 15, 3)) ro_Mod_kind 49 rfl
theorem d_Mod_kind_88 : decode prog_13_method_26_code 88 = .ok (.aload_n 0, 1) := am_row (r := (88, .aload_n 0, 1)) ro_Mod_kind 50 rfl
theorem d_Mod_kind_89 : decode prog_13_method_26_code 89 = .ok (.getfield 9, 3) := am_row (r := (89, .getfield 9, 3)) ro_Mod_kind 51 rfl
theorem d_Mod_kind_92 : decode prog_13_method_26_code 92 = .ok (.iconst 1, 1) := am_row (r := (92, .iconst 1, 1)) ro_Mod_kind 52 rfl
theorem d_Mod_kind_93 : decode prog_13_method_26_code 93 = .ok (.iaload, 1) := am_row (r := (93, .iaload, 1)) ro_Mod_kind 53 rfl
theorem d_Mod_kind_94 : decode prog_13_method_26_code 94 = .ok (.iconst 1, 1) := am_row (r := (94, .iconst 1, 1)) ro_Mod_kind 54 rfl
theorem d_Mod_kind_95 : decode prog_13_method_26_code 95 = .ok (.if_icmp .ne 5, 3) := am_row (r := (95, .if_icmp .ne 5, 3)) ro_Mod_kind 55 rfl
theorem d_Mod_kind_98 : decode prog_13_method_26_code 98 = .ok (.iconst 3, 1) := am_row (r := (98, .iconst 3, 1)) ro_Mod_kind 56 rfl
theorem d_Mod_kind_99 : decode prog_13_method_26_code 99 = .ok (.ireturn, 1) := am_row (r := (99, .ireturn, 1)) ro_Mod_kind 57 rfl
theorem d_Mod_kind_100 : decode prog_13_method_26_code 100 = .ok (.aload_n 0, 1) := am_row (r := (100, .aload_n 0, 1)) ro_Mod_kind 58 rfl
theorem d_Mod_kind_101 : decode prog_13_method_26_code 101 = .ok (.getfield 9, 3) := am_row (r := (101, .getfield 9, 3)) ro_Mod_kind 59 rfl
theorem d_Mod_kind_104 : decode prog_13_method_26_code 104 = .ok (.iconst 1, 1) := am_row (r := (104, .iconst 1, 1)) ro_Mod_kind 60 rfl
theorem d_Mod_kind_105 : decode prog_13_method_26_code 105 = .ok (.iaload, 1) := am_row (r := (105, .iaload, 1)) ro_Mod_kind 61 rfl
theorem d_Mod_kind_106 : decode prog_13_method_26_code 106 = .ok (.iconst 1, 1) := am_row (r := (106, .iconst 1, 1)) ro_Mod_kind 62 rfl
theorem d_Mod_kind_107 : decode prog_13_method_26_code 107 = .ok (.if_icmp .ne 7, 3) := am_row (r := (107, .if_icmp .ne 7, 3)) ro_Mod_kind 63 rfl
theorem d_Mod_kind_110 : decode prog_13_method_26_code 110 = .ok (.iconst 1, 1) := am_row (r := (110, .iconst 1, 1)) ro_Mod_kind 64 rfl
theorem d_Mod_kind_111 : decode prog_13_method_26_code 111 = .ok (.goto 4, 3) := am_row (r := (111, .goto 4, 3)) ro_Mod_kind 65 rfl
theorem d_Mod_kind_114 : decode prog_13_method_26_code 114 = .ok (.iconst 0, 1) := am_row (r := (114, .iconst 0, 1)) ro_Mod_kind 66 rfl
theorem d_Mod_kind_115 : decode prog_13_method_26_code 115 = .ok (.istore_n 2, 1) := am_row (r := (115, .istore_n 2, 1)) ro_Mod_kind 67 rfl
theorem d_Mod_kind_116 : decode prog_13_method_26_code 116 = .ok (.iconst 1, 1) := am_row (r := (116, .iconst 1, 1)) ro_Mod_kind 68 rfl
theorem d_Mod_kind_117 : decode prog_13_method_26_code 117 = .ok (.istore_n 3, 1) := am_row (r := (117, .istore_n 3, 1)) ro_Mod_kind 69 rfl
theorem d_Mod_kind_118 : decode prog_13_method_26_code 118 = .ok (.iload_n 3, 1) := am_row (r := (118, .iload_n 3, 1)) ro_Mod_kind 70 rfl
theorem d_Mod_kind_119 : decode prog_13_method_26_code 119 = .ok (.aload_n 0, 1) := am_row (r := (119, .aload_n 0, 1)) ro_Mod_kind 71 rfl
theorem d_Mod_kind_120 : decode prog_13_method_26_code 120 = .ok (.invokevirtual 96, 3) := am_row (r := (120, .invokevirtual 96, 3)) ro_Mod_kind 72 rfl
theorem d_Mod_kind_123 : decode prog_13_method_26_code 123 = .ok (.if_icmp .ge 43, 3) := am_row (r := (123, .if_icmp .ge 43, 3)) ro_Mod_kind 73 rfl
theorem d_Mod_kind_126 : decode prog_13_method_26_code 126 = .ok (.iload_n 2, 1) := am_row (r := (126, .iload_n 2, 1)) ro_Mod_kind 74 rfl
theorem d_Mod_kind_127 : decode prog_13_method_26_code 127 = .ok (.ifCond .eq 31, 3) := am_row (r := (127, .ifCond .eq 31, 3)) ro_Mod_kind 75 rfl
theorem d_Mod_kind_130 : decode prog_13_method_26_code 130 = .ok (.aload_n 0, 1) := am_row (r := (130, .aload_n 0, 1)) ro_Mod_kind 76 rfl
theorem d_Mod_kind_131 : decode prog_13_method_26_code 131 = .ok (.getfield 16, 3) := am_row (r := (131, .getfield 16, 3)) ro_Mod_kind 77 rfl
theorem d_Mod_kind_134 : decode prog_13_method_26_code 134 = .ok (.iload_n 3, 1) := am_row (r := (134, .iload_n 3, 1)) ro_Mod_kind 78 rfl
theorem d_Mod_kind_135 : decode prog_13_method_26_code 135 = .ok (.iaload, 1) := am_row (r := (135, .iaload, 1)) ro_Mod_kind 79 rfl
theorem d_Mod_kind_136 : decode prog_13_method_26_code 136 = .ok (.aload_n 0, 1) := am_row (r := (136, .aload_n 0, 1)) ro_Mod_kind 80 rfl
theorem d_Mod_kind_137 : decode prog_13_method_26_code 137 = .ok (.getfield 16, 3) := am_row (r := (137, .getfield 16, 3)) ro_Mod_kind 81 rfl
theorem d_Mod_kind_140 : decode prog_13_method_26_code 140 = .ok (.iload_n 3, 1) := am_row (r := (140, .iload_n 3, 1)) ro_Mod_kind 82 rfl
theorem d_Mod_kind_141 : decode prog_13_method_26_code 141 = .ok (.iconst 1, 1) := am_row (r := (141, .iconst 1, 1)) ro_Mod_kind 83 rfl
theorem d_Mod_kind_142 : decode prog_13_method_26_code 142 = .ok (.isub, 1) := am_row (r := (142, .isub, 1)) ro_Mod_kind 84 rfl
theorem d_Mod_kind_143 : decode prog_13_method_26_code 143 = .ok (.iaload, 1) := am_row (r := (143, .iaload, 1)) ro_Mod_kind 85 rfl
theorem d_Mod_kind_144 : decode prog_13_method_26_code 144 = .ok (.iconst 1, 1) := am_row (r := (144, .iconst 1, 1)) ro_Mod_kind 86 rfl
theorem d_Mod_kind_145 : decode prog_13_method_26_code 145 = .ok (.iadd, 1) := am_row (r := (145, .iadd, 1)) ro_Mod_kind 87 rfl
theorem d_Mod_kind_146 : decode prog_13_method_26_code 146 = .ok (.aload_n 0, 1) := am_row (r := (146, .aload_n 0, 1)) ro_Mod_kind 88 rfl
theorem d_Mod_kind_147 : decode prog_13_method_26_code 147 = .ok (.invokevirtual 93, 3) := am_row (r := (147, .invokevirtual 93, 3)) ro_Mod_kind 89 rfl
theorem d_Mod_kind_150 : decode prog_13_method_26_code 150 = .ok (.irem, 1) := am_row (r := (150, .irem, 1)) ro_Mod_kind 90 rfl
theorem d_Mod_kind_151 : decode prog_13_method_26_code 151 = .ok (.if_icmp .ne 7, 3) := am_row (r := (151, .if_icmp .ne 7, 3)) ro_Mod_kind 91 rfl
theorem d_Mod_kind_154 : decode prog_13_method_26_code 154 = .ok (.iconst 1, 1) := am_row (r := (154, .iconst 1, 1)) ro_Mod_kind 92 rfl
theorem d_Mod_kind_155 : decode prog_13_method_26_code 155 = .ok (.goto 4, 3) := am_row (r := (155, .goto 4, 3)) ro_Mod_kind 93 rfl
theorem d_Mod_kind_158 : decode prog_13_method_26_code 158 = .ok (.iconst 0, 1) := am_row (r := (158, .iconst 0, 1)) ro_Mod_kind 94 rfl
theorem d_Mod_kind_159 : decode prog_13_method_26_code 159 = .ok (.istore_n 2, 1) := am_row (r := (159, .istore_n 2, 1)) ro_Mod_kind 95 rfl
theorem d_Mod_kind_160 : decode prog_13_method_26_code 160 = .ok (.iinc 3 1, 3) := am_row (r := (160, .iinc 3 1, 3)) ro_Mod_kind 96 rfl
theorem d_Mod_kind_163 : decode prog_13_method_26_code 163 = .ok (.goto (-45), 3) := am_row (r := (163, .goto (-45), 3)) ro_Mod_kind 97 rfl
theorem d_Mod_kind_166 : decode prog_13_method_26_code 166 = .ok (.iload_n 2, 1) := am_row (r := (166, .iload_n 2, 1)) ro_Mod_kind 98 rfl
theorem d_Mod_kind_167 : decode prog_13_method_26_code 167 = .ok (.ifCond .eq 7, 3) := am_row (r := (167, .ifCond .eq 7, 3)) ro_Mod_kind 99 rfl
theorem d_Mod_kind_170 : decode prog_13_method_26_code 170 = .ok (.iconst 4, 1) := am_row (r := (170, .iconst 4, 1)) ro_Mod_kind 100 rfl
theorem d_Mod_kind_171 : decode prog_13_method_26_code 171 = .ok (.goto 12, 3) := am_row (r := (171, .goto 12, 3)) ro_Mod_kind 101 rfl
theorem d_Mod_kind_174 : decode prog_13_method_26_code 174 = .ok (.iload_n 1, 1) := am_row (r := (174, .iload_n 1, 1)) ro_Mod_kind 102 rfl
theorem d_Mod_kind_175 : decode prog_13_method_26_code 175 = .ok (.ifCond .eq 7, 3) := am_row (r := (175, .ifCond .eq 7, 3)) ro_Mod_kind 103 rfl
theorem d_Mod_kind_178 : decode prog_13_method_26_code 178 = .ok (.iconst 2, 1) := am_row (r := (178, .iconst 2, 1)) ro_Mod_kind 104 rfl
theorem d_Mod_kind_179 : decode prog_13_method_26_code 179 = .ok (.goto 4, 3) := am_row (r := (179, .goto 4, 3)) ro_Mod_kind 105 rfl
theorem d_Mod_kind_182 : decode prog_13_method_26_code 182 = .ok (.iconst 1, 1) := am_row (r := (182, .iconst 1, 1)) ro_Mod_kind 106 rfl
theorem d_Mod_kind_183 : decode prog_13_method_26_code 183 = .ok (.ireturn, 1) := am_row (r := (183, .ireturn, 1)) ro_Mod_kind 107 rfl
abbrev y_Mod_count : MethodName := ⟨"WheelDiscModel", "count", "(I)I"⟩
theorem c_Mod_count : Cond.code y_Mod_count prog_13_method_27_code 2 (some .int) ∈ am_T := am_mem 1111 (by decide +kernel) rfl
def rw_Mod_count : List (Nat × Instr × Nat) := [(0, .aload_n 0, 1), (1, .iconst 0, 1), (2, .putfield 62, 3), (5, .iload_n 1, 1), (6, .tableswitch 90 0 7 #[46, 46, 46, 53, 58, 63, 68, 73], 46), (52, .aload_n 0, 1), (53, .getfield 9, 3), (56, .iload_n 1, 1), (57, .iaload, 1), (58, .ireturn, 1), (59, .aload_n 0, 1), (60, .invokevirtual 124, 3), (63, .ireturn, 1), (64, .aload_n 0, 1), (65, .getfield 65, 3), (68, .ireturn, 1), (69, .aload_n 0, 1), (70, .getfield 127, 3), (73, .ireturn, 1), (74, .aload_n 0, 1), (75, .getfield 130, 3), (78, .ireturn, 1), (79, .aload_n 0, 1), (80, .getfield 24, 3), (83, .iconst (-1), 1), (84, .if_icmp .ne 7, 3), (87, .iconst (-1), 1), (88, .goto 7, 3), (91, .aload_n 0, 1), (92, .getfield 79, 3), (95, .ireturn, 1), (96, .aload_n 0, 1), (97, .iconst 1, 1), (98, .invokevirtual 75, 3), (101, .ireturn, 1)]
theorem ro_Mod_count : rw_Mod_count.all (fun r => decide (decode prog_13_method_27_code r.1 = .ok r.2)) = true := by decide +kernel
theorem d_Mod_count_0 : decode prog_13_method_27_code 0 = .ok (.aload_n 0, 1) := am_row (r := (0, .aload_n 0, 1)) ro_Mod_count 0 rfl
theorem d_Mod_count_1 : decode prog_13_method_27_code 1 = .ok (.iconst 0, 1) := am_row (r := (1, .iconst 0, 1)) ro_Mod_count 1 rfl
theorem d_Mod_count_2 : decode prog_13_method_27_code 2 = .ok (.putfield 62, 3) := am_row (r := (2, .putfield 62, 3)) ro_Mod_count 2 rfl
theorem d_Mod_count_5 : decode prog_13_method_27_code 5 = .ok (.iload_n 1, 1) := am_row (r := (5, .iload_n 1, 1)) ro_Mod_count 3 rfl
theorem d_Mod_count_6 : decode prog_13_method_27_code 6 = .ok (.tableswitch 90 0 7 #[46, 46, 46, 53, 58, 63, 68, 73], 46) := am_row (r := (6, .tableswitch 90 0 7 #[46, 46, 46, 53, 58, 63, 68, 73], 46)) ro_Mod_count 4 rfl
theorem d_Mod_count_52 : decode prog_13_method_27_code 52 = .ok (.aload_n 0, 1) := am_row (r := (52, .aload_n 0, 1)) ro_Mod_count 5 rfl
theorem d_Mod_count_53 : decode prog_13_method_27_code 53 = .ok (.getfield 9, 3) := am_row (r := (53, .getfield 9, 3)) ro_Mod_count 6 rfl
theorem d_Mod_count_56 : decode prog_13_method_27_code 56 = .ok (.iload_n 1, 1) := am_row (r := (56, .iload_n 1, 1)) ro_Mod_count 7 rfl
theorem d_Mod_count_57 : decode prog_13_method_27_code 57 = .ok (.iaload, 1) := am_row (r := (57, .iaload, 1)) ro_Mod_count 8 rfl
theorem d_Mod_count_58 : decode prog_13_method_27_code 58 = .ok (.ireturn, 1) := am_row (r := (58, .ireturn, 1)) ro_Mod_count 9 rfl
theorem d_Mod_count_59 : decode prog_13_method_27_code 59 = .ok (.aload_n 0, 1) := am_row (r := (59, .aload_n 0, 1)) ro_Mod_count 10 rfl
theorem d_Mod_count_60 : decode prog_13_method_27_code 60 = .ok (.invokevirtual 124, 3) := am_row (r := (60, .invokevirtual 124, 3)) ro_Mod_count 11 rfl
theorem d_Mod_count_63 : decode prog_13_method_27_code 63 = .ok (.ireturn, 1) := am_row (r := (63, .ireturn, 1)) ro_Mod_count 12 rfl
theorem d_Mod_count_64 : decode prog_13_method_27_code 64 = .ok (.aload_n 0, 1) := am_row (r := (64, .aload_n 0, 1)) ro_Mod_count 13 rfl
theorem d_Mod_count_65 : decode prog_13_method_27_code 65 = .ok (.getfield 65, 3) := am_row (r := (65, .getfield 65, 3)) ro_Mod_count 14 rfl
theorem d_Mod_count_68 : decode prog_13_method_27_code 68 = .ok (.ireturn, 1) := am_row (r := (68, .ireturn, 1)) ro_Mod_count 15 rfl
theorem d_Mod_count_69 : decode prog_13_method_27_code 69 = .ok (.aload_n 0, 1) := am_row (r := (69, .aload_n 0, 1)) ro_Mod_count 16 rfl
theorem d_Mod_count_70 : decode prog_13_method_27_code 70 = .ok (.getfield 127, 3) := am_row (r := (70, .getfield 127, 3)) ro_Mod_count 17 rfl
theorem d_Mod_count_73 : decode prog_13_method_27_code 73 = .ok (.ireturn, 1) := am_row (r := (73, .ireturn, 1)) ro_Mod_count 18 rfl
theorem d_Mod_count_74 : decode prog_13_method_27_code 74 = .ok (.aload_n 0, 1) := am_row (r := (74, .aload_n 0, 1)) ro_Mod_count 19 rfl
theorem d_Mod_count_75 : decode prog_13_method_27_code 75 = .ok (.getfield 130, 3) := am_row (r := (75, .getfield 130, 3)) ro_Mod_count 20 rfl
theorem d_Mod_count_78 : decode prog_13_method_27_code 78 = .ok (.ireturn, 1) := am_row (r := (78, .ireturn, 1)) ro_Mod_count 21 rfl
theorem d_Mod_count_79 : decode prog_13_method_27_code 79 = .ok (.aload_n 0, 1) := am_row (r := (79, .aload_n 0, 1)) ro_Mod_count 22 rfl
theorem d_Mod_count_80 : decode prog_13_method_27_code 80 = .ok (.getfield 24, 3) := am_row (r := (80, .getfield 24, 3)) ro_Mod_count 23 rfl
theorem d_Mod_count_83 : decode prog_13_method_27_code 83 = .ok (.iconst (-1), 1) := am_row (r := (83, .iconst (-1), 1)) ro_Mod_count 24 rfl
theorem d_Mod_count_84 : decode prog_13_method_27_code 84 = .ok (.if_icmp .ne 7, 3) := am_row (r := (84, .if_icmp .ne 7, 3)) ro_Mod_count 25 rfl
theorem d_Mod_count_87 : decode prog_13_method_27_code 87 = .ok (.iconst (-1), 1) := am_row (r := (87, .iconst (-1), 1)) ro_Mod_count 26 rfl
theorem d_Mod_count_88 : decode prog_13_method_27_code 88 = .ok (.goto 7, 3) := am_row (r := (88, .goto 7, 3)) ro_Mod_count 27 rfl
theorem d_Mod_count_91 : decode prog_13_method_27_code 91 = .ok (.aload_n 0, 1) := am_row (r := (91, .aload_n 0, 1)) ro_Mod_count 28 rfl
theorem d_Mod_count_92 : decode prog_13_method_27_code 92 = .ok (.getfield 79, 3) := am_row (r := (92, .getfield 79, 3)) ro_Mod_count 29 rfl
theorem d_Mod_count_95 : decode prog_13_method_27_code 95 = .ok (.ireturn, 1) := am_row (r := (95, .ireturn, 1)) ro_Mod_count 30 rfl
theorem d_Mod_count_96 : decode prog_13_method_27_code 96 = .ok (.aload_n 0, 1) := am_row (r := (96, .aload_n 0, 1)) ro_Mod_count 31 rfl
theorem d_Mod_count_97 : decode prog_13_method_27_code 97 = .ok (.iconst 1, 1) := am_row (r := (97, .iconst 1, 1)) ro_Mod_count 32 rfl
theorem d_Mod_count_98 : decode prog_13_method_27_code 98 = .ok (.invokevirtual 75, 3) := am_row (r := (98, .invokevirtual 75, 3)) ro_Mod_count 33 rfl
theorem d_Mod_count_101 : decode prog_13_method_27_code 101 = .ok (.ireturn, 1) := am_row (r := (101, .ireturn, 1)) ro_Mod_count 34 rfl
abbrev y_Mod_isStand : MethodName := ⟨"WheelDiscModel", "isStand", "(I)Z"⟩
theorem c_Mod_isStand : Cond.code y_Mod_isStand prog_13_method_28_code 2 (some .boolean) ∈ am_T := am_mem 1144 (by decide +kernel) rfl
def rw_Mod_isStand : List (Nat × Instr × Nat) := [(0, .iload_n 1, 1), (1, .ifCond .lt 15, 3), (4, .iload_n 1, 1), (5, .aload_n 0, 1), (6, .invokevirtual 93, 3), (9, .if_icmp .ge 7, 3), (12, .iconst 1, 1), (13, .goto 4, 3), (16, .iconst 0, 1), (17, .ireturn, 1)]
theorem ro_Mod_isStand : rw_Mod_isStand.all (fun r => decide (decode prog_13_method_28_code r.1 = .ok r.2)) = true := by decide +kernel
theorem d_Mod_isStand_0 : decode prog_13_method_28_code 0 = .ok (.iload_n 1, 1) := am_row (r := (0, .iload_n 1, 1)) ro_Mod_isStand 0 rfl
theorem d_Mod_isStand_1 : decode prog_13_method_28_code 1 = .ok (.ifCond .lt 15, 3) := am_row (r := (1, .ifCond .lt 15, 3)) ro_Mod_isStand 1 rfl
theorem d_Mod_isStand_4 : decode prog_13_method_28_code 4 = .ok (.iload_n 1, 1) := am_row (r := (4, .iload_n 1, 1)) ro_Mod_isStand 2 rfl
theorem d_Mod_isStand_5 : decode prog_13_method_28_code 5 = .ok (.aload_n 0, 1) := am_row (r := (5, .aload_n 0, 1)) ro_Mod_isStand 3 rfl
theorem d_Mod_isStand_6 : decode prog_13_method_28_code 6 = .ok (.invokevirtual 93, 3) := am_row (r := (6, .invokevirtual 93, 3)) ro_Mod_isStand 4 rfl
theorem d_Mod_isStand_9 : decode prog_13_method_28_code 9 = .ok (.if_icmp .ge 7, 3) := am_row (r := (9, .if_icmp .ge 7, 3)) ro_Mod_isStand 5 rfl
theorem d_Mod_isStand_12 : decode prog_13_method_28_code 12 = .ok (.iconst 1, 1) := am_row (r := (12, .iconst 1, 1)) ro_Mod_isStand 6 rfl
theorem d_Mod_isStand_13 : decode prog_13_method_28_code 13 = .ok (.goto 4, 3) := am_row (r := (13, .goto 4, 3)) ro_Mod_isStand 7 rfl
theorem d_Mod_isStand_16 : decode prog_13_method_28_code 16 = .ok (.iconst 0, 1) := am_row (r := (16, .iconst 0, 1)) ro_Mod_isStand 8 rfl
theorem d_Mod_isStand_17 : decode prog_13_method_28_code 17 = .ok (.ireturn, 1) := am_row (r := (17, .ireturn, 1)) ro_Mod_isStand 9 rfl
abbrev y_Mod_word : MethodName := ⟨"WheelDiscModel", "word", "(I)I"⟩
theorem c_Mod_word : Cond.code y_Mod_word prog_13_method_29_code 2 (some .int) ∈ am_T := am_mem 1140 (by decide +kernel) rfl
def rw_Mod_word : List (Nat × Instr × Nat) := [(0, .aload_n 0, 1), (1, .iconst 0, 1), (2, .putfield 62, 3), (5, .aload_n 0, 1), (6, .iload_n 1, 1), (7, .invokevirtual 133, 3), (10, .ifCond .eq 11, 3), (13, .aload_n 0, 1), (14, .iload_n 1, 1), (15, .invokevirtual 106, 3), (18, .goto 8, 3), (21, .aload_n 0, 1), (22, .iconst 1, 1), (23, .invokevirtual 75, 3), (26, .ireturn, 1)]
theorem ro_Mod_word : rw_Mod_word.all (fun r => decide (decode prog_13_method_29_code r.1 = .ok r.2)) = true := by decide +kernel
theorem d_Mod_word_0 : decode prog_13_method_29_code 0 = .ok (.aload_n 0, 1) := am_row (r := (0, .aload_n 0, 1)) ro_Mod_word 0 rfl
theorem d_Mod_word_1 : decode prog_13_method_29_code 1 = .ok (.iconst 0, 1) := am_row (r := (1, .iconst 0, 1)) ro_Mod_word 1 rfl
theorem d_Mod_word_2 : decode prog_13_method_29_code 2 = .ok (.putfield 62, 3) := am_row (r := (2, .putfield 62, 3)) ro_Mod_word 2 rfl
theorem d_Mod_word_5 : decode prog_13_method_29_code 5 = .ok (.aload_n 0, 1) := am_row (r := (5, .aload_n 0, 1)) ro_Mod_word 3 rfl
theorem d_Mod_word_6 : decode prog_13_method_29_code 6 = .ok (.iload_n 1, 1) := am_row (r := (6, .iload_n 1, 1)) ro_Mod_word 4 rfl
theorem d_Mod_word_7 : decode prog_13_method_29_code 7 = .ok (.invokevirtual 133, 3) := am_row (r := (7, .invokevirtual 133, 3)) ro_Mod_word 5 rfl
theorem d_Mod_word_10 : decode prog_13_method_29_code 10 = .ok (.ifCond .eq 11, 3) := am_row (r := (10, .ifCond .eq 11, 3)) ro_Mod_word 6 rfl
theorem d_Mod_word_13 : decode prog_13_method_29_code 13 = .ok (.aload_n 0, 1) := am_row (r := (13, .aload_n 0, 1)) ro_Mod_word 7 rfl
theorem d_Mod_word_14 : decode prog_13_method_29_code 14 = .ok (.iload_n 1, 1) := am_row (r := (14, .iload_n 1, 1)) ro_Mod_word 8 rfl
theorem d_Mod_word_15 : decode prog_13_method_29_code 15 = .ok (.invokevirtual 106, 3) := am_row (r := (15, .invokevirtual 106, 3)) ro_Mod_word 9 rfl
theorem d_Mod_word_18 : decode prog_13_method_29_code 18 = .ok (.goto 8, 3) := am_row (r := (18, .goto 8, 3)) ro_Mod_word 10 rfl
theorem d_Mod_word_21 : decode prog_13_method_29_code 21 = .ok (.aload_n 0, 1) := am_row (r := (21, .aload_n 0, 1)) ro_Mod_word 11 rfl
theorem d_Mod_word_22 : decode prog_13_method_29_code 22 = .ok (.iconst 1, 1) := am_row (r := (22, .iconst 1, 1)) ro_Mod_word 12 rfl
theorem d_Mod_word_23 : decode prog_13_method_29_code 23 = .ok (.invokevirtual 75, 3) := am_row (r := (23, .invokevirtual 75, 3)) ro_Mod_word 13 rfl
theorem d_Mod_word_26 : decode prog_13_method_29_code 26 = .ok (.ireturn, 1) := am_row (r := (26, .ireturn, 1)) ro_Mod_word 14 rfl
abbrev y_Mod_seen : MethodName := ⟨"WheelDiscModel", "seen", "(II)I"⟩
theorem c_Mod_seen : Cond.code y_Mod_seen prog_13_method_30_code 7 (some .int) ∈ am_T := am_mem 1148 (by decide +kernel) rfl
def rw_Mod_seen : List (Nat × Instr × Nat) := [(0, .aload_n 0, 1), (1, .iconst 0, 1), (2, .putfield 62, 3), (5, .iload_n 1, 1), (6, .ifCond .lt 20, 3), (9, .iload_n 1, 1), (10, .aload_n 0, 1), (11, .invokevirtual 96, 3), (14, .if_icmp .ge 12, 3), (17, .iload_n 2, 1), (18, .ifCond .lt 8, 3), (21, .iload_n 2, 1), (22, .iconst 3, 1), (23, .if_icmp .le 9, 3), (26, .aload_n 0, 1), (27, .iconst 1, 1), (28, .invokevirtual 75, 3), (31, .ireturn, 1), (32, .iload_n 2, 1), (33, .ifCond .ne 10, 3), (36, .aload_n 0, 1), (37, .getfield 13, 3), (40, .iload_n 1, 1), (41, .iaload, 1), (42, .ireturn, 1), (43, .iload_n 2, 1), (44, .iconst 1, 1), (45, .if_icmp .ne 10, 3), (48, .aload_n 0, 1), (49, .getfield 16, 3), (52, .iload_n 1, 1), (53, .iaload, 1), (54, .ireturn, 1), (55, .iconst 0, 1), (56, .istore_n 3, 1), (57, .aload_n 0, 1), (58, .invokevirtual 93, 3), (61, .istore 4, 2), (63, .iconst 0, 1), (64, .istore 5, 2), (66, .iload 5, 2), (68, .aload_n 0, 1), (69, .invokevirtual 93, 3), (72, .if_icmp .ge 94, 3), (75, .aload_n 0, 1), (76, .iload_n 1, 1), (77, .iload 5, 2), (79, .invokevirtual 102, 3), (82, .aload_n 0, 1), (83, .iload_n 1, 1), (84, .iload 5, 2), (86, .aload_n 0, 1), (87, .invokevirtual 93, 3), (90, .iadd, 1), (91, .iconst 1, 1), (92, .isub, 1), (93, .aload_n 0, 1), (94, .invokevirtual 93, 3), (97, .irem, 1), (98, .invokevirtual 102, 3), (101, .if_icmp .ne 6, 3), (104, .goto 56, 3), (107, .iinc 3 1, 3), (110, .iconst 1, 1), (111, .istore 6, 2), (113, .aload_n 0, 1), (114, .iload_n 1, 1), (115, .iload 5, 2), (117, .iload 6, 2), (119, .iadd, 1), (120, .aload_n 0, 1), (121, .invokevirtual 93, 3), (124, .irem, 1), (125, .invokevirtual 102, 3), (128, .aload_n 0, 1), (129, .iload_n 1, 1), (130, .iload 5, 2), (132, .invokevirtual 102, 3), (135, .if_icmp .ne 9, 3), (138, .iinc 6 1, 3), (141, .goto (-28), 3), (144, .iload 6, 2), (146, .iload 4, 2), (148, .if_icmp .ge 8, 3), (151, .iload 6, 2), (153, .goto 5, 3), (156, .iload 4, 2), (158, .istore 4, 2), (160, .iinc 5 1, 3), (163, .goto (-97), 3), (166, .iload_n 2, 1), (167, .iconst 2, 1), (168, .if_icmp .ne 7, 3), (171, .iload_n 3, 1), (172, .goto 5, 3), (175, .iload 4, 2), (177, .ireturn, 1)]
theorem ro_Mod_seen : rw_Mod_seen.all (fun r => decide (decode prog_13_method_30_code r.1 = .ok r.2)) = true := by decide +kernel
theorem d_Mod_seen_0 : decode prog_13_method_30_code 0 = .ok (.aload_n 0, 1) := am_row (r := (0, .aload_n 0, 1)) ro_Mod_seen 0 rfl
theorem d_Mod_seen_1 : decode prog_13_method_30_code 1 = .ok (.iconst 0, 1) := am_row (r := (1, .iconst 0, 1)) ro_Mod_seen 1 rfl
theorem d_Mod_seen_2 : decode prog_13_method_30_code 2 = .ok (.putfield 62, 3) := am_row (r := (2, .putfield 62, 3)) ro_Mod_seen 2 rfl
theorem d_Mod_seen_5 : decode prog_13_method_30_code 5 = .ok (.iload_n 1, 1) := am_row (r := (5, .iload_n 1, 1)) ro_Mod_seen 3 rfl
theorem d_Mod_seen_6 : decode prog_13_method_30_code 6 = .ok (.ifCond .lt 20, 3) := am_row (r := (6, .ifCond .lt 20, 3)) ro_Mod_seen 4 rfl
theorem d_Mod_seen_9 : decode prog_13_method_30_code 9 = .ok (.iload_n 1, 1) := am_row (r := (9, .iload_n 1, 1)) ro_Mod_seen 5 rfl
theorem d_Mod_seen_10 : decode prog_13_method_30_code 10 = .ok (.aload_n 0, 1) := am_row (r := (10, .aload_n 0, 1)) ro_Mod_seen 6 rfl
theorem d_Mod_seen_11 : decode prog_13_method_30_code 11 = .ok (.invokevirtual 96, 3) := am_row (r := (11, .invokevirtual 96, 3)) ro_Mod_seen 7 rfl
theorem d_Mod_seen_14 : decode prog_13_method_30_code 14 = .ok (.if_icmp .ge 12, 3) := am_row (r := (14, .if_icmp .ge 12, 3)) ro_Mod_seen 8 rfl
theorem d_Mod_seen_17 : decode prog_13_method_30_code 17 = .ok (.iload_n 2, 1) := am_row (r := (17, .iload_n 2, 1)) ro_Mod_seen 9 rfl
theorem d_Mod_seen_18 : decode prog_13_method_30_code 18 = .ok (.ifCond .lt 8, 3) := am_row (r := (18, .ifCond .lt 8, 3)) ro_Mod_seen 10 rfl
theorem d_Mod_seen_21 : decode prog_13_method_30_code 21 = .ok (.iload_n 2, 1) := am_row (r := (21, .iload_n 2, 1)) ro_Mod_seen 11 rfl
theorem d_Mod_seen_22 : decode prog_13_method_30_code 22 = .ok (.iconst 3, 1) := am_row (r := (22, .iconst 3, 1)) ro_Mod_seen 12 rfl
theorem d_Mod_seen_23 : decode prog_13_method_30_code 23 = .ok (.if_icmp .le 9, 3) := am_row (r := (23, .if_icmp .le 9, 3)) ro_Mod_seen 13 rfl
theorem d_Mod_seen_26 : decode prog_13_method_30_code 26 = .ok (.aload_n 0, 1) := am_row (r := (26, .aload_n 0, 1)) ro_Mod_seen 14 rfl
theorem d_Mod_seen_27 : decode prog_13_method_30_code 27 = .ok (.iconst 1, 1) := am_row (r := (27, .iconst 1, 1)) ro_Mod_seen 15 rfl
theorem d_Mod_seen_28 : decode prog_13_method_30_code 28 = .ok (.invokevirtual 75, 3) := am_row (r := (28, .invokevirtual 75, 3)) ro_Mod_seen 16 rfl
theorem d_Mod_seen_31 : decode prog_13_method_30_code 31 = .ok (.ireturn, 1) := am_row (r := (31, .ireturn, 1)) ro_Mod_seen 17 rfl
theorem d_Mod_seen_32 : decode prog_13_method_30_code 32 = .ok (.iload_n 2, 1) := am_row (r := (32, .iload_n 2, 1)) ro_Mod_seen 18 rfl
theorem d_Mod_seen_33 : decode prog_13_method_30_code 33 = .ok (.ifCond .ne 10, 3) := am_row (r := (33, .ifCond .ne 10, 3)) ro_Mod_seen 19 rfl
theorem d_Mod_seen_36 : decode prog_13_method_30_code 36 = .ok (.aload_n 0, 1) := am_row (r := (36, .aload_n 0, 1)) ro_Mod_seen 20 rfl
theorem d_Mod_seen_37 : decode prog_13_method_30_code 37 = .ok (.getfield 13, 3) := am_row (r := (37, .getfield 13, 3)) ro_Mod_seen 21 rfl
theorem d_Mod_seen_40 : decode prog_13_method_30_code 40 = .ok (.iload_n 1, 1) := am_row (r := (40, .iload_n 1, 1)) ro_Mod_seen 22 rfl
theorem d_Mod_seen_41 : decode prog_13_method_30_code 41 = .ok (.iaload, 1) := am_row (r := (41, .iaload, 1)) ro_Mod_seen 23 rfl
theorem d_Mod_seen_42 : decode prog_13_method_30_code 42 = .ok (.ireturn, 1) := am_row (r := (42, .ireturn, 1)) ro_Mod_seen 24 rfl
theorem d_Mod_seen_43 : decode prog_13_method_30_code 43 = .ok (.iload_n 2, 1) := am_row (r := (43, .iload_n 2, 1)) ro_Mod_seen 25 rfl
theorem d_Mod_seen_44 : decode prog_13_method_30_code 44 = .ok (.iconst 1, 1) := am_row (r := (44, .iconst 1, 1)) ro_Mod_seen 26 rfl
theorem d_Mod_seen_45 : decode prog_13_method_30_code 45 = .ok (.if_icmp .ne 10, 3) := am_row (r := (45, .if_icmp .ne 10, 3)) ro_Mod_seen 27 rfl
theorem d_Mod_seen_48 : decode prog_13_method_30_code 48 = .ok (.aload_n 0, 1) := am_row (r := (48, .aload_n 0, 1)) ro_Mod_seen 28 rfl
theorem d_Mod_seen_49 : decode prog_13_method_30_code 49 = .ok (.getfield 16, 3) := am_row (r := (49, .getfield 16, 3)) ro_Mod_seen 29 rfl
theorem d_Mod_seen_52 : decode prog_13_method_30_code 52 = .ok (.iload_n 1, 1) := am_row (r := (52, .iload_n 1, 1)) ro_Mod_seen 30 rfl
theorem d_Mod_seen_53 : decode prog_13_method_30_code 53 = .ok (.iaload, 1) := am_row (r := (53, .iaload, 1)) ro_Mod_seen 31 rfl
theorem d_Mod_seen_54 : decode prog_13_method_30_code 54 = .ok (.ireturn, 1) := am_row (r := (54, .ireturn, 1)) ro_Mod_seen 32 rfl
theorem d_Mod_seen_55 : decode prog_13_method_30_code 55 = .ok (.iconst 0, 1) := am_row (r := (55, .iconst 0, 1)) ro_Mod_seen 33 rfl
theorem d_Mod_seen_56 : decode prog_13_method_30_code 56 = .ok (.istore_n 3, 1) := am_row (r := (56, .istore_n 3, 1)) ro_Mod_seen 34 rfl
theorem d_Mod_seen_57 : decode prog_13_method_30_code 57 = .ok (.aload_n 0, 1) := am_row (r := (57, .aload_n 0, 1)) ro_Mod_seen 35 rfl
theorem d_Mod_seen_58 : decode prog_13_method_30_code 58 = .ok (.invokevirtual 93, 3) := am_row (r := (58, .invokevirtual 93, 3)) ro_Mod_seen 36 rfl
theorem d_Mod_seen_61 : decode prog_13_method_30_code 61 = .ok (.istore 4, 2) := am_row (r := (61, .istore 4, 2)) ro_Mod_seen 37 rfl
theorem d_Mod_seen_63 : decode prog_13_method_30_code 63 = .ok (.iconst 0, 1) := am_row (r := (63, .iconst 0, 1)) ro_Mod_seen 38 rfl
theorem d_Mod_seen_64 : decode prog_13_method_30_code 64 = .ok (.istore 5, 2) := am_row (r := (64, .istore 5, 2)) ro_Mod_seen 39 rfl
theorem d_Mod_seen_66 : decode prog_13_method_30_code 66 = .ok (.iload 5, 2) := am_row (r := (66, .iload 5, 2)) ro_Mod_seen 40 rfl
theorem d_Mod_seen_68 : decode prog_13_method_30_code 68 = .ok (.aload_n 0, 1) := am_row (r := (68, .aload_n 0, 1)) ro_Mod_seen 41 rfl
theorem d_Mod_seen_69 : decode prog_13_method_30_code 69 = .ok (.invokevirtual 93, 3) := am_row (r := (69, .invokevirtual 93, 3)) ro_Mod_seen 42 rfl
theorem d_Mod_seen_72 : decode prog_13_method_30_code 72 = .ok (.if_icmp .ge 94, 3) := am_row (r := (72, .if_icmp .ge 94, 3)) ro_Mod_seen 43 rfl
theorem d_Mod_seen_75 : decode prog_13_method_30_code 75 = .ok (.aload_n 0, 1) := am_row (r := (75, .aload_n 0, 1)) ro_Mod_seen 44 rfl
theorem d_Mod_seen_76 : decode prog_13_method_30_code 76 = .ok (.iload_n 1, 1) := am_row (r := (76, .iload_n 1, 1)) ro_Mod_seen 45 rfl
theorem d_Mod_seen_77 : decode prog_13_method_30_code 77 = .ok (.iload 5, 2) := am_row (r := (77, .iload 5, 2)) ro_Mod_seen 46 rfl
theorem d_Mod_seen_79 : decode prog_13_method_30_code 79 = .ok (.invokevirtual 102, 3) := am_row (r := (79, .invokevirtual 102, 3)) ro_Mod_seen 47 rfl
theorem d_Mod_seen_82 : decode prog_13_method_30_code 82 = .ok (.aload_n 0, 1) := am_row (r := (82, .aload_n 0, 1)) ro_Mod_seen 48 rfl
theorem d_Mod_seen_83 : decode prog_13_method_30_code 83 = .ok (.iload_n 1, 1) := am_row (r := (83, .iload_n 1, 1)) ro_Mod_seen 49 rfl
theorem d_Mod_seen_84 : decode prog_13_method_30_code 84 = .ok (.iload 5, 2) := am_row (r := (84, .iload 5, 2)) ro_Mod_seen 50 rfl
theorem d_Mod_seen_86 : decode prog_13_method_30_code 86 = .ok (.aload_n 0, 1) := am_row (r := (86, .aload_n 0, 1)) ro_Mod_seen 51 rfl
theorem d_Mod_seen_87 : decode prog_13_method_30_code 87 = .ok (.invokevirtual 93, 3) := am_row (r := (87, .invokevirtual 93, 3)) ro_Mod_seen 52 rfl
theorem d_Mod_seen_90 : decode prog_13_method_30_code 90 = .ok (.iadd, 1) := am_row (r := (90, .iadd, 1)) ro_Mod_seen 53 rfl
theorem d_Mod_seen_91 : decode prog_13_method_30_code 91 = .ok (.iconst 1, 1) := am_row (r := (91, .iconst 1, 1)) ro_Mod_seen 54 rfl
theorem d_Mod_seen_92 : decode prog_13_method_30_code 92 = .ok (.isub, 1) := am_row (r := (92, .isub, 1)) ro_Mod_seen 55 rfl
theorem d_Mod_seen_93 : decode prog_13_method_30_code 93 = .ok (.aload_n 0, 1) := am_row (r := (93, .aload_n 0, 1)) ro_Mod_seen 56 rfl
theorem d_Mod_seen_94 : decode prog_13_method_30_code 94 = .ok (.invokevirtual 93, 3) := am_row (r := (94, .invokevirtual 93, 3)) ro_Mod_seen 57 rfl
theorem d_Mod_seen_97 : decode prog_13_method_30_code 97 = .ok (.irem, 1) := am_row (r := (97, .irem, 1)) ro_Mod_seen 58 rfl
theorem d_Mod_seen_98 : decode prog_13_method_30_code 98 = .ok (.invokevirtual 102, 3) := am_row (r := (98, .invokevirtual 102, 3)) ro_Mod_seen 59 rfl
theorem d_Mod_seen_101 : decode prog_13_method_30_code 101 = .ok (.if_icmp .ne 6, 3) := am_row (r := (101, .if_icmp .ne 6, 3)) ro_Mod_seen 60 rfl
theorem d_Mod_seen_104 : decode prog_13_method_30_code 104 = .ok (.goto 56, 3) := am_row (r := (104, .goto 56, 3)) ro_Mod_seen 61 rfl
theorem d_Mod_seen_107 : decode prog_13_method_30_code 107 = .ok (.iinc 3 1, 3) := am_row (r := (107, .iinc 3 1, 3)) ro_Mod_seen 62 rfl
theorem d_Mod_seen_110 : decode prog_13_method_30_code 110 = .ok (.iconst 1, 1) := am_row (r := (110, .iconst 1, 1)) ro_Mod_seen 63 rfl
theorem d_Mod_seen_111 : decode prog_13_method_30_code 111 = .ok (.istore 6, 2) := am_row (r := (111, .istore 6, 2)) ro_Mod_seen 64 rfl
theorem d_Mod_seen_113 : decode prog_13_method_30_code 113 = .ok (.aload_n 0, 1) := am_row (r := (113, .aload_n 0, 1)) ro_Mod_seen 65 rfl
theorem d_Mod_seen_114 : decode prog_13_method_30_code 114 = .ok (.iload_n 1, 1) := am_row (r := (114, .iload_n 1, 1)) ro_Mod_seen 66 rfl
theorem d_Mod_seen_115 : decode prog_13_method_30_code 115 = .ok (.iload 5, 2) := am_row (r := (115, .iload 5, 2)) ro_Mod_seen 67 rfl
theorem d_Mod_seen_117 : decode prog_13_method_30_code 117 = .ok (.iload 6, 2) := am_row (r := (117, .iload 6, 2)) ro_Mod_seen 68 rfl
theorem d_Mod_seen_119 : decode prog_13_method_30_code 119 = .ok (.iadd, 1) := am_row (r := (119, .iadd, 1)) ro_Mod_seen 69 rfl
theorem d_Mod_seen_120 : decode prog_13_method_30_code 120 = .ok (.aload_n 0, 1) := am_row (r := (120, .aload_n 0, 1)) ro_Mod_seen 70 rfl
theorem d_Mod_seen_121 : decode prog_13_method_30_code 121 = .ok (.invokevirtual 93, 3) := am_row (r := (121, .invokevirtual 93, 3)) ro_Mod_seen 71 rfl
theorem d_Mod_seen_124 : decode prog_13_method_30_code 124 = .ok (.irem, 1) := am_row (r := (124, .irem, 1)) ro_Mod_seen 72 rfl
theorem d_Mod_seen_125 : decode prog_13_method_30_code 125 = .ok (.invokevirtual 102, 3) := am_row (r := (125, .invokevirtual 102, 3)) ro_Mod_seen 73 rfl
theorem d_Mod_seen_128 : decode prog_13_method_30_code 128 = .ok (.aload_n 0, 1) := am_row (r := (128, .aload_n 0, 1)) ro_Mod_seen 74 rfl
theorem d_Mod_seen_129 : decode prog_13_method_30_code 129 = .ok (.iload_n 1, 1) := am_row (r := (129, .iload_n 1, 1)) ro_Mod_seen 75 rfl
theorem d_Mod_seen_130 : decode prog_13_method_30_code 130 = .ok (.iload 5, 2) := am_row (r := (130, .iload 5, 2)) ro_Mod_seen 76 rfl
theorem d_Mod_seen_132 : decode prog_13_method_30_code 132 = .ok (.invokevirtual 102, 3) := am_row (r := (132, .invokevirtual 102, 3)) ro_Mod_seen 77 rfl
theorem d_Mod_seen_135 : decode prog_13_method_30_code 135 = .ok (.if_icmp .ne 9, 3) := am_row (r := (135, .if_icmp .ne 9, 3)) ro_Mod_seen 78 rfl
theorem d_Mod_seen_138 : decode prog_13_method_30_code 138 = .ok (.iinc 6 1, 3) := am_row (r := (138, .iinc 6 1, 3)) ro_Mod_seen 79 rfl
theorem d_Mod_seen_141 : decode prog_13_method_30_code 141 = .ok (.goto (-28), 3) := am_row (r := (141, .goto (-28), 3)) ro_Mod_seen 80 rfl
theorem d_Mod_seen_144 : decode prog_13_method_30_code 144 = .ok (.iload 6, 2) := am_row (r := (144, .iload 6, 2)) ro_Mod_seen 81 rfl
theorem d_Mod_seen_146 : decode prog_13_method_30_code 146 = .ok (.iload 4, 2) := am_row (r := (146, .iload 4, 2)) ro_Mod_seen 82 rfl
theorem d_Mod_seen_148 : decode prog_13_method_30_code 148 = .ok (.if_icmp .ge 8, 3) := am_row (r := (148, .if_icmp .ge 8, 3)) ro_Mod_seen 83 rfl
theorem d_Mod_seen_151 : decode prog_13_method_30_code 151 = .ok (.iload 6, 2) := am_row (r := (151, .iload 6, 2)) ro_Mod_seen 84 rfl
theorem d_Mod_seen_153 : decode prog_13_method_30_code 153 = .ok (.goto 5, 3) := am_row (r := (153, .goto 5, 3)) ro_Mod_seen 85 rfl
theorem d_Mod_seen_156 : decode prog_13_method_30_code 156 = .ok (.iload 4, 2) := am_row (r := (156, .iload 4, 2)) ro_Mod_seen 86 rfl
theorem d_Mod_seen_158 : decode prog_13_method_30_code 158 = .ok (.istore 4, 2) := am_row (r := (158, .istore 4, 2)) ro_Mod_seen 87 rfl
theorem d_Mod_seen_160 : decode prog_13_method_30_code 160 = .ok (.iinc 5 1, 3) := am_row (r := (160, .iinc 5 1, 3)) ro_Mod_seen 88 rfl
theorem d_Mod_seen_163 : decode prog_13_method_30_code 163 = .ok (.goto (-97), 3) := am_row (r := (163, .goto (-97), 3)) ro_Mod_seen 89 rfl
theorem d_Mod_seen_166 : decode prog_13_method_30_code 166 = .ok (.iload_n 2, 1) := am_row (r := (166, .iload_n 2, 1)) ro_Mod_seen 90 rfl
theorem d_Mod_seen_167 : decode prog_13_method_30_code 167 = .ok (.iconst 2, 1) := am_row (r := (167, .iconst 2, 1)) ro_Mod_seen 91 rfl
theorem d_Mod_seen_168 : decode prog_13_method_30_code 168 = .ok (.if_icmp .ne 7, 3) := am_row (r := (168, .if_icmp .ne 7, 3)) ro_Mod_seen 92 rfl
theorem d_Mod_seen_171 : decode prog_13_method_30_code 171 = .ok (.iload_n 3, 1) := am_row (r := (171, .iload_n 3, 1)) ro_Mod_seen 93 rfl
theorem d_Mod_seen_172 : decode prog_13_method_30_code 172 = .ok (.goto 5, 3) := am_row (r := (172, .goto 5, 3)) ro_Mod_seen 94 rfl
theorem d_Mod_seen_175 : decode prog_13_method_30_code 175 = .ok (.iload 4, 2) := am_row (r := (175, .iload 4, 2)) ro_Mod_seen 95 rfl
theorem d_Mod_seen_177 : decode prog_13_method_30_code 177 = .ok (.ireturn, 1) := am_row (r := (177, .ireturn, 1)) ro_Mod_seen 96 rfl
abbrev y_Mod_where : MethodName := ⟨"WheelDiscModel", "where", "(I)I"⟩
theorem c_Mod_where : Cond.code y_Mod_where prog_13_method_31_code 4 (some .int) ∈ am_T := am_mem 1152 (by decide +kernel) rfl
def rw_Mod_where : List (Nat × Instr × Nat) := [(0, .aload_n 0, 1), (1, .iconst 0, 1), (2, .putfield 62, 3), (5, .iconst 0, 1), (6, .istore_n 2, 1), (7, .iconst 0, 1), (8, .istore_n 3, 1), (9, .iload_n 3, 1), (10, .aload_n 0, 1), (11, .invokevirtual 93, 3), (14, .if_icmp .ge 21, 3), (17, .aload_n 0, 1), (18, .iload_n 3, 1), (19, .invokevirtual 106, 3), (22, .iload_n 1, 1), (23, .if_icmp .ne 6, 3), (26, .iinc 2 1, 3), (29, .iinc 3 1, 3), (32, .goto (-23), 3), (35, .iload_n 2, 1), (36, .ireturn, 1)]
theorem ro_Mod_where : rw_Mod_where.all (fun r => decide (decode prog_13_method_31_code r.1 = .ok r.2)) = true := by decide +kernel
theorem d_Mod_where_0 : decode prog_13_method_31_code 0 = .ok (.aload_n 0, 1) := am_row (r := (0, .aload_n 0, 1)) ro_Mod_where 0 rfl
theorem d_Mod_where_1 : decode prog_13_method_31_code 1 = .ok (.iconst 0, 1) := am_row (r := (1, .iconst 0, 1)) ro_Mod_where 1 rfl
theorem d_Mod_where_2 : decode prog_13_method_31_code 2 = .ok (.putfield 62, 3) := am_row (r := (2, .putfield 62, 3)) ro_Mod_where 2 rfl
theorem d_Mod_where_5 : decode prog_13_method_31_code 5 = .ok (.iconst 0, 1) := am_row (r := (5, .iconst 0, 1)) ro_Mod_where 3 rfl
theorem d_Mod_where_6 : decode prog_13_method_31_code 6 = .ok (.istore_n 2, 1) := am_row (r := (6, .istore_n 2, 1)) ro_Mod_where 4 rfl
theorem d_Mod_where_7 : decode prog_13_method_31_code 7 = .ok (.iconst 0, 1) := am_row (r := (7, .iconst 0, 1)) ro_Mod_where 5 rfl
theorem d_Mod_where_8 : decode prog_13_method_31_code 8 = .ok (.istore_n 3, 1) := am_row (r := (8, .istore_n 3, 1)) ro_Mod_where 6 rfl
theorem d_Mod_where_9 : decode prog_13_method_31_code 9 = .ok (.iload_n 3, 1) := am_row (r := (9, .iload_n 3, 1)) ro_Mod_where 7 rfl
theorem d_Mod_where_10 : decode prog_13_method_31_code 10 = .ok (.aload_n 0, 1) := am_row (r := (10, .aload_n 0, 1)) ro_Mod_where 8 rfl
theorem d_Mod_where_11 : decode prog_13_method_31_code 11 = .ok (.invokevirtual 93, 3) := am_row (r := (11, .invokevirtual 93, 3)) ro_Mod_where 9 rfl
theorem d_Mod_where_14 : decode prog_13_method_31_code 14 = .ok (.if_icmp .ge 21, 3) := am_row (r := (14, .if_icmp .ge 21, 3)) ro_Mod_where 10 rfl
theorem d_Mod_where_17 : decode prog_13_method_31_code 17 = .ok (.aload_n 0, 1) := am_row (r := (17, .aload_n 0, 1)) ro_Mod_where 11 rfl
theorem d_Mod_where_18 : decode prog_13_method_31_code 18 = .ok (.iload_n 3, 1) := am_row (r := (18, .iload_n 3, 1)) ro_Mod_where 12 rfl
theorem d_Mod_where_19 : decode prog_13_method_31_code 19 = .ok (.invokevirtual 106, 3) := am_row (r := (19, .invokevirtual 106, 3)) ro_Mod_where 13 rfl
theorem d_Mod_where_22 : decode prog_13_method_31_code 22 = .ok (.iload_n 1, 1) := am_row (r := (22, .iload_n 1, 1)) ro_Mod_where 14 rfl
theorem d_Mod_where_23 : decode prog_13_method_31_code 23 = .ok (.if_icmp .ne 6, 3) := am_row (r := (23, .if_icmp .ne 6, 3)) ro_Mod_where 15 rfl
theorem d_Mod_where_26 : decode prog_13_method_31_code 26 = .ok (.iinc 2 1, 3) := am_row (r := (26, .iinc 2 1, 3)) ro_Mod_where 16 rfl
theorem d_Mod_where_29 : decode prog_13_method_31_code 29 = .ok (.iinc 3 1, 3) := am_row (r := (29, .iinc 3 1, 3)) ro_Mod_where 17 rfl
theorem d_Mod_where_32 : decode prog_13_method_31_code 32 = .ok (.goto (-23), 3) := am_row (r := (32, .goto (-23), 3)) ro_Mod_where 18 rfl
theorem d_Mod_where_35 : decode prog_13_method_31_code 35 = .ok (.iload_n 2, 1) := am_row (r := (35, .iload_n 2, 1)) ro_Mod_where 19 rfl
theorem d_Mod_where_36 : decode prog_13_method_31_code 36 = .ok (.ireturn, 1) := am_row (r := (36, .ireturn, 1)) ro_Mod_where 20 rfl
abbrev y_Mod_at : MethodName := ⟨"WheelDiscModel", "at", "(II)I"⟩
theorem c_Mod_at : Cond.code y_Mod_at prog_13_method_32_code 5 (some .int) ∈ am_T := am_mem 1156 (by decide +kernel) rfl
def rw_Mod_at : List (Nat × Instr × Nat) := [(0, .aload_n 0, 1), (1, .iconst 0, 1), (2, .putfield 62, 3), (5, .iconst 0, 1), (6, .istore_n 3, 1), (7, .iconst 0, 1), (8, .istore 4, 2), (10, .iload 4, 2), (12, .aload_n 0, 1), (13, .invokevirtual 93, 3), (16, .if_icmp .ge 33, 3), (19, .aload_n 0, 1), (20, .iload 4, 2), (22, .invokevirtual 106, 3), (25, .iload_n 1, 1), (26, .if_icmp .eq 6, 3), (29, .goto 14, 3), (32, .iload_n 3, 1), (33, .iload_n 2, 1), (34, .if_icmp .ne 6, 3), (37, .iload 4, 2), (39, .ireturn, 1), (40, .iinc 3 1, 3), (43, .iinc 4 1, 3), (46, .goto (-36), 3), (49, .aload_n 0, 1), (50, .iconst 1, 1), (51, .invokevirtual 75, 3), (54, .ireturn, 1)]
theorem ro_Mod_at : rw_Mod_at.all (fun r => decide (decode prog_13_method_32_code r.1 = .ok r.2)) = true := by decide +kernel
theorem d_Mod_at_0 : decode prog_13_method_32_code 0 = .ok (.aload_n 0, 1) := am_row (r := (0, .aload_n 0, 1)) ro_Mod_at 0 rfl
theorem d_Mod_at_1 : decode prog_13_method_32_code 1 = .ok (.iconst 0, 1) := am_row (r := (1, .iconst 0, 1)) ro_Mod_at 1 rfl
theorem d_Mod_at_2 : decode prog_13_method_32_code 2 = .ok (.putfield 62, 3) := am_row (r := (2, .putfield 62, 3)) ro_Mod_at 2 rfl
theorem d_Mod_at_5 : decode prog_13_method_32_code 5 = .ok (.iconst 0, 1) := am_row (r := (5, .iconst 0, 1)) ro_Mod_at 3 rfl
theorem d_Mod_at_6 : decode prog_13_method_32_code 6 = .ok (.istore_n 3, 1) := am_row (r := (6, .istore_n 3, 1)) ro_Mod_at 4 rfl
theorem d_Mod_at_7 : decode prog_13_method_32_code 7 = .ok (.iconst 0, 1) := am_row (r := (7, .iconst 0, 1)) ro_Mod_at 5 rfl
theorem d_Mod_at_8 : decode prog_13_method_32_code 8 = .ok (.istore 4, 2) := am_row (r := (8, .istore 4, 2)) ro_Mod_at 6 rfl
theorem d_Mod_at_10 : decode prog_13_method_32_code 10 = .ok (.iload 4, 2) := am_row (r := (10, .iload 4, 2)) ro_Mod_at 7 rfl
theorem d_Mod_at_12 : decode prog_13_method_32_code 12 = .ok (.aload_n 0, 1) := am_row (r := (12, .aload_n 0, 1)) ro_Mod_at 8 rfl
theorem d_Mod_at_13 : decode prog_13_method_32_code 13 = .ok (.invokevirtual 93, 3) := am_row (r := (13, .invokevirtual 93, 3)) ro_Mod_at 9 rfl
theorem d_Mod_at_16 : decode prog_13_method_32_code 16 = .ok (.if_icmp .ge 33, 3) := am_row (r := (16, .if_icmp .ge 33, 3)) ro_Mod_at 10 rfl
theorem d_Mod_at_19 : decode prog_13_method_32_code 19 = .ok (.aload_n 0, 1) := am_row (r := (19, .aload_n 0, 1)) ro_Mod_at 11 rfl
theorem d_Mod_at_20 : decode prog_13_method_32_code 20 = .ok (.iload 4, 2) := am_row (r := (20, .iload 4, 2)) ro_Mod_at 12 rfl
theorem d_Mod_at_22 : decode prog_13_method_32_code 22 = .ok (.invokevirtual 106, 3) := am_row (r := (22, .invokevirtual 106, 3)) ro_Mod_at 13 rfl
theorem d_Mod_at_25 : decode prog_13_method_32_code 25 = .ok (.iload_n 1, 1) := am_row (r := (25, .iload_n 1, 1)) ro_Mod_at 14 rfl
theorem d_Mod_at_26 : decode prog_13_method_32_code 26 = .ok (.if_icmp .eq 6, 3) := am_row (r := (26, .if_icmp .eq 6, 3)) ro_Mod_at 15 rfl
theorem d_Mod_at_29 : decode prog_13_method_32_code 29 = .ok (.goto 14, 3) := am_row (r := (29, .goto 14, 3)) ro_Mod_at 16 rfl
theorem d_Mod_at_32 : decode prog_13_method_32_code 32 = .ok (.iload_n 3, 1) := am_row (r := (32, .iload_n 3, 1)) ro_Mod_at 17 rfl
theorem d_Mod_at_33 : decode prog_13_method_32_code 33 = .ok (.iload_n 2, 1) := am_row (r := (33, .iload_n 2, 1)) ro_Mod_at 18 rfl
theorem d_Mod_at_34 : decode prog_13_method_32_code 34 = .ok (.if_icmp .ne 6, 3) := am_row (r := (34, .if_icmp .ne 6, 3)) ro_Mod_at 19 rfl
theorem d_Mod_at_37 : decode prog_13_method_32_code 37 = .ok (.iload 4, 2) := am_row (r := (37, .iload 4, 2)) ro_Mod_at 20 rfl
theorem d_Mod_at_39 : decode prog_13_method_32_code 39 = .ok (.ireturn, 1) := am_row (r := (39, .ireturn, 1)) ro_Mod_at 21 rfl
theorem d_Mod_at_40 : decode prog_13_method_32_code 40 = .ok (.iinc 3 1, 3) := am_row (r := (40, .iinc 3 1, 3)) ro_Mod_at 22 rfl
theorem d_Mod_at_43 : decode prog_13_method_32_code 43 = .ok (.iinc 4 1, 3) := am_row (r := (43, .iinc 4 1, 3)) ro_Mod_at 23 rfl
theorem d_Mod_at_46 : decode prog_13_method_32_code 46 = .ok (.goto (-36), 3) := am_row (r := (46, .goto (-36), 3)) ro_Mod_at 24 rfl
theorem d_Mod_at_49 : decode prog_13_method_32_code 49 = .ok (.aload_n 0, 1) := am_row (r := (49, .aload_n 0, 1)) ro_Mod_at 25 rfl
theorem d_Mod_at_50 : decode prog_13_method_32_code 50 = .ok (.iconst 1, 1) := am_row (r := (50, .iconst 1, 1)) ro_Mod_at 26 rfl
theorem d_Mod_at_51 : decode prog_13_method_32_code 51 = .ok (.invokevirtual 75, 3) := am_row (r := (51, .invokevirtual 75, 3)) ro_Mod_at 27 rfl
theorem d_Mod_at_54 : decode prog_13_method_32_code 54 = .ok (.ireturn, 1) := am_row (r := (54, .ireturn, 1)) ro_Mod_at 28 rfl
abbrev y_Mod_edge : MethodName := ⟨"WheelDiscModel", "edge", "(I)I"⟩
theorem c_Mod_edge : Cond.code y_Mod_edge prog_13_method_33_code 2 (some .int) ∈ am_T := am_mem 1160 (by decide +kernel) rfl
def rw_Mod_edge : List (Nat × Instr × Nat) := [(0, .aload_n 0, 1), (1, .iconst 0, 1), (2, .putfield 62, 3), (5, .aload_n 0, 1), (6, .iload_n 1, 1), (7, .invokevirtual 133, 3), (10, .ifCond .ne 9, 3), (13, .aload_n 0, 1), (14, .iconst 1, 1), (15, .invokevirtual 75, 3), (18, .ireturn, 1), (19, .iconst 1, 1), (20, .aload_n 0, 1), (21, .iload_n 1, 1), (22, .invokevirtual 106, 3), (25, .aload_n 0, 1), (26, .iload_n 1, 1), (27, .iconst 1, 1), (28, .iadd, 1), (29, .aload_n 0, 1), (30, .invokevirtual 93, 3), (33, .irem, 1), (34, .invokevirtual 106, 3), (37, .ixor, 1), (38, .invokestatic 119, 3), (41, .ishl, 1), (42, .ireturn, 1)]
theorem ro_Mod_edge : rw_Mod_edge.all (fun r => decide (decode prog_13_method_33_code r.1 = .ok r.2)) = true := by decide +kernel
theorem d_Mod_edge_0 : decode prog_13_method_33_code 0 = .ok (.aload_n 0, 1) := am_row (r := (0, .aload_n 0, 1)) ro_Mod_edge 0 rfl
theorem d_Mod_edge_1 : decode prog_13_method_33_code 1 = .ok (.iconst 0, 1) := am_row (r := (1, .iconst 0, 1)) ro_Mod_edge 1 rfl
theorem d_Mod_edge_2 : decode prog_13_method_33_code 2 = .ok (.putfield 62, 3) := am_row (r := (2, .putfield 62, 3)) ro_Mod_edge 2 rfl
theorem d_Mod_edge_5 : decode prog_13_method_33_code 5 = .ok (.aload_n 0, 1) := am_row (r := (5, .aload_n 0, 1)) ro_Mod_edge 3 rfl
theorem d_Mod_edge_6 : decode prog_13_method_33_code 6 = .ok (.iload_n 1, 1) := am_row (r := (6, .iload_n 1, 1)) ro_Mod_edge 4 rfl
theorem d_Mod_edge_7 : decode prog_13_method_33_code 7 = .ok (.invokevirtual 133, 3) := am_row (r := (7, .invokevirtual 133, 3)) ro_Mod_edge 5 rfl
theorem d_Mod_edge_10 : decode prog_13_method_33_code 10 = .ok (.ifCond .ne 9, 3) := am_row (r := (10, .ifCond .ne 9, 3)) ro_Mod_edge 6 rfl
theorem d_Mod_edge_13 : decode prog_13_method_33_code 13 = .ok (.aload_n 0, 1) := am_row (r := (13, .aload_n 0, 1)) ro_Mod_edge 7 rfl
theorem d_Mod_edge_14 : decode prog_13_method_33_code 14 = .ok (.iconst 1, 1) := am_row (r := (14, .iconst 1, 1)) ro_Mod_edge 8 rfl
theorem d_Mod_edge_15 : decode prog_13_method_33_code 15 = .ok (.invokevirtual 75, 3) := am_row (r := (15, .invokevirtual 75, 3)) ro_Mod_edge 9 rfl
theorem d_Mod_edge_18 : decode prog_13_method_33_code 18 = .ok (.ireturn, 1) := am_row (r := (18, .ireturn, 1)) ro_Mod_edge 10 rfl
theorem d_Mod_edge_19 : decode prog_13_method_33_code 19 = .ok (.iconst 1, 1) := am_row (r := (19, .iconst 1, 1)) ro_Mod_edge 11 rfl
theorem d_Mod_edge_20 : decode prog_13_method_33_code 20 = .ok (.aload_n 0, 1) := am_row (r := (20, .aload_n 0, 1)) ro_Mod_edge 12 rfl
theorem d_Mod_edge_21 : decode prog_13_method_33_code 21 = .ok (.iload_n 1, 1) := am_row (r := (21, .iload_n 1, 1)) ro_Mod_edge 13 rfl
theorem d_Mod_edge_22 : decode prog_13_method_33_code 22 = .ok (.invokevirtual 106, 3) := am_row (r := (22, .invokevirtual 106, 3)) ro_Mod_edge 14 rfl
theorem d_Mod_edge_25 : decode prog_13_method_33_code 25 = .ok (.aload_n 0, 1) := am_row (r := (25, .aload_n 0, 1)) ro_Mod_edge 15 rfl
theorem d_Mod_edge_26 : decode prog_13_method_33_code 26 = .ok (.iload_n 1, 1) := am_row (r := (26, .iload_n 1, 1)) ro_Mod_edge 16 rfl
theorem d_Mod_edge_27 : decode prog_13_method_33_code 27 = .ok (.iconst 1, 1) := am_row (r := (27, .iconst 1, 1)) ro_Mod_edge 17 rfl
theorem d_Mod_edge_28 : decode prog_13_method_33_code 28 = .ok (.iadd, 1) := am_row (r := (28, .iadd, 1)) ro_Mod_edge 18 rfl
theorem d_Mod_edge_29 : decode prog_13_method_33_code 29 = .ok (.aload_n 0, 1) := am_row (r := (29, .aload_n 0, 1)) ro_Mod_edge 19 rfl
theorem d_Mod_edge_30 : decode prog_13_method_33_code 30 = .ok (.invokevirtual 93, 3) := am_row (r := (30, .invokevirtual 93, 3)) ro_Mod_edge 20 rfl
theorem d_Mod_edge_33 : decode prog_13_method_33_code 33 = .ok (.irem, 1) := am_row (r := (33, .irem, 1)) ro_Mod_edge 21 rfl
theorem d_Mod_edge_34 : decode prog_13_method_33_code 34 = .ok (.invokevirtual 106, 3) := am_row (r := (34, .invokevirtual 106, 3)) ro_Mod_edge 22 rfl
theorem d_Mod_edge_37 : decode prog_13_method_33_code 37 = .ok (.ixor, 1) := am_row (r := (37, .ixor, 1)) ro_Mod_edge 23 rfl
theorem d_Mod_edge_38 : decode prog_13_method_33_code 38 = .ok (.invokestatic 119, 3) := am_row (r := (38, .invokestatic 119, 3)) ro_Mod_edge 24 rfl
theorem d_Mod_edge_41 : decode prog_13_method_33_code 41 = .ok (.ishl, 1) := am_row (r := (41, .ishl, 1)) ro_Mod_edge 25 rfl
theorem d_Mod_edge_42 : decode prog_13_method_33_code 42 = .ok (.ireturn, 1) := am_row (r := (42, .ireturn, 1)) ro_Mod_edge 26 rfl
abbrev y_Mod_way : MethodName := ⟨"WheelDiscModel", "way", "(II)I"⟩
theorem c_Mod_way : Cond.code y_Mod_way prog_13_method_34_code 8 (some .int) ∈ am_T := am_mem 1164 (by decide +kernel) rfl
def rw_Mod_way : List (Nat × Instr × Nat) := [(0, .aload_n 0, 1), (1, .iconst 0, 1), (2, .putfield 62, 3), (5, .aload_n 0, 1), (6, .iload_n 1, 1), (7, .invokevirtual 133, 3), (10, .ifCond .ne 9, 3), (13, .aload_n 0, 1), (14, .iconst 1, 1), (15, .invokevirtual 75, 3), (18, .ireturn, 1), (19, .aload_n 0, 1), (20, .iload_n 1, 1), (21, .invokevirtual 106, 3), (24, .istore_n 3, 1), (25, .iload_n 3, 1), (26, .aload_n 0, 1), (27, .iload_n 1, 1), (28, .iconst 1, 1), (29, .iadd, 1), (30, .aload_n 0, 1), (31, .invokevirtual 93, 3), (34, .irem, 1), (35, .invokevirtual 106, 3), (38, .ixor, 1), (39, .istore 4, 2), (41, .iload_n 2, 1), (42, .ifCond .lt 14, 3), (45, .iload_n 2, 1), (46, .iconst 1, 1), (47, .iload 4, 2), (49, .invokestatic 119, 3), (52, .ishl, 1), (53, .if_icmp .lt 9, 3), (56, .aload_n 0, 1), (57, .iconst 1, 1), (58, .invokevirtual 75, 3), (61, .ireturn, 1), (62, .iload_n 3, 1), (63, .iload 4, 2), (65, .iconst (-1), 1), (66, .ixor, 1), (67, .iand, 1), (68, .istore 5, 2), (70, .iload_n 2, 1), (71, .istore 6, 2), (73, .iconst 0, 1), (74, .istore 7, 2), (76, .iload 7, 2), (78, .bipush 10, 2), (80, .if_icmp .ge 40, 3), (83, .iload 4, 2), (85, .iload 7, 2), (87, .ishr, 1), (88, .iconst 1, 1), (89, .iand, 1), (90, .ifCond .ne 6, 3), (93, .goto 21, 3), (96, .iload 5, 2), (98, .iload 6, 2), (100, .iconst 1, 1), (101, .iand, 1), (102, .iload 7, 2), (104, .ishl, 1), (105, .ior, 1), (106, .istore 5, 2), (108, .iload 6, 2), (110, .iconst 1, 1), (111, .ishr, 1), (112, .istore 6, 2), (114, .iinc 7 1, 3), (117, .goto (-41), 3), (120, .iload 5, 2), (122, .ireturn, 1)]
theorem ro_Mod_way : rw_Mod_way.all (fun r => decide (decode prog_13_method_34_code r.1 = .ok r.2)) = true := by decide +kernel
theorem d_Mod_way_0 : decode prog_13_method_34_code 0 = .ok (.aload_n 0, 1) := am_row (r := (0, .aload_n 0, 1)) ro_Mod_way 0 rfl
theorem d_Mod_way_1 : decode prog_13_method_34_code 1 = .ok (.iconst 0, 1) := am_row (r := (1, .iconst 0, 1)) ro_Mod_way 1 rfl
theorem d_Mod_way_2 : decode prog_13_method_34_code 2 = .ok (.putfield 62, 3) := am_row (r := (2, .putfield 62, 3)) ro_Mod_way 2 rfl
theorem d_Mod_way_5 : decode prog_13_method_34_code 5 = .ok (.aload_n 0, 1) := am_row (r := (5, .aload_n 0, 1)) ro_Mod_way 3 rfl
theorem d_Mod_way_6 : decode prog_13_method_34_code 6 = .ok (.iload_n 1, 1) := am_row (r := (6, .iload_n 1, 1)) ro_Mod_way 4 rfl
theorem d_Mod_way_7 : decode prog_13_method_34_code 7 = .ok (.invokevirtual 133, 3) := am_row (r := (7, .invokevirtual 133, 3)) ro_Mod_way 5 rfl
theorem d_Mod_way_10 : decode prog_13_method_34_code 10 = .ok (.ifCond .ne 9, 3) := am_row (r := (10, .ifCond .ne 9, 3)) ro_Mod_way 6 rfl
theorem d_Mod_way_13 : decode prog_13_method_34_code 13 = .ok (.aload_n 0, 1) := am_row (r := (13, .aload_n 0, 1)) ro_Mod_way 7 rfl
theorem d_Mod_way_14 : decode prog_13_method_34_code 14 = .ok (.iconst 1, 1) := am_row (r := (14, .iconst 1, 1)) ro_Mod_way 8 rfl
theorem d_Mod_way_15 : decode prog_13_method_34_code 15 = .ok (.invokevirtual 75, 3) := am_row (r := (15, .invokevirtual 75, 3)) ro_Mod_way 9 rfl
theorem d_Mod_way_18 : decode prog_13_method_34_code 18 = .ok (.ireturn, 1) := am_row (r := (18, .ireturn, 1)) ro_Mod_way 10 rfl
theorem d_Mod_way_19 : decode prog_13_method_34_code 19 = .ok (.aload_n 0, 1) := am_row (r := (19, .aload_n 0, 1)) ro_Mod_way 11 rfl
theorem d_Mod_way_20 : decode prog_13_method_34_code 20 = .ok (.iload_n 1, 1) := am_row (r := (20, .iload_n 1, 1)) ro_Mod_way 12 rfl
theorem d_Mod_way_21 : decode prog_13_method_34_code 21 = .ok (.invokevirtual 106, 3) := am_row (r := (21, .invokevirtual 106, 3)) ro_Mod_way 13 rfl
theorem d_Mod_way_24 : decode prog_13_method_34_code 24 = .ok (.istore_n 3, 1) := am_row (r := (24, .istore_n 3, 1)) ro_Mod_way 14 rfl
theorem d_Mod_way_25 : decode prog_13_method_34_code 25 = .ok (.iload_n 3, 1) := am_row (r := (25, .iload_n 3, 1)) ro_Mod_way 15 rfl
theorem d_Mod_way_26 : decode prog_13_method_34_code 26 = .ok (.aload_n 0, 1) := am_row (r := (26, .aload_n 0, 1)) ro_Mod_way 16 rfl
theorem d_Mod_way_27 : decode prog_13_method_34_code 27 = .ok (.iload_n 1, 1) := am_row (r := (27, .iload_n 1, 1)) ro_Mod_way 17 rfl
theorem d_Mod_way_28 : decode prog_13_method_34_code 28 = .ok (.iconst 1, 1) := am_row (r := (28, .iconst 1, 1)) ro_Mod_way 18 rfl
theorem d_Mod_way_29 : decode prog_13_method_34_code 29 = .ok (.iadd, 1) := am_row (r := (29, .iadd, 1)) ro_Mod_way 19 rfl
theorem d_Mod_way_30 : decode prog_13_method_34_code 30 = .ok (.aload_n 0, 1) := am_row (r := (30, .aload_n 0, 1)) ro_Mod_way 20 rfl
theorem d_Mod_way_31 : decode prog_13_method_34_code 31 = .ok (.invokevirtual 93, 3) := am_row (r := (31, .invokevirtual 93, 3)) ro_Mod_way 21 rfl
theorem d_Mod_way_34 : decode prog_13_method_34_code 34 = .ok (.irem, 1) := am_row (r := (34, .irem, 1)) ro_Mod_way 22 rfl
theorem d_Mod_way_35 : decode prog_13_method_34_code 35 = .ok (.invokevirtual 106, 3) := am_row (r := (35, .invokevirtual 106, 3)) ro_Mod_way 23 rfl
theorem d_Mod_way_38 : decode prog_13_method_34_code 38 = .ok (.ixor, 1) := am_row (r := (38, .ixor, 1)) ro_Mod_way 24 rfl
theorem d_Mod_way_39 : decode prog_13_method_34_code 39 = .ok (.istore 4, 2) := am_row (r := (39, .istore 4, 2)) ro_Mod_way 25 rfl
theorem d_Mod_way_41 : decode prog_13_method_34_code 41 = .ok (.iload_n 2, 1) := am_row (r := (41, .iload_n 2, 1)) ro_Mod_way 26 rfl
theorem d_Mod_way_42 : decode prog_13_method_34_code 42 = .ok (.ifCond .lt 14, 3) := am_row (r := (42, .ifCond .lt 14, 3)) ro_Mod_way 27 rfl
theorem d_Mod_way_45 : decode prog_13_method_34_code 45 = .ok (.iload_n 2, 1) := am_row (r := (45, .iload_n 2, 1)) ro_Mod_way 28 rfl
theorem d_Mod_way_46 : decode prog_13_method_34_code 46 = .ok (.iconst 1, 1) := am_row (r := (46, .iconst 1, 1)) ro_Mod_way 29 rfl
theorem d_Mod_way_47 : decode prog_13_method_34_code 47 = .ok (.iload 4, 2) := am_row (r := (47, .iload 4, 2)) ro_Mod_way 30 rfl
theorem d_Mod_way_49 : decode prog_13_method_34_code 49 = .ok (.invokestatic 119, 3) := am_row (r := (49, .invokestatic 119, 3)) ro_Mod_way 31 rfl
theorem d_Mod_way_52 : decode prog_13_method_34_code 52 = .ok (.ishl, 1) := am_row (r := (52, .ishl, 1)) ro_Mod_way 32 rfl
theorem d_Mod_way_53 : decode prog_13_method_34_code 53 = .ok (.if_icmp .lt 9, 3) := am_row (r := (53, .if_icmp .lt 9, 3)) ro_Mod_way 33 rfl
theorem d_Mod_way_56 : decode prog_13_method_34_code 56 = .ok (.aload_n 0, 1) := am_row (r := (56, .aload_n 0, 1)) ro_Mod_way 34 rfl
theorem d_Mod_way_57 : decode prog_13_method_34_code 57 = .ok (.iconst 1, 1) := am_row (r := (57, .iconst 1, 1)) ro_Mod_way 35 rfl
theorem d_Mod_way_58 : decode prog_13_method_34_code 58 = .ok (.invokevirtual 75, 3) := am_row (r := (58, .invokevirtual 75, 3)) ro_Mod_way 36 rfl
theorem d_Mod_way_61 : decode prog_13_method_34_code 61 = .ok (.ireturn, 1) := am_row (r := (61, .ireturn, 1)) ro_Mod_way 37 rfl
theorem d_Mod_way_62 : decode prog_13_method_34_code 62 = .ok (.iload_n 3, 1) := am_row (r := (62, .iload_n 3, 1)) ro_Mod_way 38 rfl
theorem d_Mod_way_63 : decode prog_13_method_34_code 63 = .ok (.iload 4, 2) := am_row (r := (63, .iload 4, 2)) ro_Mod_way 39 rfl
theorem d_Mod_way_65 : decode prog_13_method_34_code 65 = .ok (.iconst (-1), 1) := am_row (r := (65, .iconst (-1), 1)) ro_Mod_way 40 rfl
theorem d_Mod_way_66 : decode prog_13_method_34_code 66 = .ok (.ixor, 1) := am_row (r := (66, .ixor, 1)) ro_Mod_way 41 rfl
theorem d_Mod_way_67 : decode prog_13_method_34_code 67 = .ok (.iand, 1) := am_row (r := (67, .iand, 1)) ro_Mod_way 42 rfl
theorem d_Mod_way_68 : decode prog_13_method_34_code 68 = .ok (.istore 5, 2) := am_row (r := (68, .istore 5, 2)) ro_Mod_way 43 rfl
theorem d_Mod_way_70 : decode prog_13_method_34_code 70 = .ok (.iload_n 2, 1) := am_row (r := (70, .iload_n 2, 1)) ro_Mod_way 44 rfl
theorem d_Mod_way_71 : decode prog_13_method_34_code 71 = .ok (.istore 6, 2) := am_row (r := (71, .istore 6, 2)) ro_Mod_way 45 rfl
theorem d_Mod_way_73 : decode prog_13_method_34_code 73 = .ok (.iconst 0, 1) := am_row (r := (73, .iconst 0, 1)) ro_Mod_way 46 rfl
theorem d_Mod_way_74 : decode prog_13_method_34_code 74 = .ok (.istore 7, 2) := am_row (r := (74, .istore 7, 2)) ro_Mod_way 47 rfl
theorem d_Mod_way_76 : decode prog_13_method_34_code 76 = .ok (.iload 7, 2) := am_row (r := (76, .iload 7, 2)) ro_Mod_way 48 rfl
theorem d_Mod_way_78 : decode prog_13_method_34_code 78 = .ok (.bipush 10, 2) := am_row (r := (78, .bipush 10, 2)) ro_Mod_way 49 rfl
theorem d_Mod_way_80 : decode prog_13_method_34_code 80 = .ok (.if_icmp .ge 40, 3) := am_row (r := (80, .if_icmp .ge 40, 3)) ro_Mod_way 50 rfl
theorem d_Mod_way_83 : decode prog_13_method_34_code 83 = .ok (.iload 4, 2) := am_row (r := (83, .iload 4, 2)) ro_Mod_way 51 rfl
theorem d_Mod_way_85 : decode prog_13_method_34_code 85 = .ok (.iload 7, 2) := am_row (r := (85, .iload 7, 2)) ro_Mod_way 52 rfl
theorem d_Mod_way_87 : decode prog_13_method_34_code 87 = .ok (.ishr, 1) := am_row (r := (87, .ishr, 1)) ro_Mod_way 53 rfl
theorem d_Mod_way_88 : decode prog_13_method_34_code 88 = .ok (.iconst 1, 1) := am_row (r := (88, .iconst 1, 1)) ro_Mod_way 54 rfl
theorem d_Mod_way_89 : decode prog_13_method_34_code 89 = .ok (.iand, 1) := am_row (r := (89, .iand, 1)) ro_Mod_way 55 rfl
theorem d_Mod_way_90 : decode prog_13_method_34_code 90 = .ok (.ifCond .ne 6, 3) := am_row (r := (90, .ifCond .ne 6, 3)) ro_Mod_way 56 rfl
theorem d_Mod_way_93 : decode prog_13_method_34_code 93 = .ok (.goto 21, 3) := am_row (r := (93, .goto 21, 3)) ro_Mod_way 57 rfl
theorem d_Mod_way_96 : decode prog_13_method_34_code 96 = .ok (.iload 5, 2) := am_row (r := (96, .iload 5, 2)) ro_Mod_way 58 rfl
theorem d_Mod_way_98 : decode prog_13_method_34_code 98 = .ok (.iload 6, 2) := am_row (r := (98, .iload 6, 2)) ro_Mod_way 59 rfl
theorem d_Mod_way_100 : decode prog_13_method_34_code 100 = .ok (.iconst 1, 1) := am_row (r := (100, .iconst 1, 1)) ro_Mod_way 60 rfl
theorem d_Mod_way_101 : decode prog_13_method_34_code 101 = .ok (.iand, 1) := am_row (r := (101, .iand, 1)) ro_Mod_way 61 rfl
theorem d_Mod_way_102 : decode prog_13_method_34_code 102 = .ok (.iload 7, 2) := am_row (r := (102, .iload 7, 2)) ro_Mod_way 62 rfl
theorem d_Mod_way_104 : decode prog_13_method_34_code 104 = .ok (.ishl, 1) := am_row (r := (104, .ishl, 1)) ro_Mod_way 63 rfl
theorem d_Mod_way_105 : decode prog_13_method_34_code 105 = .ok (.ior, 1) := am_row (r := (105, .ior, 1)) ro_Mod_way 64 rfl
theorem d_Mod_way_106 : decode prog_13_method_34_code 106 = .ok (.istore 5, 2) := am_row (r := (106, .istore 5, 2)) ro_Mod_way 65 rfl
theorem d_Mod_way_108 : decode prog_13_method_34_code 108 = .ok (.iload 6, 2) := am_row (r := (108, .iload 6, 2)) ro_Mod_way 66 rfl
theorem d_Mod_way_110 : decode prog_13_method_34_code 110 = .ok (.iconst 1, 1) := am_row (r := (110, .iconst 1, 1)) ro_Mod_way 67 rfl
theorem d_Mod_way_111 : decode prog_13_method_34_code 111 = .ok (.ishr, 1) := am_row (r := (111, .ishr, 1)) ro_Mod_way 68 rfl
theorem d_Mod_way_112 : decode prog_13_method_34_code 112 = .ok (.istore 6, 2) := am_row (r := (112, .istore 6, 2)) ro_Mod_way 69 rfl
theorem d_Mod_way_114 : decode prog_13_method_34_code 114 = .ok (.iinc 7 1, 3) := am_row (r := (114, .iinc 7 1, 3)) ro_Mod_way 70 rfl
theorem d_Mod_way_117 : decode prog_13_method_34_code 117 = .ok (.goto (-41), 3) := am_row (r := (117, .goto (-41), 3)) ro_Mod_way 71 rfl
theorem d_Mod_way_120 : decode prog_13_method_34_code 120 = .ok (.iload 5, 2) := am_row (r := (120, .iload 5, 2)) ro_Mod_way 72 rfl
theorem d_Mod_way_122 : decode prog_13_method_34_code 122 = .ok (.ireturn, 1) := am_row (r := (122, .ireturn, 1)) ro_Mod_way 73 rfl
abbrev y_Mod_fewest : MethodName := ⟨"WheelDiscModel", "fewest", "()I"⟩
theorem c_Mod_fewest : Cond.code y_Mod_fewest prog_13_method_35_code 5 (some .int) ∈ am_T := am_mem 1168 (by decide +kernel) rfl
def rw_Mod_fewest : List (Nat × Instr × Nat) := [(0, .aload_n 0, 1), (1, .iconst 0, 1), (2, .putfield 62, 3), (5, .aload_n 0, 1), (6, .invokevirtual 93, 3), (9, .iconst 1, 1), (10, .if_icmp .ne 5, 3), (13, .iconst (-1), 1), (14, .ireturn, 1), (15, .aload_n 0, 1), (16, .invokevirtual 109, 3), (19, .bipush 99, 2), (21, .istore_n 1, 1), (22, .iconst 0, 1), (23, .istore_n 2, 1), (24, .iload_n 2, 1), (25, .aload_n 0, 1), (26, .invokevirtual 93, 3), (29, .if_icmp .ge 58, 3), (32, .iload_n 2, 1), (33, .iconst 1, 1), (34, .iadd, 1), (35, .istore_n 3, 1), (36, .iload_n 3, 1), (37, .aload_n 0, 1), (38, .invokevirtual 93, 3), (41, .if_icmp .ge 40, 3), (44, .aload_n 0, 1), (45, .getfield 38, 3), (48, .iload_n 2, 1), (49, .iaload, 1), (50, .aload_n 0, 1), (51, .getfield 38, 3), (54, .iload_n 3, 1), (55, .iaload, 1), (56, .ixor, 1), (57, .invokestatic 119, 3), (60, .istore 4, 2), (62, .iload 4, 2), (64, .iload_n 1, 1), (65, .if_icmp .ge 8, 3), (68, .iload 4, 2), (70, .goto 4, 3), (73, .iload_n 1, 1), (74, .istore_n 1, 1), (75, .iinc 3 1, 3), (78, .goto (-42), 3), (81, .iinc 2 1, 3), (84, .goto (-60), 3), (87, .iload_n 1, 1), (88, .ireturn, 1)]
theorem ro_Mod_fewest : rw_Mod_fewest.all (fun r => decide (decode prog_13_method_35_code r.1 = .ok r.2)) = true := by decide +kernel
theorem d_Mod_fewest_0 : decode prog_13_method_35_code 0 = .ok (.aload_n 0, 1) := am_row (r := (0, .aload_n 0, 1)) ro_Mod_fewest 0 rfl
theorem d_Mod_fewest_1 : decode prog_13_method_35_code 1 = .ok (.iconst 0, 1) := am_row (r := (1, .iconst 0, 1)) ro_Mod_fewest 1 rfl
theorem d_Mod_fewest_2 : decode prog_13_method_35_code 2 = .ok (.putfield 62, 3) := am_row (r := (2, .putfield 62, 3)) ro_Mod_fewest 2 rfl
theorem d_Mod_fewest_5 : decode prog_13_method_35_code 5 = .ok (.aload_n 0, 1) := am_row (r := (5, .aload_n 0, 1)) ro_Mod_fewest 3 rfl
theorem d_Mod_fewest_6 : decode prog_13_method_35_code 6 = .ok (.invokevirtual 93, 3) := am_row (r := (6, .invokevirtual 93, 3)) ro_Mod_fewest 4 rfl
theorem d_Mod_fewest_9 : decode prog_13_method_35_code 9 = .ok (.iconst 1, 1) := am_row (r := (9, .iconst 1, 1)) ro_Mod_fewest 5 rfl
theorem d_Mod_fewest_10 : decode prog_13_method_35_code 10 = .ok (.if_icmp .ne 5, 3) := am_row (r := (10, .if_icmp .ne 5, 3)) ro_Mod_fewest 6 rfl
theorem d_Mod_fewest_13 : decode prog_13_method_35_code 13 = .ok (.iconst (-1), 1) := am_row (r := (13, .iconst (-1), 1)) ro_Mod_fewest 7 rfl
theorem d_Mod_fewest_14 : decode prog_13_method_35_code 14 = .ok (.ireturn, 1) := am_row (r := (14, .ireturn, 1)) ro_Mod_fewest 8 rfl
theorem d_Mod_fewest_15 : decode prog_13_method_35_code 15 = .ok (.aload_n 0, 1) := am_row (r := (15, .aload_n 0, 1)) ro_Mod_fewest 9 rfl
theorem d_Mod_fewest_16 : decode prog_13_method_35_code 16 = .ok (.invokevirtual 109, 3) := am_row (r := (16, .invokevirtual 109, 3)) ro_Mod_fewest 10 rfl
theorem d_Mod_fewest_19 : decode prog_13_method_35_code 19 = .ok (.bipush 99, 2) := am_row (r := (19, .bipush 99, 2)) ro_Mod_fewest 11 rfl
theorem d_Mod_fewest_21 : decode prog_13_method_35_code 21 = .ok (.istore_n 1, 1) := am_row (r := (21, .istore_n 1, 1)) ro_Mod_fewest 12 rfl
theorem d_Mod_fewest_22 : decode prog_13_method_35_code 22 = .ok (.iconst 0, 1) := am_row (r := (22, .iconst 0, 1)) ro_Mod_fewest 13 rfl
theorem d_Mod_fewest_23 : decode prog_13_method_35_code 23 = .ok (.istore_n 2, 1) := am_row (r := (23, .istore_n 2, 1)) ro_Mod_fewest 14 rfl
theorem d_Mod_fewest_24 : decode prog_13_method_35_code 24 = .ok (.iload_n 2, 1) := am_row (r := (24, .iload_n 2, 1)) ro_Mod_fewest 15 rfl
theorem d_Mod_fewest_25 : decode prog_13_method_35_code 25 = .ok (.aload_n 0, 1) := am_row (r := (25, .aload_n 0, 1)) ro_Mod_fewest 16 rfl
theorem d_Mod_fewest_26 : decode prog_13_method_35_code 26 = .ok (.invokevirtual 93, 3) := am_row (r := (26, .invokevirtual 93, 3)) ro_Mod_fewest 17 rfl
theorem d_Mod_fewest_29 : decode prog_13_method_35_code 29 = .ok (.if_icmp .ge 58, 3) := am_row (r := (29, .if_icmp .ge 58, 3)) ro_Mod_fewest 18 rfl
theorem d_Mod_fewest_32 : decode prog_13_method_35_code 32 = .ok (.iload_n 2, 1) := am_row (r := (32, .iload_n 2, 1)) ro_Mod_fewest 19 rfl
theorem d_Mod_fewest_33 : decode prog_13_method_35_code 33 = .ok (.iconst 1, 1) := am_row (r := (33, .iconst 1, 1)) ro_Mod_fewest 20 rfl
theorem d_Mod_fewest_34 : decode prog_13_method_35_code 34 = .ok (.iadd, 1) := am_row (r := (34, .iadd, 1)) ro_Mod_fewest 21 rfl
theorem d_Mod_fewest_35 : decode prog_13_method_35_code 35 = .ok (.istore_n 3, 1) := am_row (r := (35, .istore_n 3, 1)) ro_Mod_fewest 22 rfl
theorem d_Mod_fewest_36 : decode prog_13_method_35_code 36 = .ok (.iload_n 3, 1) := am_row (r := (36, .iload_n 3, 1)) ro_Mod_fewest 23 rfl
theorem d_Mod_fewest_37 : decode prog_13_method_35_code 37 = .ok (.aload_n 0, 1) := am_row (r := (37, .aload_n 0, 1)) ro_Mod_fewest 24 rfl
theorem d_Mod_fewest_38 : decode prog_13_method_35_code 38 = .ok (.invokevirtual 93, 3) := am_row (r := (38, .invokevirtual 93, 3)) ro_Mod_fewest 25 rfl
theorem d_Mod_fewest_41 : decode prog_13_method_35_code 41 = .ok (.if_icmp .ge 40, 3) := am_row (r := (41, .if_icmp .ge 40, 3)) ro_Mod_fewest 26 rfl
theorem d_Mod_fewest_44 : decode prog_13_method_35_code 44 = .ok (.aload_n 0, 1) := am_row (r := (44, .aload_n 0, 1)) ro_Mod_fewest 27 rfl
theorem d_Mod_fewest_45 : decode prog_13_method_35_code 45 = .ok (.getfield 38, 3) := am_row (r := (45, .getfield 38, 3)) ro_Mod_fewest 28 rfl
theorem d_Mod_fewest_48 : decode prog_13_method_35_code 48 = .ok (.iload_n 2, 1) := am_row (r := (48, .iload_n 2, 1)) ro_Mod_fewest 29 rfl
theorem d_Mod_fewest_49 : decode prog_13_method_35_code 49 = .ok (.iaload, 1) := am_row (r := (49, .iaload, 1)) ro_Mod_fewest 30 rfl
theorem d_Mod_fewest_50 : decode prog_13_method_35_code 50 = .ok (.aload_n 0, 1) := am_row (r := (50, .aload_n 0, 1)) ro_Mod_fewest 31 rfl
theorem d_Mod_fewest_51 : decode prog_13_method_35_code 51 = .ok (.getfield 38, 3) := am_row (r := (51, .getfield 38, 3)) ro_Mod_fewest 32 rfl
theorem d_Mod_fewest_54 : decode prog_13_method_35_code 54 = .ok (.iload_n 3, 1) := am_row (r := (54, .iload_n 3, 1)) ro_Mod_fewest 33 rfl
theorem d_Mod_fewest_55 : decode prog_13_method_35_code 55 = .ok (.iaload, 1) := am_row (r := (55, .iaload, 1)) ro_Mod_fewest 34 rfl
theorem d_Mod_fewest_56 : decode prog_13_method_35_code 56 = .ok (.ixor, 1) := am_row (r := (56, .ixor, 1)) ro_Mod_fewest 35 rfl
theorem d_Mod_fewest_57 : decode prog_13_method_35_code 57 = .ok (.invokestatic 119, 3) := am_row (r := (57, .invokestatic 119, 3)) ro_Mod_fewest 36 rfl
theorem d_Mod_fewest_60 : decode prog_13_method_35_code 60 = .ok (.istore 4, 2) := am_row (r := (60, .istore 4, 2)) ro_Mod_fewest 37 rfl
theorem d_Mod_fewest_62 : decode prog_13_method_35_code 62 = .ok (.iload 4, 2) := am_row (r := (62, .iload 4, 2)) ro_Mod_fewest 38 rfl
theorem d_Mod_fewest_64 : decode prog_13_method_35_code 64 = .ok (.iload_n 1, 1) := am_row (r := (64, .iload_n 1, 1)) ro_Mod_fewest 39 rfl
theorem d_Mod_fewest_65 : decode prog_13_method_35_code 65 = .ok (.if_icmp .ge 8, 3) := am_row (r := (65, .if_icmp .ge 8, 3)) ro_Mod_fewest 40 rfl
theorem d_Mod_fewest_68 : decode prog_13_method_35_code 68 = .ok (.iload 4, 2) := am_row (r := (68, .iload 4, 2)) ro_Mod_fewest 41 rfl
theorem d_Mod_fewest_70 : decode prog_13_method_35_code 70 = .ok (.goto 4, 3) := am_row (r := (70, .goto 4, 3)) ro_Mod_fewest 42 rfl
theorem d_Mod_fewest_73 : decode prog_13_method_35_code 73 = .ok (.iload_n 1, 1) := am_row (r := (73, .iload_n 1, 1)) ro_Mod_fewest 43 rfl
theorem d_Mod_fewest_74 : decode prog_13_method_35_code 74 = .ok (.istore_n 1, 1) := am_row (r := (74, .istore_n 1, 1)) ro_Mod_fewest 44 rfl
theorem d_Mod_fewest_75 : decode prog_13_method_35_code 75 = .ok (.iinc 3 1, 3) := am_row (r := (75, .iinc 3 1, 3)) ro_Mod_fewest 45 rfl
theorem d_Mod_fewest_78 : decode prog_13_method_35_code 78 = .ok (.goto (-42), 3) := am_row (r := (78, .goto (-42), 3)) ro_Mod_fewest 46 rfl
theorem d_Mod_fewest_81 : decode prog_13_method_35_code 81 = .ok (.iinc 2 1, 3) := am_row (r := (81, .iinc 2 1, 3)) ro_Mod_fewest 47 rfl
theorem d_Mod_fewest_84 : decode prog_13_method_35_code 84 = .ok (.goto (-60), 3) := am_row (r := (84, .goto (-60), 3)) ro_Mod_fewest 48 rfl
theorem d_Mod_fewest_87 : decode prog_13_method_35_code 87 = .ok (.iload_n 1, 1) := am_row (r := (87, .iload_n 1, 1)) ro_Mod_fewest 49 rfl
theorem d_Mod_fewest_88 : decode prog_13_method_35_code 88 = .ok (.ireturn, 1) := am_row (r := (88, .ireturn, 1)) ro_Mod_fewest 50 rfl
abbrev y_Mod_blind : MethodName := ⟨"WheelDiscModel", "blind", "()I"⟩
theorem c_Mod_blind : Cond.code y_Mod_blind prog_13_method_36_code 3 (some .int) ∈ am_T := am_mem 1172 (by decide +kernel) rfl
def rw_Mod_blind : List (Nat × Instr × Nat) := [(0, .aload_n 0, 1), (1, .iconst 0, 1), (2, .putfield 62, 3), (5, .aload_n 0, 1), (6, .invokevirtual 109, 3), (9, .aload_n 0, 1), (10, .aload_n 0, 1), (11, .invokevirtual 112, 3), (14, .invokevirtual 115, 3), (17, .ifCond .ne 5, 3), (20, .iconst 0, 1), (21, .ireturn, 1), (22, .iconst 0, 1), (23, .istore_n 1, 1), (24, .iconst 0, 1), (25, .istore_n 2, 1), (26, .iload_n 2, 1), (27, .aload_n 0, 1), (28, .invokevirtual 96, 3), (31, .if_icmp .ge 32, 3), (34, .aload_n 0, 1), (35, .aload_n 0, 1), (36, .invokevirtual 112, 3), (39, .iconst 1, 1), (40, .iload_n 2, 1), (41, .ishl, 1), (42, .iconst (-1), 1), (43, .ixor, 1), (44, .iand, 1), (45, .invokevirtual 115, 3), (48, .ifCond .eq 9, 3), (51, .iload_n 1, 1), (52, .iconst 1, 1), (53, .iload_n 2, 1), (54, .ishl, 1), (55, .ior, 1), (56, .istore_n 1, 1), (57, .iinc 2 1, 3), (60, .goto (-34), 3), (63, .iload_n 1, 1), (64, .ireturn, 1)]
theorem ro_Mod_blind : rw_Mod_blind.all (fun r => decide (decode prog_13_method_36_code r.1 = .ok r.2)) = true := by decide +kernel
theorem d_Mod_blind_0 : decode prog_13_method_36_code 0 = .ok (.aload_n 0, 1) := am_row (r := (0, .aload_n 0, 1)) ro_Mod_blind 0 rfl
theorem d_Mod_blind_1 : decode prog_13_method_36_code 1 = .ok (.iconst 0, 1) := am_row (r := (1, .iconst 0, 1)) ro_Mod_blind 1 rfl
theorem d_Mod_blind_2 : decode prog_13_method_36_code 2 = .ok (.putfield 62, 3) := am_row (r := (2, .putfield 62, 3)) ro_Mod_blind 2 rfl
theorem d_Mod_blind_5 : decode prog_13_method_36_code 5 = .ok (.aload_n 0, 1) := am_row (r := (5, .aload_n 0, 1)) ro_Mod_blind 3 rfl
theorem d_Mod_blind_6 : decode prog_13_method_36_code 6 = .ok (.invokevirtual 109, 3) := am_row (r := (6, .invokevirtual 109, 3)) ro_Mod_blind 4 rfl
theorem d_Mod_blind_9 : decode prog_13_method_36_code 9 = .ok (.aload_n 0, 1) := am_row (r := (9, .aload_n 0, 1)) ro_Mod_blind 5 rfl
theorem d_Mod_blind_10 : decode prog_13_method_36_code 10 = .ok (.aload_n 0, 1) := am_row (r := (10, .aload_n 0, 1)) ro_Mod_blind 6 rfl
theorem d_Mod_blind_11 : decode prog_13_method_36_code 11 = .ok (.invokevirtual 112, 3) := am_row (r := (11, .invokevirtual 112, 3)) ro_Mod_blind 7 rfl
theorem d_Mod_blind_14 : decode prog_13_method_36_code 14 = .ok (.invokevirtual 115, 3) := am_row (r := (14, .invokevirtual 115, 3)) ro_Mod_blind 8 rfl
theorem d_Mod_blind_17 : decode prog_13_method_36_code 17 = .ok (.ifCond .ne 5, 3) := am_row (r := (17, .ifCond .ne 5, 3)) ro_Mod_blind 9 rfl
theorem d_Mod_blind_20 : decode prog_13_method_36_code 20 = .ok (.iconst 0, 1) := am_row (r := (20, .iconst 0, 1)) ro_Mod_blind 10 rfl
theorem d_Mod_blind_21 : decode prog_13_method_36_code 21 = .ok (.ireturn, 1) := am_row (r := (21, .ireturn, 1)) ro_Mod_blind 11 rfl
theorem d_Mod_blind_22 : decode prog_13_method_36_code 22 = .ok (.iconst 0, 1) := am_row (r := (22, .iconst 0, 1)) ro_Mod_blind 12 rfl
theorem d_Mod_blind_23 : decode prog_13_method_36_code 23 = .ok (.istore_n 1, 1) := am_row (r := (23, .istore_n 1, 1)) ro_Mod_blind 13 rfl
theorem d_Mod_blind_24 : decode prog_13_method_36_code 24 = .ok (.iconst 0, 1) := am_row (r := (24, .iconst 0, 1)) ro_Mod_blind 14 rfl
theorem d_Mod_blind_25 : decode prog_13_method_36_code 25 = .ok (.istore_n 2, 1) := am_row (r := (25, .istore_n 2, 1)) ro_Mod_blind 15 rfl
theorem d_Mod_blind_26 : decode prog_13_method_36_code 26 = .ok (.iload_n 2, 1) := am_row (r := (26, .iload_n 2, 1)) ro_Mod_blind 16 rfl
theorem d_Mod_blind_27 : decode prog_13_method_36_code 27 = .ok (.aload_n 0, 1) := am_row (r := (27, .aload_n 0, 1)) ro_Mod_blind 17 rfl
theorem d_Mod_blind_28 : decode prog_13_method_36_code 28 = .ok (.invokevirtual 96, 3) := am_row (r := (28, .invokevirtual 96, 3)) ro_Mod_blind 18 rfl
theorem d_Mod_blind_31 : decode prog_13_method_36_code 31 = .ok (.if_icmp .ge 32, 3) := am_row (r := (31, .if_icmp .ge 32, 3)) ro_Mod_blind 19 rfl
theorem d_Mod_blind_34 : decode prog_13_method_36_code 34 = .ok (.aload_n 0, 1) := am_row (r := (34, .aload_n 0, 1)) ro_Mod_blind 20 rfl
theorem d_Mod_blind_35 : decode prog_13_method_36_code 35 = .ok (.aload_n 0, 1) := am_row (r := (35, .aload_n 0, 1)) ro_Mod_blind 21 rfl
theorem d_Mod_blind_36 : decode prog_13_method_36_code 36 = .ok (.invokevirtual 112, 3) := am_row (r := (36, .invokevirtual 112, 3)) ro_Mod_blind 22 rfl
theorem d_Mod_blind_39 : decode prog_13_method_36_code 39 = .ok (.iconst 1, 1) := am_row (r := (39, .iconst 1, 1)) ro_Mod_blind 23 rfl
theorem d_Mod_blind_40 : decode prog_13_method_36_code 40 = .ok (.iload_n 2, 1) := am_row (r := (40, .iload_n 2, 1)) ro_Mod_blind 24 rfl
theorem d_Mod_blind_41 : decode prog_13_method_36_code 41 = .ok (.ishl, 1) := am_row (r := (41, .ishl, 1)) ro_Mod_blind 25 rfl
theorem d_Mod_blind_42 : decode prog_13_method_36_code 42 = .ok (.iconst (-1), 1) := am_row (r := (42, .iconst (-1), 1)) ro_Mod_blind 26 rfl
theorem d_Mod_blind_43 : decode prog_13_method_36_code 43 = .ok (.ixor, 1) := am_row (r := (43, .ixor, 1)) ro_Mod_blind 27 rfl
theorem d_Mod_blind_44 : decode prog_13_method_36_code 44 = .ok (.iand, 1) := am_row (r := (44, .iand, 1)) ro_Mod_blind 28 rfl
theorem d_Mod_blind_45 : decode prog_13_method_36_code 45 = .ok (.invokevirtual 115, 3) := am_row (r := (45, .invokevirtual 115, 3)) ro_Mod_blind 29 rfl
theorem d_Mod_blind_48 : decode prog_13_method_36_code 48 = .ok (.ifCond .eq 9, 3) := am_row (r := (48, .ifCond .eq 9, 3)) ro_Mod_blind 30 rfl
theorem d_Mod_blind_51 : decode prog_13_method_36_code 51 = .ok (.iload_n 1, 1) := am_row (r := (51, .iload_n 1, 1)) ro_Mod_blind 31 rfl
theorem d_Mod_blind_52 : decode prog_13_method_36_code 52 = .ok (.iconst 1, 1) := am_row (r := (52, .iconst 1, 1)) ro_Mod_blind 32 rfl
theorem d_Mod_blind_53 : decode prog_13_method_36_code 53 = .ok (.iload_n 2, 1) := am_row (r := (53, .iload_n 2, 1)) ro_Mod_blind 33 rfl
theorem d_Mod_blind_54 : decode prog_13_method_36_code 54 = .ok (.ishl, 1) := am_row (r := (54, .ishl, 1)) ro_Mod_blind 34 rfl
theorem d_Mod_blind_55 : decode prog_13_method_36_code 55 = .ok (.ior, 1) := am_row (r := (55, .ior, 1)) ro_Mod_blind 35 rfl
theorem d_Mod_blind_56 : decode prog_13_method_36_code 56 = .ok (.istore_n 1, 1) := am_row (r := (56, .istore_n 1, 1)) ro_Mod_blind 36 rfl
theorem d_Mod_blind_57 : decode prog_13_method_36_code 57 = .ok (.iinc 2 1, 3) := am_row (r := (57, .iinc 2 1, 3)) ro_Mod_blind 37 rfl
theorem d_Mod_blind_60 : decode prog_13_method_36_code 60 = .ok (.goto (-34), 3) := am_row (r := (60, .goto (-34), 3)) ro_Mod_blind 38 rfl
theorem d_Mod_blind_63 : decode prog_13_method_36_code 63 = .ok (.iload_n 1, 1) := am_row (r := (63, .iload_n 1, 1)) ro_Mod_blind 39 rfl
theorem d_Mod_blind_64 : decode prog_13_method_36_code 64 = .ok (.ireturn, 1) := am_row (r := (64, .ireturn, 1)) ro_Mod_blind 40 rfl
abbrev y_Mod_spare : MethodName := ⟨"WheelDiscModel", "spare", "()I"⟩
theorem c_Mod_spare : Cond.code y_Mod_spare prog_13_method_37_code 3 (some .int) ∈ am_T := am_mem 1176 (by decide +kernel) rfl
def rw_Mod_spare : List (Nat × Instr × Nat) := [(0, .aload_n 0, 1), (1, .iconst 0, 1), (2, .putfield 62, 3), (5, .aload_n 0, 1), (6, .invokevirtual 109, 3), (9, .aload_n 0, 1), (10, .aload_n 0, 1), (11, .invokevirtual 112, 3), (14, .invokevirtual 115, 3), (17, .ifCond .ne 5, 3), (20, .iconst 0, 1), (21, .ireturn, 1), (22, .iconst 0, 1), (23, .istore_n 1, 1), (24, .iconst 0, 1), (25, .istore_n 2, 1), (26, .iload_n 2, 1), (27, .aload_n 0, 1), (28, .invokevirtual 96, 3), (31, .if_icmp .ge 36, 3), (34, .aload_n 0, 1), (35, .aload_n 0, 1), (36, .invokevirtual 112, 3), (39, .iload_n 1, 1), (40, .iconst (-1), 1), (41, .ixor, 1), (42, .iand, 1), (43, .iconst 1, 1), (44, .iload_n 2, 1), (45, .ishl, 1), (46, .iconst (-1), 1), (47, .ixor, 1), (48, .iand, 1), (49, .invokevirtual 115, 3), (52, .ifCond .eq 9, 3), (55, .iload_n 1, 1), (56, .iconst 1, 1), (57, .iload_n 2, 1), (58, .ishl, 1), (59, .ior, 1), (60, .istore_n 1, 1), (61, .iinc 2 1, 3), (64, .goto (-38), 3), (67, .iload_n 1, 1), (68, .ireturn, 1)]
theorem ro_Mod_spare : rw_Mod_spare.all (fun r => decide (decode prog_13_method_37_code r.1 = .ok r.2)) = true := by decide +kernel
theorem d_Mod_spare_0 : decode prog_13_method_37_code 0 = .ok (.aload_n 0, 1) := am_row (r := (0, .aload_n 0, 1)) ro_Mod_spare 0 rfl
theorem d_Mod_spare_1 : decode prog_13_method_37_code 1 = .ok (.iconst 0, 1) := am_row (r := (1, .iconst 0, 1)) ro_Mod_spare 1 rfl
theorem d_Mod_spare_2 : decode prog_13_method_37_code 2 = .ok (.putfield 62, 3) := am_row (r := (2, .putfield 62, 3)) ro_Mod_spare 2 rfl
theorem d_Mod_spare_5 : decode prog_13_method_37_code 5 = .ok (.aload_n 0, 1) := am_row (r := (5, .aload_n 0, 1)) ro_Mod_spare 3 rfl
theorem d_Mod_spare_6 : decode prog_13_method_37_code 6 = .ok (.invokevirtual 109, 3) := am_row (r := (6, .invokevirtual 109, 3)) ro_Mod_spare 4 rfl
theorem d_Mod_spare_9 : decode prog_13_method_37_code 9 = .ok (.aload_n 0, 1) := am_row (r := (9, .aload_n 0, 1)) ro_Mod_spare 5 rfl
theorem d_Mod_spare_10 : decode prog_13_method_37_code 10 = .ok (.aload_n 0, 1) := am_row (r := (10, .aload_n 0, 1)) ro_Mod_spare 6 rfl
theorem d_Mod_spare_11 : decode prog_13_method_37_code 11 = .ok (.invokevirtual 112, 3) := am_row (r := (11, .invokevirtual 112, 3)) ro_Mod_spare 7 rfl
theorem d_Mod_spare_14 : decode prog_13_method_37_code 14 = .ok (.invokevirtual 115, 3) := am_row (r := (14, .invokevirtual 115, 3)) ro_Mod_spare 8 rfl
theorem d_Mod_spare_17 : decode prog_13_method_37_code 17 = .ok (.ifCond .ne 5, 3) := am_row (r := (17, .ifCond .ne 5, 3)) ro_Mod_spare 9 rfl
theorem d_Mod_spare_20 : decode prog_13_method_37_code 20 = .ok (.iconst 0, 1) := am_row (r := (20, .iconst 0, 1)) ro_Mod_spare 10 rfl
theorem d_Mod_spare_21 : decode prog_13_method_37_code 21 = .ok (.ireturn, 1) := am_row (r := (21, .ireturn, 1)) ro_Mod_spare 11 rfl
theorem d_Mod_spare_22 : decode prog_13_method_37_code 22 = .ok (.iconst 0, 1) := am_row (r := (22, .iconst 0, 1)) ro_Mod_spare 12 rfl
theorem d_Mod_spare_23 : decode prog_13_method_37_code 23 = .ok (.istore_n 1, 1) := am_row (r := (23, .istore_n 1, 1)) ro_Mod_spare 13 rfl
theorem d_Mod_spare_24 : decode prog_13_method_37_code 24 = .ok (.iconst 0, 1) := am_row (r := (24, .iconst 0, 1)) ro_Mod_spare 14 rfl
theorem d_Mod_spare_25 : decode prog_13_method_37_code 25 = .ok (.istore_n 2, 1) := am_row (r := (25, .istore_n 2, 1)) ro_Mod_spare 15 rfl
theorem d_Mod_spare_26 : decode prog_13_method_37_code 26 = .ok (.iload_n 2, 1) := am_row (r := (26, .iload_n 2, 1)) ro_Mod_spare 16 rfl
theorem d_Mod_spare_27 : decode prog_13_method_37_code 27 = .ok (.aload_n 0, 1) := am_row (r := (27, .aload_n 0, 1)) ro_Mod_spare 17 rfl
theorem d_Mod_spare_28 : decode prog_13_method_37_code 28 = .ok (.invokevirtual 96, 3) := am_row (r := (28, .invokevirtual 96, 3)) ro_Mod_spare 18 rfl
theorem d_Mod_spare_31 : decode prog_13_method_37_code 31 = .ok (.if_icmp .ge 36, 3) := am_row (r := (31, .if_icmp .ge 36, 3)) ro_Mod_spare 19 rfl
theorem d_Mod_spare_34 : decode prog_13_method_37_code 34 = .ok (.aload_n 0, 1) := am_row (r := (34, .aload_n 0, 1)) ro_Mod_spare 20 rfl
theorem d_Mod_spare_35 : decode prog_13_method_37_code 35 = .ok (.aload_n 0, 1) := am_row (r := (35, .aload_n 0, 1)) ro_Mod_spare 21 rfl
theorem d_Mod_spare_36 : decode prog_13_method_37_code 36 = .ok (.invokevirtual 112, 3) := am_row (r := (36, .invokevirtual 112, 3)) ro_Mod_spare 22 rfl
theorem d_Mod_spare_39 : decode prog_13_method_37_code 39 = .ok (.iload_n 1, 1) := am_row (r := (39, .iload_n 1, 1)) ro_Mod_spare 23 rfl
theorem d_Mod_spare_40 : decode prog_13_method_37_code 40 = .ok (.iconst (-1), 1) := am_row (r := (40, .iconst (-1), 1)) ro_Mod_spare 24 rfl
theorem d_Mod_spare_41 : decode prog_13_method_37_code 41 = .ok (.ixor, 1) := am_row (r := (41, .ixor, 1)) ro_Mod_spare 25 rfl
theorem d_Mod_spare_42 : decode prog_13_method_37_code 42 = .ok (.iand, 1) := am_row (r := (42, .iand, 1)) ro_Mod_spare 26 rfl
theorem d_Mod_spare_43 : decode prog_13_method_37_code 43 = .ok (.iconst 1, 1) := am_row (r := (43, .iconst 1, 1)) ro_Mod_spare 27 rfl
theorem d_Mod_spare_44 : decode prog_13_method_37_code 44 = .ok (.iload_n 2, 1) := am_row (r := (44, .iload_n 2, 1)) ro_Mod_spare 28 rfl
theorem d_Mod_spare_45 : decode prog_13_method_37_code 45 = .ok (.ishl, 1) := am_row (r := (45, .ishl, 1)) ro_Mod_spare 29 rfl
theorem d_Mod_spare_46 : decode prog_13_method_37_code 46 = .ok (.iconst (-1), 1) := am_row (r := (46, .iconst (-1), 1)) ro_Mod_spare 30 rfl
theorem d_Mod_spare_47 : decode prog_13_method_37_code 47 = .ok (.ixor, 1) := am_row (r := (47, .ixor, 1)) ro_Mod_spare 31 rfl
theorem d_Mod_spare_48 : decode prog_13_method_37_code 48 = .ok (.iand, 1) := am_row (r := (48, .iand, 1)) ro_Mod_spare 32 rfl
theorem d_Mod_spare_49 : decode prog_13_method_37_code 49 = .ok (.invokevirtual 115, 3) := am_row (r := (49, .invokevirtual 115, 3)) ro_Mod_spare 33 rfl
theorem d_Mod_spare_52 : decode prog_13_method_37_code 52 = .ok (.ifCond .eq 9, 3) := am_row (r := (52, .ifCond .eq 9, 3)) ro_Mod_spare 34 rfl
theorem d_Mod_spare_55 : decode prog_13_method_37_code 55 = .ok (.iload_n 1, 1) := am_row (r := (55, .iload_n 1, 1)) ro_Mod_spare 35 rfl
theorem d_Mod_spare_56 : decode prog_13_method_37_code 56 = .ok (.iconst 1, 1) := am_row (r := (56, .iconst 1, 1)) ro_Mod_spare 36 rfl
theorem d_Mod_spare_57 : decode prog_13_method_37_code 57 = .ok (.iload_n 2, 1) := am_row (r := (57, .iload_n 2, 1)) ro_Mod_spare 37 rfl
theorem d_Mod_spare_58 : decode prog_13_method_37_code 58 = .ok (.ishl, 1) := am_row (r := (58, .ishl, 1)) ro_Mod_spare 38 rfl
theorem d_Mod_spare_59 : decode prog_13_method_37_code 59 = .ok (.ior, 1) := am_row (r := (59, .ior, 1)) ro_Mod_spare 39 rfl
theorem d_Mod_spare_60 : decode prog_13_method_37_code 60 = .ok (.istore_n 1, 1) := am_row (r := (60, .istore_n 1, 1)) ro_Mod_spare 40 rfl
theorem d_Mod_spare_61 : decode prog_13_method_37_code 61 = .ok (.iinc 2 1, 3) := am_row (r := (61, .iinc 2 1, 3)) ro_Mod_spare 41 rfl
theorem d_Mod_spare_64 : decode prog_13_method_37_code 64 = .ok (.goto (-38), 3) := am_row (r := (64, .goto (-38), 3)) ro_Mod_spare 42 rfl
theorem d_Mod_spare_67 : decode prog_13_method_37_code 67 = .ok (.iload_n 1, 1) := am_row (r := (67, .iload_n 1, 1)) ro_Mod_spare 43 rfl
theorem d_Mod_spare_68 : decode prog_13_method_37_code 68 = .ok (.ireturn, 1) := am_row (r := (68, .ireturn, 1)) ro_Mod_spare 44 rfl
abbrev y_Mod_standOf : MethodName := ⟨"WheelDiscModel", "standOf", "(I)I"⟩
theorem c_Mod_standOf : Cond.code y_Mod_standOf prog_13_method_38_code 2 (some .int) ∈ am_T := am_mem 1196 (by decide +kernel) rfl
def rw_Mod_standOf : List (Nat × Instr × Nat) := [(0, .aload_n 0, 1), (1, .getfield 136, 3), (4, .ifCond .eq 22, 3), (7, .aload_n 0, 1), (8, .getfield 140, 3), (11, .aload_n 0, 1), (12, .invokevirtual 93, 3), (15, .iadd, 1), (16, .iload_n 1, 1), (17, .isub, 1), (18, .aload_n 0, 1), (19, .invokevirtual 93, 3), (22, .irem, 1), (23, .goto 14, 3), (26, .aload_n 0, 1), (27, .getfield 140, 3), (30, .iload_n 1, 1), (31, .iadd, 1), (32, .aload_n 0, 1), (33, .invokevirtual 93, 3), (36, .irem, 1), (37, .ireturn, 1)]
theorem ro_Mod_standOf : rw_Mod_standOf.all (fun r => decide (decode prog_13_method_38_code r.1 = .ok r.2)) = true := by decide +kernel
theorem d_Mod_standOf_0 : decode prog_13_method_38_code 0 = .ok (.aload_n 0, 1) := am_row (r := (0, .aload_n 0, 1)) ro_Mod_standOf 0 rfl
theorem d_Mod_standOf_1 : decode prog_13_method_38_code 1 = .ok (.getfield 136, 3) := am_row (r := (1, .getfield 136, 3)) ro_Mod_standOf 1 rfl
theorem d_Mod_standOf_4 : decode prog_13_method_38_code 4 = .ok (.ifCond .eq 22, 3) := am_row (r := (4, .ifCond .eq 22, 3)) ro_Mod_standOf 2 rfl
theorem d_Mod_standOf_7 : decode prog_13_method_38_code 7 = .ok (.aload_n 0, 1) := am_row (r := (7, .aload_n 0, 1)) ro_Mod_standOf 3 rfl
theorem d_Mod_standOf_8 : decode prog_13_method_38_code 8 = .ok (.getfield 140, 3) := am_row (r := (8, .getfield 140, 3)) ro_Mod_standOf 4 rfl
theorem d_Mod_standOf_11 : decode prog_13_method_38_code 11 = .ok (.aload_n 0, 1) := am_row (r := (11, .aload_n 0, 1)) ro_Mod_standOf 5 rfl
theorem d_Mod_standOf_12 : decode prog_13_method_38_code 12 = .ok (.invokevirtual 93, 3) := am_row (r := (12, .invokevirtual 93, 3)) ro_Mod_standOf 6 rfl
theorem d_Mod_standOf_15 : decode prog_13_method_38_code 15 = .ok (.iadd, 1) := am_row (r := (15, .iadd, 1)) ro_Mod_standOf 7 rfl
theorem d_Mod_standOf_16 : decode prog_13_method_38_code 16 = .ok (.iload_n 1, 1) := am_row (r := (16, .iload_n 1, 1)) ro_Mod_standOf 8 rfl
theorem d_Mod_standOf_17 : decode prog_13_method_38_code 17 = .ok (.isub, 1) := am_row (r := (17, .isub, 1)) ro_Mod_standOf 9 rfl
theorem d_Mod_standOf_18 : decode prog_13_method_38_code 18 = .ok (.aload_n 0, 1) := am_row (r := (18, .aload_n 0, 1)) ro_Mod_standOf 10 rfl
theorem d_Mod_standOf_19 : decode prog_13_method_38_code 19 = .ok (.invokevirtual 93, 3) := am_row (r := (19, .invokevirtual 93, 3)) ro_Mod_standOf 11 rfl
theorem d_Mod_standOf_22 : decode prog_13_method_38_code 22 = .ok (.irem, 1) := am_row (r := (22, .irem, 1)) ro_Mod_standOf 12 rfl
theorem d_Mod_standOf_23 : decode prog_13_method_38_code 23 = .ok (.goto 14, 3) := am_row (r := (23, .goto 14, 3)) ro_Mod_standOf 13 rfl
theorem d_Mod_standOf_26 : decode prog_13_method_38_code 26 = .ok (.aload_n 0, 1) := am_row (r := (26, .aload_n 0, 1)) ro_Mod_standOf 14 rfl
theorem d_Mod_standOf_27 : decode prog_13_method_38_code 27 = .ok (.getfield 140, 3) := am_row (r := (27, .getfield 140, 3)) ro_Mod_standOf 15 rfl
theorem d_Mod_standOf_30 : decode prog_13_method_38_code 30 = .ok (.iload_n 1, 1) := am_row (r := (30, .iload_n 1, 1)) ro_Mod_standOf 16 rfl
theorem d_Mod_standOf_31 : decode prog_13_method_38_code 31 = .ok (.iadd, 1) := am_row (r := (31, .iadd, 1)) ro_Mod_standOf 17 rfl
theorem d_Mod_standOf_32 : decode prog_13_method_38_code 32 = .ok (.aload_n 0, 1) := am_row (r := (32, .aload_n 0, 1)) ro_Mod_standOf 18 rfl
theorem d_Mod_standOf_33 : decode prog_13_method_38_code 33 = .ok (.invokevirtual 93, 3) := am_row (r := (33, .invokevirtual 93, 3)) ro_Mod_standOf 19 rfl
theorem d_Mod_standOf_36 : decode prog_13_method_38_code 36 = .ok (.irem, 1) := am_row (r := (36, .irem, 1)) ro_Mod_standOf 20 rfl
theorem d_Mod_standOf_37 : decode prog_13_method_38_code 37 = .ok (.ireturn, 1) := am_row (r := (37, .ireturn, 1)) ro_Mod_standOf 21 rfl
abbrev y_Mod_isAhead : MethodName := ⟨"WheelDiscModel", "isAhead", "(II)Z"⟩
theorem c_Mod_isAhead : Cond.code y_Mod_isAhead prog_13_method_39_code 6 (some .boolean) ∈ am_T := am_mem 1192 (by decide +kernel) rfl
def rw_Mod_isAhead : List (Nat × Instr × Nat) := [(0, .iconst 0, 1), (1, .istore_n 3, 1), (2, .iload_n 3, 1), (3, .aload_n 0, 1), (4, .invokevirtual 93, 3), (7, .if_icmp .ge 43, 3), (10, .aload_n 0, 1), (11, .iload_n 1, 1), (12, .aload_n 0, 1), (13, .iload_n 3, 1), (14, .invokevirtual 143, 3), (17, .invokevirtual 102, 3), (20, .istore 4, 2), (22, .aload_n 0, 1), (23, .iload_n 2, 1), (24, .aload_n 0, 1), (25, .iload_n 3, 1), (26, .invokevirtual 143, 3), (29, .invokevirtual 102, 3), (32, .istore 5, 2), (34, .iload 4, 2), (36, .iload 5, 2), (38, .if_icmp .eq 6, 3), (41, .iload 5, 2), (43, .ireturn, 1), (44, .iinc 3 1, 3), (47, .goto (-45), 3), (50, .iconst 0, 1), (51, .ireturn, 1)]
theorem ro_Mod_isAhead : rw_Mod_isAhead.all (fun r => decide (decode prog_13_method_39_code r.1 = .ok r.2)) = true := by decide +kernel
theorem d_Mod_isAhead_0 : decode prog_13_method_39_code 0 = .ok (.iconst 0, 1) := am_row (r := (0, .iconst 0, 1)) ro_Mod_isAhead 0 rfl
theorem d_Mod_isAhead_1 : decode prog_13_method_39_code 1 = .ok (.istore_n 3, 1) := am_row (r := (1, .istore_n 3, 1)) ro_Mod_isAhead 1 rfl
theorem d_Mod_isAhead_2 : decode prog_13_method_39_code 2 = .ok (.iload_n 3, 1) := am_row (r := (2, .iload_n 3, 1)) ro_Mod_isAhead 2 rfl
theorem d_Mod_isAhead_3 : decode prog_13_method_39_code 3 = .ok (.aload_n 0, 1) := am_row (r := (3, .aload_n 0, 1)) ro_Mod_isAhead 3 rfl
theorem d_Mod_isAhead_4 : decode prog_13_method_39_code 4 = .ok (.invokevirtual 93, 3) := am_row (r := (4, .invokevirtual 93, 3)) ro_Mod_isAhead 4 rfl
theorem d_Mod_isAhead_7 : decode prog_13_method_39_code 7 = .ok (.if_icmp .ge 43, 3) := am_row (r := (7, .if_icmp .ge 43, 3)) ro_Mod_isAhead 5 rfl
theorem d_Mod_isAhead_10 : decode prog_13_method_39_code 10 = .ok (.aload_n 0, 1) := am_row (r := (10, .aload_n 0, 1)) ro_Mod_isAhead 6 rfl
theorem d_Mod_isAhead_11 : decode prog_13_method_39_code 11 = .ok (.iload_n 1, 1) := am_row (r := (11, .iload_n 1, 1)) ro_Mod_isAhead 7 rfl
theorem d_Mod_isAhead_12 : decode prog_13_method_39_code 12 = .ok (.aload_n 0, 1) := am_row (r := (12, .aload_n 0, 1)) ro_Mod_isAhead 8 rfl
theorem d_Mod_isAhead_13 : decode prog_13_method_39_code 13 = .ok (.iload_n 3, 1) := am_row (r := (13, .iload_n 3, 1)) ro_Mod_isAhead 9 rfl
theorem d_Mod_isAhead_14 : decode prog_13_method_39_code 14 = .ok (.invokevirtual 143, 3) := am_row (r := (14, .invokevirtual 143, 3)) ro_Mod_isAhead 10 rfl
theorem d_Mod_isAhead_17 : decode prog_13_method_39_code 17 = .ok (.invokevirtual 102, 3) := am_row (r := (17, .invokevirtual 102, 3)) ro_Mod_isAhead 11 rfl
theorem d_Mod_isAhead_20 : decode prog_13_method_39_code 20 = .ok (.istore 4, 2) := am_row (r := (20, .istore 4, 2)) ro_Mod_isAhead 12 rfl
theorem d_Mod_isAhead_22 : decode prog_13_method_39_code 22 = .ok (.aload_n 0, 1) := am_row (r := (22, .aload_n 0, 1)) ro_Mod_isAhead 13 rfl
theorem d_Mod_isAhead_23 : decode prog_13_method_39_code 23 = .ok (.iload_n 2, 1) := am_row (r := (23, .iload_n 2, 1)) ro_Mod_isAhead 14 rfl
theorem d_Mod_isAhead_24 : decode prog_13_method_39_code 24 = .ok (.aload_n 0, 1) := am_row (r := (24, .aload_n 0, 1)) ro_Mod_isAhead 15 rfl
theorem d_Mod_isAhead_25 : decode prog_13_method_39_code 25 = .ok (.iload_n 3, 1) := am_row (r := (25, .iload_n 3, 1)) ro_Mod_isAhead 16 rfl
theorem d_Mod_isAhead_26 : decode prog_13_method_39_code 26 = .ok (.invokevirtual 143, 3) := am_row (r := (26, .invokevirtual 143, 3)) ro_Mod_isAhead 17 rfl
theorem d_Mod_isAhead_29 : decode prog_13_method_39_code 29 = .ok (.invokevirtual 102, 3) := am_row (r := (29, .invokevirtual 102, 3)) ro_Mod_isAhead 18 rfl
theorem d_Mod_isAhead_32 : decode prog_13_method_39_code 32 = .ok (.istore 5, 2) := am_row (r := (32, .istore 5, 2)) ro_Mod_isAhead 19 rfl
theorem d_Mod_isAhead_34 : decode prog_13_method_39_code 34 = .ok (.iload 4, 2) := am_row (r := (34, .iload 4, 2)) ro_Mod_isAhead 20 rfl
theorem d_Mod_isAhead_36 : decode prog_13_method_39_code 36 = .ok (.iload 5, 2) := am_row (r := (36, .iload 5, 2)) ro_Mod_isAhead 21 rfl
theorem d_Mod_isAhead_38 : decode prog_13_method_39_code 38 = .ok (.if_icmp .eq 6, 3) := am_row (r := (38, .if_icmp .eq 6, 3)) ro_Mod_isAhead 22 rfl
theorem d_Mod_isAhead_41 : decode prog_13_method_39_code 41 = .ok (.iload 5, 2) := am_row (r := (41, .iload 5, 2)) ro_Mod_isAhead 23 rfl
theorem d_Mod_isAhead_43 : decode prog_13_method_39_code 43 = .ok (.ireturn, 1) := am_row (r := (43, .ireturn, 1)) ro_Mod_isAhead 24 rfl
theorem d_Mod_isAhead_44 : decode prog_13_method_39_code 44 = .ok (.iinc 3 1, 3) := am_row (r := (44, .iinc 3 1, 3)) ro_Mod_isAhead 25 rfl
theorem d_Mod_isAhead_47 : decode prog_13_method_39_code 47 = .ok (.goto (-45), 3) := am_row (r := (47, .goto (-45), 3)) ro_Mod_isAhead 26 rfl
theorem d_Mod_isAhead_50 : decode prog_13_method_39_code 50 = .ok (.iconst 0, 1) := am_row (r := (50, .iconst 0, 1)) ro_Mod_isAhead 27 rfl
theorem d_Mod_isAhead_51 : decode prog_13_method_39_code 51 = .ok (.ireturn, 1) := am_row (r := (51, .ireturn, 1)) ro_Mod_isAhead 28 rfl
abbrev y_Mod_rowOf : MethodName := ⟨"WheelDiscModel", "rowOf", "()V"⟩
theorem c_Mod_rowOf : Cond.code y_Mod_rowOf prog_13_method_40_code 4 none ∈ am_T := am_mem 1188 (by decide +kernel) rfl
def rw_Mod_rowOf : List (Nat × Instr × Nat) := [(0, .iconst 0, 1), (1, .istore_n 1, 1), (2, .iload_n 1, 1), (3, .aload_n 0, 1), (4, .invokevirtual 96, 3), (7, .if_icmp .ge 58, 3), (10, .iload_n 1, 1), (11, .istore_n 2, 1), (12, .iload_n 2, 1), (13, .ifCond .le 39, 3), (16, .aload_n 0, 1), (17, .iload_n 1, 1), (18, .aload_n 0, 1), (19, .getfield 47, 3), (22, .iload_n 2, 1), (23, .iconst 1, 1), (24, .isub, 1), (25, .iaload, 1), (26, .invokevirtual 146, 3), (29, .ifCond .eq 23, 3), (32, .aload_n 0, 1), (33, .getfield 47, 3), (36, .iload_n 2, 1), (37, .aload_n 0, 1), (38, .getfield 47, 3), (41, .iload_n 2, 1), (42, .iconst 1, 1), (43, .isub, 1), (44, .iaload, 1), (45, .iastore, 1), (46, .iinc 2 (-1), 3), (49, .goto (-37), 3), (52, .aload_n 0, 1), (53, .getfield 47, 3), (56, .iload_n 2, 1), (57, .iload_n 1, 1), (58, .iastore, 1), (59, .iinc 1 1, 3), (62, .goto (-60), 3), (65, .iconst 0, 1), (66, .istore_n 1, 1), (67, .iload_n 1, 1), (68, .aload_n 0, 1), (69, .invokevirtual 93, 3), (72, .if_icmp .ge 62, 3), (75, .iconst 0, 1), (76, .istore_n 2, 1), (77, .iconst 0, 1), (78, .istore_n 3, 1), (79, .iload_n 3, 1), (80, .aload_n 0, 1), (81, .invokevirtual 96, 3), (84, .if_icmp .ge 37, 3), (87, .iconst 2, 1), (88, .iload_n 2, 1), (89, .imul, 1), (90, .aload_n 0, 1), (91, .aload_n 0, 1), (92, .getfield 47, 3), (95, .iload_n 3, 1), (96, .iaload, 1), (97, .aload_n 0, 1), (98, .iload_n 1, 1), (99, .invokevirtual 143, 3), (102, .invokevirtual 102, 3), (105, .ifCond .eq 7, 3), (108, .iconst 1, 1), (109, .goto 4, 3), (112, .iconst 0, 1), (113, .iadd, 1), (114, .istore_n 2, 1), (115, .iinc 3 1, 3), (118, .goto (-39), 3), (121, .aload_n 0, 1), (122, .getfield 44, 3), (125, .iload_n 1, 1), (126, .iload_n 2, 1), (127, .iastore, 1), (128, .iinc 1 1, 3), (131, .goto (-64), 3), (134, .return_, 1)]
theorem ro_Mod_rowOf : rw_Mod_rowOf.all (fun r => decide (decode prog_13_method_40_code r.1 = .ok r.2)) = true := by decide +kernel
theorem d_Mod_rowOf_0 : decode prog_13_method_40_code 0 = .ok (.iconst 0, 1) := am_row (r := (0, .iconst 0, 1)) ro_Mod_rowOf 0 rfl
theorem d_Mod_rowOf_1 : decode prog_13_method_40_code 1 = .ok (.istore_n 1, 1) := am_row (r := (1, .istore_n 1, 1)) ro_Mod_rowOf 1 rfl
theorem d_Mod_rowOf_2 : decode prog_13_method_40_code 2 = .ok (.iload_n 1, 1) := am_row (r := (2, .iload_n 1, 1)) ro_Mod_rowOf 2 rfl
theorem d_Mod_rowOf_3 : decode prog_13_method_40_code 3 = .ok (.aload_n 0, 1) := am_row (r := (3, .aload_n 0, 1)) ro_Mod_rowOf 3 rfl
theorem d_Mod_rowOf_4 : decode prog_13_method_40_code 4 = .ok (.invokevirtual 96, 3) := am_row (r := (4, .invokevirtual 96, 3)) ro_Mod_rowOf 4 rfl
theorem d_Mod_rowOf_7 : decode prog_13_method_40_code 7 = .ok (.if_icmp .ge 58, 3) := am_row (r := (7, .if_icmp .ge 58, 3)) ro_Mod_rowOf 5 rfl
theorem d_Mod_rowOf_10 : decode prog_13_method_40_code 10 = .ok (.iload_n 1, 1) := am_row (r := (10, .iload_n 1, 1)) ro_Mod_rowOf 6 rfl
theorem d_Mod_rowOf_11 : decode prog_13_method_40_code 11 = .ok (.istore_n 2, 1) := am_row (r := (11, .istore_n 2, 1)) ro_Mod_rowOf 7 rfl
theorem d_Mod_rowOf_12 : decode prog_13_method_40_code 12 = .ok (.iload_n 2, 1) := am_row (r := (12, .iload_n 2, 1)) ro_Mod_rowOf 8 rfl
theorem d_Mod_rowOf_13 : decode prog_13_method_40_code 13 = .ok (.ifCond .le 39, 3) := am_row (r := (13, .ifCond .le 39, 3)) ro_Mod_rowOf 9 rfl
theorem d_Mod_rowOf_16 : decode prog_13_method_40_code 16 = .ok (.aload_n 0, 1) := am_row (r := (16, .aload_n 0, 1)) ro_Mod_rowOf 10 rfl
theorem d_Mod_rowOf_17 : decode prog_13_method_40_code 17 = .ok (.iload_n 1, 1) := am_row (r := (17, .iload_n 1, 1)) ro_Mod_rowOf 11 rfl
theorem d_Mod_rowOf_18 : decode prog_13_method_40_code 18 = .ok (.aload_n 0, 1) := am_row (r := (18, .aload_n 0, 1)) ro_Mod_rowOf 12 rfl
theorem d_Mod_rowOf_19 : decode prog_13_method_40_code 19 = .ok (.getfield 47, 3) := am_row (r := (19, .getfield 47, 3)) ro_Mod_rowOf 13 rfl
theorem d_Mod_rowOf_22 : decode prog_13_method_40_code 22 = .ok (.iload_n 2, 1) := am_row (r := (22, .iload_n 2, 1)) ro_Mod_rowOf 14 rfl
theorem d_Mod_rowOf_23 : decode prog_13_method_40_code 23 = .ok (.iconst 1, 1) := am_row (r := (23, .iconst 1, 1)) ro_Mod_rowOf 15 rfl
theorem d_Mod_rowOf_24 : decode prog_13_method_40_code 24 = .ok (.isub, 1) := am_row (r := (24, .isub, 1)) ro_Mod_rowOf 16 rfl
theorem d_Mod_rowOf_25 : decode prog_13_method_40_code 25 = .ok (.iaload, 1) := am_row (r := (25, .iaload, 1)) ro_Mod_rowOf 17 rfl
theorem d_Mod_rowOf_26 : decode prog_13_method_40_code 26 = .ok (.invokevirtual 146, 3) := am_row (r := (26, .invokevirtual 146, 3)) ro_Mod_rowOf 18 rfl
theorem d_Mod_rowOf_29 : decode prog_13_method_40_code 29 = .ok (.ifCond .eq 23, 3) := am_row (r := (29, .ifCond .eq 23, 3)) ro_Mod_rowOf 19 rfl
theorem d_Mod_rowOf_32 : decode prog_13_method_40_code 32 = .ok (.aload_n 0, 1) := am_row (r := (32, .aload_n 0, 1)) ro_Mod_rowOf 20 rfl
theorem d_Mod_rowOf_33 : decode prog_13_method_40_code 33 = .ok (.getfield 47, 3) := am_row (r := (33, .getfield 47, 3)) ro_Mod_rowOf 21 rfl
theorem d_Mod_rowOf_36 : decode prog_13_method_40_code 36 = .ok (.iload_n 2, 1) := am_row (r := (36, .iload_n 2, 1)) ro_Mod_rowOf 22 rfl
theorem d_Mod_rowOf_37 : decode prog_13_method_40_code 37 = .ok (.aload_n 0, 1) := am_row (r := (37, .aload_n 0, 1)) ro_Mod_rowOf 23 rfl
theorem d_Mod_rowOf_38 : decode prog_13_method_40_code 38 = .ok (.getfield 47, 3) := am_row (r := (38, .getfield 47, 3)) ro_Mod_rowOf 24 rfl
theorem d_Mod_rowOf_41 : decode prog_13_method_40_code 41 = .ok (.iload_n 2, 1) := am_row (r := (41, .iload_n 2, 1)) ro_Mod_rowOf 25 rfl
theorem d_Mod_rowOf_42 : decode prog_13_method_40_code 42 = .ok (.iconst 1, 1) := am_row (r := (42, .iconst 1, 1)) ro_Mod_rowOf 26 rfl
theorem d_Mod_rowOf_43 : decode prog_13_method_40_code 43 = .ok (.isub, 1) := am_row (r := (43, .isub, 1)) ro_Mod_rowOf 27 rfl
theorem d_Mod_rowOf_44 : decode prog_13_method_40_code 44 = .ok (.iaload, 1) := am_row (r := (44, .iaload, 1)) ro_Mod_rowOf 28 rfl
theorem d_Mod_rowOf_45 : decode prog_13_method_40_code 45 = .ok (.iastore, 1) := am_row (r := (45, .iastore, 1)) ro_Mod_rowOf 29 rfl
theorem d_Mod_rowOf_46 : decode prog_13_method_40_code 46 = .ok (.iinc 2 (-1), 3) := am_row (r := (46, .iinc 2 (-1), 3)) ro_Mod_rowOf 30 rfl
theorem d_Mod_rowOf_49 : decode prog_13_method_40_code 49 = .ok (.goto (-37), 3) := am_row (r := (49, .goto (-37), 3)) ro_Mod_rowOf 31 rfl
theorem d_Mod_rowOf_52 : decode prog_13_method_40_code 52 = .ok (.aload_n 0, 1) := am_row (r := (52, .aload_n 0, 1)) ro_Mod_rowOf 32 rfl
theorem d_Mod_rowOf_53 : decode prog_13_method_40_code 53 = .ok (.getfield 47, 3) := am_row (r := (53, .getfield 47, 3)) ro_Mod_rowOf 33 rfl
theorem d_Mod_rowOf_56 : decode prog_13_method_40_code 56 = .ok (.iload_n 2, 1) := am_row (r := (56, .iload_n 2, 1)) ro_Mod_rowOf 34 rfl
theorem d_Mod_rowOf_57 : decode prog_13_method_40_code 57 = .ok (.iload_n 1, 1) := am_row (r := (57, .iload_n 1, 1)) ro_Mod_rowOf 35 rfl
theorem d_Mod_rowOf_58 : decode prog_13_method_40_code 58 = .ok (.iastore, 1) := am_row (r := (58, .iastore, 1)) ro_Mod_rowOf 36 rfl
theorem d_Mod_rowOf_59 : decode prog_13_method_40_code 59 = .ok (.iinc 1 1, 3) := am_row (r := (59, .iinc 1 1, 3)) ro_Mod_rowOf 37 rfl
theorem d_Mod_rowOf_62 : decode prog_13_method_40_code 62 = .ok (.goto (-60), 3) := am_row (r := (62, .goto (-60), 3)) ro_Mod_rowOf 38 rfl
theorem d_Mod_rowOf_65 : decode prog_13_method_40_code 65 = .ok (.iconst 0, 1) := am_row (r := (65, .iconst 0, 1)) ro_Mod_rowOf 39 rfl
theorem d_Mod_rowOf_66 : decode prog_13_method_40_code 66 = .ok (.istore_n 1, 1) := am_row (r := (66, .istore_n 1, 1)) ro_Mod_rowOf 40 rfl
theorem d_Mod_rowOf_67 : decode prog_13_method_40_code 67 = .ok (.iload_n 1, 1) := am_row (r := (67, .iload_n 1, 1)) ro_Mod_rowOf 41 rfl
theorem d_Mod_rowOf_68 : decode prog_13_method_40_code 68 = .ok (.aload_n 0, 1) := am_row (r := (68, .aload_n 0, 1)) ro_Mod_rowOf 42 rfl
theorem d_Mod_rowOf_69 : decode prog_13_method_40_code 69 = .ok (.invokevirtual 93, 3) := am_row (r := (69, .invokevirtual 93, 3)) ro_Mod_rowOf 43 rfl
theorem d_Mod_rowOf_72 : decode prog_13_method_40_code 72 = .ok (.if_icmp .ge 62, 3) := am_row (r := (72, .if_icmp .ge 62, 3)) ro_Mod_rowOf 44 rfl
theorem d_Mod_rowOf_75 : decode prog_13_method_40_code 75 = .ok (.iconst 0, 1) := am_row (r := (75, .iconst 0, 1)) ro_Mod_rowOf 45 rfl
theorem d_Mod_rowOf_76 : decode prog_13_method_40_code 76 = .ok (.istore_n 2, 1) := am_row (r := (76, .istore_n 2, 1)) ro_Mod_rowOf 46 rfl
theorem d_Mod_rowOf_77 : decode prog_13_method_40_code 77 = .ok (.iconst 0, 1) := am_row (r := (77, .iconst 0, 1)) ro_Mod_rowOf 47 rfl
theorem d_Mod_rowOf_78 : decode prog_13_method_40_code 78 = .ok (.istore_n 3, 1) := am_row (r := (78, .istore_n 3, 1)) ro_Mod_rowOf 48 rfl
theorem d_Mod_rowOf_79 : decode prog_13_method_40_code 79 = .ok (.iload_n 3, 1) := am_row (r := (79, .iload_n 3, 1)) ro_Mod_rowOf 49 rfl
theorem d_Mod_rowOf_80 : decode prog_13_method_40_code 80 = .ok (.aload_n 0, 1) := am_row (r := (80, .aload_n 0, 1)) ro_Mod_rowOf 50 rfl
theorem d_Mod_rowOf_81 : decode prog_13_method_40_code 81 = .ok (.invokevirtual 96, 3) := am_row (r := (81, .invokevirtual 96, 3)) ro_Mod_rowOf 51 rfl
theorem d_Mod_rowOf_84 : decode prog_13_method_40_code 84 = .ok (.if_icmp .ge 37, 3) := am_row (r := (84, .if_icmp .ge 37, 3)) ro_Mod_rowOf 52 rfl
theorem d_Mod_rowOf_87 : decode prog_13_method_40_code 87 = .ok (.iconst 2, 1) := am_row (r := (87, .iconst 2, 1)) ro_Mod_rowOf 53 rfl
theorem d_Mod_rowOf_88 : decode prog_13_method_40_code 88 = .ok (.iload_n 2, 1) := am_row (r := (88, .iload_n 2, 1)) ro_Mod_rowOf 54 rfl
theorem d_Mod_rowOf_89 : decode prog_13_method_40_code 89 = .ok (.imul, 1) := am_row (r := (89, .imul, 1)) ro_Mod_rowOf 55 rfl
theorem d_Mod_rowOf_90 : decode prog_13_method_40_code 90 = .ok (.aload_n 0, 1) := am_row (r := (90, .aload_n 0, 1)) ro_Mod_rowOf 56 rfl
theorem d_Mod_rowOf_91 : decode prog_13_method_40_code 91 = .ok (.aload_n 0, 1) := am_row (r := (91, .aload_n 0, 1)) ro_Mod_rowOf 57 rfl
theorem d_Mod_rowOf_92 : decode prog_13_method_40_code 92 = .ok (.getfield 47, 3) := am_row (r := (92, .getfield 47, 3)) ro_Mod_rowOf 58 rfl
theorem d_Mod_rowOf_95 : decode prog_13_method_40_code 95 = .ok (.iload_n 3, 1) := am_row (r := (95, .iload_n 3, 1)) ro_Mod_rowOf 59 rfl
theorem d_Mod_rowOf_96 : decode prog_13_method_40_code 96 = .ok (.iaload, 1) := am_row (r := (96, .iaload, 1)) ro_Mod_rowOf 60 rfl
theorem d_Mod_rowOf_97 : decode prog_13_method_40_code 97 = .ok (.aload_n 0, 1) := am_row (r := (97, .aload_n 0, 1)) ro_Mod_rowOf 61 rfl
theorem d_Mod_rowOf_98 : decode prog_13_method_40_code 98 = .ok (.iload_n 1, 1) := am_row (r := (98, .iload_n 1, 1)) ro_Mod_rowOf 62 rfl
theorem d_Mod_rowOf_99 : decode prog_13_method_40_code 99 = .ok (.invokevirtual 143, 3) := am_row (r := (99, .invokevirtual 143, 3)) ro_Mod_rowOf 63 rfl
theorem d_Mod_rowOf_102 : decode prog_13_method_40_code 102 = .ok (.invokevirtual 102, 3) := am_row (r := (102, .invokevirtual 102, 3)) ro_Mod_rowOf 64 rfl
theorem d_Mod_rowOf_105 : decode prog_13_method_40_code 105 = .ok (.ifCond .eq 7, 3) := am_row (r := (105, .ifCond .eq 7, 3)) ro_Mod_rowOf 65 rfl
theorem d_Mod_rowOf_108 : decode prog_13_method_40_code 108 = .ok (.iconst 1, 1) := am_row (r := (108, .iconst 1, 1)) ro_Mod_rowOf 66 rfl
theorem d_Mod_rowOf_109 : decode prog_13_method_40_code 109 = .ok (.goto 4, 3) := am_row (r := (109, .goto 4, 3)) ro_Mod_rowOf 67 rfl
theorem d_Mod_rowOf_112 : decode prog_13_method_40_code 112 = .ok (.iconst 0, 1) := am_row (r := (112, .iconst 0, 1)) ro_Mod_rowOf 68 rfl
theorem d_Mod_rowOf_113 : decode prog_13_method_40_code 113 = .ok (.iadd, 1) := am_row (r := (113, .iadd, 1)) ro_Mod_rowOf 69 rfl
theorem d_Mod_rowOf_114 : decode prog_13_method_40_code 114 = .ok (.istore_n 2, 1) := am_row (r := (114, .istore_n 2, 1)) ro_Mod_rowOf 70 rfl
theorem d_Mod_rowOf_115 : decode prog_13_method_40_code 115 = .ok (.iinc 3 1, 3) := am_row (r := (115, .iinc 3 1, 3)) ro_Mod_rowOf 71 rfl
theorem d_Mod_rowOf_118 : decode prog_13_method_40_code 118 = .ok (.goto (-39), 3) := am_row (r := (118, .goto (-39), 3)) ro_Mod_rowOf 72 rfl
theorem d_Mod_rowOf_121 : decode prog_13_method_40_code 121 = .ok (.aload_n 0, 1) := am_row (r := (121, .aload_n 0, 1)) ro_Mod_rowOf 73 rfl
theorem d_Mod_rowOf_122 : decode prog_13_method_40_code 122 = .ok (.getfield 44, 3) := am_row (r := (122, .getfield 44, 3)) ro_Mod_rowOf 74 rfl
theorem d_Mod_rowOf_125 : decode prog_13_method_40_code 125 = .ok (.iload_n 1, 1) := am_row (r := (125, .iload_n 1, 1)) ro_Mod_rowOf 75 rfl
theorem d_Mod_rowOf_126 : decode prog_13_method_40_code 126 = .ok (.iload_n 2, 1) := am_row (r := (126, .iload_n 2, 1)) ro_Mod_rowOf 76 rfl
theorem d_Mod_rowOf_127 : decode prog_13_method_40_code 127 = .ok (.iastore, 1) := am_row (r := (127, .iastore, 1)) ro_Mod_rowOf 77 rfl
theorem d_Mod_rowOf_128 : decode prog_13_method_40_code 128 = .ok (.iinc 1 1, 3) := am_row (r := (128, .iinc 1 1, 3)) ro_Mod_rowOf 78 rfl
theorem d_Mod_rowOf_131 : decode prog_13_method_40_code 131 = .ok (.goto (-64), 3) := am_row (r := (131, .goto (-64), 3)) ro_Mod_rowOf 79 rfl
theorem d_Mod_rowOf_134 : decode prog_13_method_40_code 134 = .ok (.return_, 1) := am_row (r := (134, .return_, 1)) ro_Mod_rowOf 80 rfl
