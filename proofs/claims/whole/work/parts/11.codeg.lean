abbrev y_Mod_form0 : MethodName := ⟨"WheelDiscModel", "form", "()V"⟩
theorem c_Mod_form0 : Cond.code y_Mod_form0 prog_13_method_41_code 5 none ∈ am_T := am_mem 1184 (by decide +kernel) rfl
def rw_Mod_form0 : List (Nat × Instr × Nat) := [(0, .iconst 0, 1), (1, .istore_n 1, 1), (2, .iconst 0, 1), (3, .istore_n 2, 1), (4, .iload_n 2, 1), (5, .iconst 2, 1), (6, .if_icmp .ge 155, 3), (9, .aload_n 0, 1), (10, .iload_n 2, 1), (11, .iconst 1, 1), (12, .if_icmp .ne 7, 3), (15, .iconst 1, 1), (16, .goto 4, 3), (19, .iconst 0, 1), (20, .putfield 136, 3), (23, .aload_n 0, 1), (24, .iconst 0, 1), (25, .putfield 140, 3), (28, .aload_n 0, 1), (29, .getfield 140, 3), (32, .aload_n 0, 1), (33, .invokevirtual 93, 3), (36, .if_icmp .ge 119, 3), (39, .aload_n 0, 1), (40, .invokevirtual 149, 3), (43, .iconst 0, 1), (44, .istore_n 3, 1), (45, .iload_n 1, 1), (46, .ifCond .eq 32, 3), (49, .iload_n 3, 1), (50, .aload_n 0, 1), (51, .invokevirtual 93, 3), (54, .if_icmp .ge 24, 3), (57, .aload_n 0, 1), (58, .getfield 44, 3), (61, .iload_n 3, 1), (62, .iaload, 1), (63, .aload_n 0, 1), (64, .getfield 41, 3), (67, .iload_n 3, 1), (68, .iaload, 1), (69, .if_icmp .ne 9, 3), (72, .iinc 3 1, 3), (75, .goto (-30), 3), (78, .iload_n 1, 1), (79, .ifCond .eq 29, 3), (82, .iload_n 3, 1), (83, .aload_n 0, 1), (84, .invokevirtual 93, 3), (87, .if_icmp .eq 55, 3), (90, .aload_n 0, 1), (91, .getfield 44, 3), (94, .iload_n 3, 1), (95, .iaload, 1), (96, .aload_n 0, 1), (97, .getfield 41, 3), (100, .iload_n 3, 1), (101, .iaload, 1), (102, .if_icmp .le 6, 3), (105, .goto 37, 3), (108, .iconst 0, 1), (109, .istore 4, 2), (111, .iload 4, 2), (113, .aload_n 0, 1), (114, .invokevirtual 93, 3), (117, .if_icmp .ge 23, 3), (120, .aload_n 0, 1), (121, .getfield 41, 3), (124, .iload 4, 2), (126, .aload_n 0, 1), (127, .getfield 44, 3), (130, .iload 4, 2), (132, .iaload, 1), (133, .iastore, 1), (134, .iinc 4 1, 3), (137, .goto (-26), 3), (140, .iconst 1, 1), (141, .istore_n 1, 1), (142, .aload_n 0, 1), (143, .dup, 1), (144, .getfield 140, 3), (147, .iconst 1, 1), (148, .iadd, 1), (149, .putfield 140, 3), (152, .goto (-124), 3), (155, .iinc 2 1, 3), (158, .goto (-154), 3), (161, .return_, 1)]
theorem ro_Mod_form0 : rw_Mod_form0.all (fun r => decide (decode prog_13_method_41_code r.1 = .ok r.2)) = true := by decide +kernel
theorem d_Mod_form0_0 : decode prog_13_method_41_code 0 = .ok (.iconst 0, 1) := am_row (r := (0, .iconst 0, 1)) ro_Mod_form0 0 rfl
theorem d_Mod_form0_1 : decode prog_13_method_41_code 1 = .ok (.istore_n 1, 1) := am_row (r := (1, .istore_n 1, 1)) ro_Mod_form0 1 rfl
theorem d_Mod_form0_2 : decode prog_13_method_41_code 2 = .ok (.iconst 0, 1) := am_row (r := (2, .iconst 0, 1)) ro_Mod_form0 2 rfl
theorem d_Mod_form0_3 : decode prog_13_method_41_code 3 = .ok (.istore_n 2, 1) := am_row (r := (3, .istore_n 2, 1)) ro_Mod_form0 3 rfl
theorem d_Mod_form0_4 : decode prog_13_method_41_code 4 = .ok (.iload_n 2, 1) := am_row (r := (4, .iload_n 2, 1)) ro_Mod_form0 4 rfl
theorem d_Mod_form0_5 : decode prog_13_method_41_code 5 = .ok (.iconst 2, 1) := am_row (r := (5, .iconst 2, 1)) ro_Mod_form0 5 rfl
theorem d_Mod_form0_6 : decode prog_13_method_41_code 6 = .ok (.if_icmp .ge 155, 3) := am_row (r := (6, .if_icmp .ge 155, 3)) ro_Mod_form0 6 rfl
theorem d_Mod_form0_9 : decode prog_13_method_41_code 9 = .ok (.aload_n 0, 1) := am_row (r := (9, .aload_n 0, 1)) ro_Mod_form0 7 rfl
theorem d_Mod_form0_10 : decode prog_13_method_41_code 10 = .ok (.iload_n 2, 1) := am_row (r := (10, .iload_n 2, 1)) ro_Mod_form0 8 rfl
theorem d_Mod_form0_11 : decode prog_13_method_41_code 11 = .ok (.iconst 1, 1) := am_row (r := (11, .iconst 1, 1)) ro_Mod_form0 9 rfl
theorem d_Mod_form0_12 : decode prog_13_method_41_code 12 = .ok (.if_icmp .ne 7, 3) := am_row (r := (12, .if_icmp .ne 7, 3)) ro_Mod_form0 10 rfl
theorem d_Mod_form0_15 : decode prog_13_method_41_code 15 = .ok (.iconst 1, 1) := am_row (r := (15, .iconst 1, 1)) ro_Mod_form0 11 rfl
theorem d_Mod_form0_16 : decode prog_13_method_41_code 16 = .ok (.goto 4, 3) := am_row (r := (16, .goto 4, 3)) ro_Mod_form0 12 rfl
theorem d_Mod_form0_19 : decode prog_13_method_41_code 19 = .ok (.iconst 0, 1) := am_row (r := (19, .iconst 0, 1)) ro_Mod_form0 13 rfl
theorem d_Mod_form0_20 : decode prog_13_method_41_code 20 = .ok (.putfield 136, 3) := am_row (r := (20, .putfield 136, 3)) ro_Mod_form0 14 rfl
theorem d_Mod_form0_23 : decode prog_13_method_41_code 23 = .ok (.aload_n 0, 1) := am_row (r := (23, .aload_n 0, 1)) ro_Mod_form0 15 rfl
theorem d_Mod_form0_24 : decode prog_13_method_41_code 24 = .ok (.iconst 0, 1) := am_row (r := (24, .iconst 0, 1)) ro_Mod_form0 16 rfl
theorem d_Mod_form0_25 : decode prog_13_method_41_code 25 = .ok (.putfield 140, 3) := am_row (r := (25, .putfield 140, 3)) ro_Mod_form0 17 rfl
theorem d_Mod_form0_28 : decode prog_13_method_41_code 28 = .ok (.aload_n 0, 1) := am_row (r := (28, .aload_n 0, 1)) ro_Mod_form0 18 rfl
theorem d_Mod_form0_29 : decode prog_13_method_41_code 29 = .ok (.getfield 140, 3) := am_row (r := (29, .getfield 140, 3)) ro_Mod_form0 19 rfl
theorem d_Mod_form0_32 : decode prog_13_method_41_code 32 = .ok (.aload_n 0, 1) := am_row (r := (32, .aload_n 0, 1)) ro_Mod_form0 20 rfl
theorem d_Mod_form0_33 : decode prog_13_method_41_code 33 = .ok (.invokevirtual 93, 3) := am_row (r := (33, .invokevirtual 93, 3)) ro_Mod_form0 21 rfl
theorem d_Mod_form0_36 : decode prog_13_method_41_code 36 = .ok (.if_icmp .ge 119, 3) := am_row (r := (36, .if_icmp .ge 119, 3)) ro_Mod_form0 22 rfl
theorem d_Mod_form0_39 : decode prog_13_method_41_code 39 = .ok (.aload_n 0, 1) := am_row (r := (39, .aload_n 0, 1)) ro_Mod_form0 23 rfl
theorem d_Mod_form0_40 : decode prog_13_method_41_code 40 = .ok (.invokevirtual 149, 3) := am_row (r := (40, .invokevirtual 149, 3)) ro_Mod_form0 24 rfl
theorem d_Mod_form0_43 : decode prog_13_method_41_code 43 = .ok (.iconst 0, 1) := am_row (r := (43, .iconst 0, 1)) ro_Mod_form0 25 rfl
theorem d_Mod_form0_44 : decode prog_13_method_41_code 44 = .ok (.istore_n 3, 1) := am_row (r := (44, .istore_n 3, 1)) ro_Mod_form0 26 rfl
theorem d_Mod_form0_45 : decode prog_13_method_41_code 45 = .ok (.iload_n 1, 1) := am_row (r := (45, .iload_n 1, 1)) ro_Mod_form0 27 rfl
theorem d_Mod_form0_46 : decode prog_13_method_41_code 46 = .ok (.ifCond .eq 32, 3) := am_row (r := (46, .ifCond .eq 32, 3)) ro_Mod_form0 28 rfl
theorem d_Mod_form0_49 : decode prog_13_method_41_code 49 = .ok (.iload_n 3, 1) := am_row (r := (49, .iload_n 3, 1)) ro_Mod_form0 29 rfl
theorem d_Mod_form0_50 : decode prog_13_method_41_code 50 = .ok (.aload_n 0, 1) := am_row (r := (50, .aload_n 0, 1)) ro_Mod_form0 30 rfl
theorem d_Mod_form0_51 : decode prog_13_method_41_code 51 = .ok (.invokevirtual 93, 3) := am_row (r := (51, .invokevirtual 93, 3)) ro_Mod_form0 31 rfl
theorem d_Mod_form0_54 : decode prog_13_method_41_code 54 = .ok (.if_icmp .ge 24, 3) := am_row (r := (54, .if_icmp .ge 24, 3)) ro_Mod_form0 32 rfl
theorem d_Mod_form0_57 : decode prog_13_method_41_code 57 = .ok (.aload_n 0, 1) := am_row (r := (57, .aload_n 0, 1)) ro_Mod_form0 33 rfl
theorem d_Mod_form0_58 : decode prog_13_method_41_code 58 = .ok (.getfield 44, 3) := am_row (r := (58, .getfield 44, 3)) ro_Mod_form0 34 rfl
theorem d_Mod_form0_61 : decode prog_13_method_41_code 61 = .ok (.iload_n 3, 1) := am_row (r := (61, .iload_n 3, 1)) ro_Mod_form0 35 rfl
theorem d_Mod_form0_62 : decode prog_13_method_41_code 62 = .ok (.iaload, 1) := am_row (r := (62, .iaload, 1)) ro_Mod_form0 36 rfl
theorem d_Mod_form0_63 : decode prog_13_method_41_code 63 = .ok (.aload_n 0, 1) := am_row (r := (63, .aload_n 0, 1)) ro_Mod_form0 37 rfl
theorem d_Mod_form0_64 : decode prog_13_method_41_code 64 = .ok (.getfield 41, 3) := am_row (r := (64, .getfield 41, 3)) ro_Mod_form0 38 rfl
theorem d_Mod_form0_67 : decode prog_13_method_41_code 67 = .ok (.iload_n 3, 1) := am_row (r := (67, .iload_n 3, 1)) ro_Mod_form0 39 rfl
theorem d_Mod_form0_68 : decode prog_13_method_41_code 68 = .ok (.iaload, 1) := am_row (r := (68, .iaload, 1)) ro_Mod_form0 40 rfl
theorem d_Mod_form0_69 : decode prog_13_method_41_code 69 = .ok (.if_icmp .ne 9, 3) := am_row (r := (69, .if_icmp .ne 9, 3)) ro_Mod_form0 41 rfl
theorem d_Mod_form0_72 : decode prog_13_method_41_code 72 = .ok (.iinc 3 1, 3) := am_row (r := (72, .iinc 3 1, 3)) ro_Mod_form0 42 rfl
theorem d_Mod_form0_75 : decode prog_13_method_41_code 75 = .ok (.goto (-30), 3) := am_row (r := (75, .goto (-30), 3)) ro_Mod_form0 43 rfl
theorem d_Mod_form0_78 : decode prog_13_method_41_code 78 = .ok (.iload_n 1, 1) := am_row (r := (78, .iload_n 1, 1)) ro_Mod_form0 44 rfl
theorem d_Mod_form0_79 : decode prog_13_method_41_code 79 = .ok (.ifCond .eq 29, 3) := am_row (r := (79, .ifCond .eq 29, 3)) ro_Mod_form0 45 rfl
theorem d_Mod_form0_82 : decode prog_13_method_41_code 82 = .ok (.iload_n 3, 1) := am_row (r := (82, .iload_n 3, 1)) ro_Mod_form0 46 rfl
theorem d_Mod_form0_83 : decode prog_13_method_41_code 83 = .ok (.aload_n 0, 1) := am_row (r := (83, .aload_n 0, 1)) ro_Mod_form0 47 rfl
theorem d_Mod_form0_84 : decode prog_13_method_41_code 84 = .ok (.invokevirtual 93, 3) := am_row (r := (84, .invokevirtual 93, 3)) ro_Mod_form0 48 rfl
theorem d_Mod_form0_87 : decode prog_13_method_41_code 87 = .ok (.if_icmp .eq 55, 3) := am_row (r := (87, .if_icmp .eq 55, 3)) ro_Mod_form0 49 rfl
theorem d_Mod_form0_90 : decode prog_13_method_41_code 90 = .ok (.aload_n 0, 1) := am_row (r := (90, .aload_n 0, 1)) ro_Mod_form0 50 rfl
theorem d_Mod_form0_91 : decode prog_13_method_41_code 91 = .ok (.getfield 44, 3) := am_row (r := (91, .getfield 44, 3)) ro_Mod_form0 51 rfl
theorem d_Mod_form0_94 : decode prog_13_method_41_code 94 = .ok (.iload_n 3, 1) := am_row (r := (94, .iload_n 3, 1)) ro_Mod_form0 52 rfl
theorem d_Mod_form0_95 : decode prog_13_method_41_code 95 = .ok (.iaload, 1) := am_row (r := (95, .iaload, 1)) ro_Mod_form0 53 rfl
theorem d_Mod_form0_96 : decode prog_13_method_41_code 96 = .ok (.aload_n 0, 1) := am_row (r := (96, .aload_n 0, 1)) ro_Mod_form0 54 rfl
theorem d_Mod_form0_97 : decode prog_13_method_41_code 97 = .ok (.getfield 41, 3) := am_row (r := (97, .getfield 41, 3)) ro_Mod_form0 55 rfl
theorem d_Mod_form0_100 : decode prog_13_method_41_code 100 = .ok (.iload_n 3, 1) := am_row (r := (100, .iload_n 3, 1)) ro_Mod_form0 56 rfl
theorem d_Mod_form0_101 : decode prog_13_method_41_code 101 = .ok (.iaload, 1) := am_row (r := (101, .iaload, 1)) ro_Mod_form0 57 rfl
theorem d_Mod_form0_102 : decode prog_13_method_41_code 102 = .ok (.if_icmp .le 6, 3) := am_row (r := (102, .if_icmp .le 6, 3)) ro_Mod_form0 58 rfl
theorem d_Mod_form0_105 : decode prog_13_method_41_code 105 = .ok (.goto 37, 3) := am_row (r := (105, .goto 37, 3)) ro_Mod_form0 59 rfl
theorem d_Mod_form0_108 : decode prog_13_method_41_code 108 = .ok (.iconst 0, 1) := am_row (r := (108, .iconst 0, 1)) ro_Mod_form0 60 rfl
theorem d_Mod_form0_109 : decode prog_13_method_41_code 109 = .ok (.istore 4, 2) := am_row (r := (109, .istore 4, 2)) ro_Mod_form0 61 rfl
theorem d_Mod_form0_111 : decode prog_13_method_41_code 111 = .ok (.iload 4, 2) := am_row (r := (111, .iload 4, 2)) ro_Mod_form0 62 rfl
theorem d_Mod_form0_113 : decode prog_13_method_41_code 113 = .ok (.aload_n 0, 1) := am_row (r := (113, .aload_n 0, 1)) ro_Mod_form0 63 rfl
theorem d_Mod_form0_114 : decode prog_13_method_41_code 114 = .ok (.invokevirtual 93, 3) := am_row (r := (114, .invokevirtual 93, 3)) ro_Mod_form0 64 rfl
theorem d_Mod_form0_117 : decode prog_13_method_41_code 117 = .ok (.if_icmp .ge 23, 3) := am_row (r := (117, .if_icmp .ge 23, 3)) ro_Mod_form0 65 rfl
theorem d_Mod_form0_120 : decode prog_13_method_41_code 120 = .ok (.aload_n 0, 1) := am_row (r := (120, .aload_n 0, 1)) ro_Mod_form0 66 rfl
theorem d_Mod_form0_121 : decode prog_13_method_41_code 121 = .ok (.getfield 41, 3) := am_row (r := (121, .getfield 41, 3)) ro_Mod_form0 67 rfl
theorem d_Mod_form0_124 : decode prog_13_method_41_code 124 = .ok (.iload 4, 2) := am_row (r := (124, .iload 4, 2)) ro_Mod_form0 68 rfl
theorem d_Mod_form0_126 : decode prog_13_method_41_code 126 = .ok (.aload_n 0, 1) := am_row (r := (126, .aload_n 0, 1)) ro_Mod_form0 69 rfl
theorem d_Mod_form0_127 : decode prog_13_method_41_code 127 = .ok (.getfield 44, 3) := am_row (r := (127, .getfield 44, 3)) ro_Mod_form0 70 rfl
theorem d_Mod_form0_130 : decode prog_13_method_41_code 130 = .ok (.iload 4, 2) := am_row (r := (130, .iload 4, 2)) ro_Mod_form0 71 rfl
theorem d_Mod_form0_132 : decode prog_13_method_41_code 132 = .ok (.iaload, 1) := am_row (r := (132, .iaload, 1)) ro_Mod_form0 72 rfl
theorem d_Mod_form0_133 : decode prog_13_method_41_code 133 = .ok (.iastore, 1) := am_row (r := (133, .iastore, 1)) ro_Mod_form0 73 rfl
theorem d_Mod_form0_134 : decode prog_13_method_41_code 134 = .ok (.iinc 4 1, 3) := am_row (r := (134, .iinc 4 1, 3)) ro_Mod_form0 74 rfl
theorem d_Mod_form0_137 : decode prog_13_method_41_code 137 = .ok (.goto (-26), 3) := am_row (r := (137, .goto (-26), 3)) ro_Mod_form0 75 rfl
theorem d_Mod_form0_140 : decode prog_13_method_41_code 140 = .ok (.iconst 1, 1) := am_row (r := (140, .iconst 1, 1)) ro_Mod_form0 76 rfl
theorem d_Mod_form0_141 : decode prog_13_method_41_code 141 = .ok (.istore_n 1, 1) := am_row (r := (141, .istore_n 1, 1)) ro_Mod_form0 77 rfl
theorem d_Mod_form0_142 : decode prog_13_method_41_code 142 = .ok (.aload_n 0, 1) := am_row (r := (142, .aload_n 0, 1)) ro_Mod_form0 78 rfl
theorem d_Mod_form0_143 : decode prog_13_method_41_code 143 = .ok (.dup, 1) := am_row (r := (143, .dup, 1)) ro_Mod_form0 79 rfl
theorem d_Mod_form0_144 : decode prog_13_method_41_code 144 = .ok (.getfield 140, 3) := am_row (r := (144, .getfield 140, 3)) ro_Mod_form0 80 rfl
theorem d_Mod_form0_147 : decode prog_13_method_41_code 147 = .ok (.iconst 1, 1) := am_row (r := (147, .iconst 1, 1)) ro_Mod_form0 81 rfl
theorem d_Mod_form0_148 : decode prog_13_method_41_code 148 = .ok (.iadd, 1) := am_row (r := (148, .iadd, 1)) ro_Mod_form0 82 rfl
theorem d_Mod_form0_149 : decode prog_13_method_41_code 149 = .ok (.putfield 140, 3) := am_row (r := (149, .putfield 140, 3)) ro_Mod_form0 83 rfl
theorem d_Mod_form0_152 : decode prog_13_method_41_code 152 = .ok (.goto (-124), 3) := am_row (r := (152, .goto (-124), 3)) ro_Mod_form0 84 rfl
theorem d_Mod_form0_155 : decode prog_13_method_41_code 155 = .ok (.iinc 2 1, 3) := am_row (r := (155, .iinc 2 1, 3)) ro_Mod_form0 85 rfl
theorem d_Mod_form0_158 : decode prog_13_method_41_code 158 = .ok (.goto (-154), 3) := am_row (r := (158, .goto (-154), 3)) ro_Mod_form0 86 rfl
theorem d_Mod_form0_161 : decode prog_13_method_41_code 161 = .ok (.return_, 1) := am_row (r := (161, .return_, 1)) ro_Mod_form0 87 rfl
abbrev y_Mod_form : MethodName := ⟨"WheelDiscModel", "form", "(I)I"⟩
theorem c_Mod_form : Cond.code y_Mod_form prog_13_method_42_code 2 (some .int) ∈ am_T := am_mem 1180 (by decide +kernel) rfl
def rw_Mod_form : List (Nat × Instr × Nat) := [(0, .aload_n 0, 1), (1, .iconst 0, 1), (2, .putfield 62, 3), (5, .aload_n 0, 1), (6, .iload_n 1, 1), (7, .invokevirtual 133, 3), (10, .ifCond .ne 9, 3), (13, .aload_n 0, 1), (14, .iconst 1, 1), (15, .invokevirtual 75, 3), (18, .ireturn, 1), (19, .aload_n 0, 1), (20, .invokevirtual 152, 3), (23, .aload_n 0, 1), (24, .getfield 41, 3), (27, .iload_n 1, 1), (28, .iaload, 1), (29, .ireturn, 1)]
theorem ro_Mod_form : rw_Mod_form.all (fun r => decide (decode prog_13_method_42_code r.1 = .ok r.2)) = true := by decide +kernel
theorem d_Mod_form_0 : decode prog_13_method_42_code 0 = .ok (.aload_n 0, 1) := am_row (r := (0, .aload_n 0, 1)) ro_Mod_form 0 rfl
theorem d_Mod_form_1 : decode prog_13_method_42_code 1 = .ok (.iconst 0, 1) := am_row (r := (1, .iconst 0, 1)) ro_Mod_form 1 rfl
theorem d_Mod_form_2 : decode prog_13_method_42_code 2 = .ok (.putfield 62, 3) := am_row (r := (2, .putfield 62, 3)) ro_Mod_form 2 rfl
theorem d_Mod_form_5 : decode prog_13_method_42_code 5 = .ok (.aload_n 0, 1) := am_row (r := (5, .aload_n 0, 1)) ro_Mod_form 3 rfl
theorem d_Mod_form_6 : decode prog_13_method_42_code 6 = .ok (.iload_n 1, 1) := am_row (r := (6, .iload_n 1, 1)) ro_Mod_form 4 rfl
theorem d_Mod_form_7 : decode prog_13_method_42_code 7 = .ok (.invokevirtual 133, 3) := am_row (r := (7, .invokevirtual 133, 3)) ro_Mod_form 5 rfl
theorem d_Mod_form_10 : decode prog_13_method_42_code 10 = .ok (.ifCond .ne 9, 3) := am_row (r := (10, .ifCond .ne 9, 3)) ro_Mod_form 6 rfl
theorem d_Mod_form_13 : decode prog_13_method_42_code 13 = .ok (.aload_n 0, 1) := am_row (r := (13, .aload_n 0, 1)) ro_Mod_form 7 rfl
theorem d_Mod_form_14 : decode prog_13_method_42_code 14 = .ok (.iconst 1, 1) := am_row (r := (14, .iconst 1, 1)) ro_Mod_form 8 rfl
theorem d_Mod_form_15 : decode prog_13_method_42_code 15 = .ok (.invokevirtual 75, 3) := am_row (r := (15, .invokevirtual 75, 3)) ro_Mod_form 9 rfl
theorem d_Mod_form_18 : decode prog_13_method_42_code 18 = .ok (.ireturn, 1) := am_row (r := (18, .ireturn, 1)) ro_Mod_form 10 rfl
theorem d_Mod_form_19 : decode prog_13_method_42_code 19 = .ok (.aload_n 0, 1) := am_row (r := (19, .aload_n 0, 1)) ro_Mod_form 11 rfl
theorem d_Mod_form_20 : decode prog_13_method_42_code 20 = .ok (.invokevirtual 152, 3) := am_row (r := (20, .invokevirtual 152, 3)) ro_Mod_form 12 rfl
theorem d_Mod_form_23 : decode prog_13_method_42_code 23 = .ok (.aload_n 0, 1) := am_row (r := (23, .aload_n 0, 1)) ro_Mod_form 13 rfl
theorem d_Mod_form_24 : decode prog_13_method_42_code 24 = .ok (.getfield 41, 3) := am_row (r := (24, .getfield 41, 3)) ro_Mod_form 14 rfl
theorem d_Mod_form_27 : decode prog_13_method_42_code 27 = .ok (.iload_n 1, 1) := am_row (r := (27, .iload_n 1, 1)) ro_Mod_form 15 rfl
theorem d_Mod_form_28 : decode prog_13_method_42_code 28 = .ok (.iaload, 1) := am_row (r := (28, .iaload, 1)) ro_Mod_form 16 rfl
theorem d_Mod_form_29 : decode prog_13_method_42_code 29 = .ok (.ireturn, 1) := am_row (r := (29, .ireturn, 1)) ro_Mod_form 17 rfl
abbrev y_Mod_keptForm : MethodName := ⟨"WheelDiscModel", "keptForm", "()V"⟩
theorem c_Mod_keptForm : Cond.code y_Mod_keptForm prog_13_method_44_code 2 none ∈ am_T := am_mem 1204 (by decide +kernel) rfl
def rw_Mod_keptForm : List (Nat × Instr × Nat) := [(0, .aload_n 0, 1), (1, .invokevirtual 152, 3), (4, .iconst 0, 1), (5, .istore_n 1, 1), (6, .iload_n 1, 1), (7, .aload_n 0, 1), (8, .invokevirtual 93, 3), (11, .if_icmp .ge 21, 3), (14, .aload_n 0, 1), (15, .getfield 56, 3), (18, .iload_n 1, 1), (19, .aload_n 0, 1), (20, .getfield 41, 3), (23, .iload_n 1, 1), (24, .iaload, 1), (25, .iastore, 1), (26, .iinc 1 1, 3), (29, .goto (-23), 3), (32, .return_, 1)]
theorem ro_Mod_keptForm : rw_Mod_keptForm.all (fun r => decide (decode prog_13_method_44_code r.1 = .ok r.2)) = true := by decide +kernel
theorem d_Mod_keptForm_0 : decode prog_13_method_44_code 0 = .ok (.aload_n 0, 1) := am_row (r := (0, .aload_n 0, 1)) ro_Mod_keptForm 0 rfl
theorem d_Mod_keptForm_1 : decode prog_13_method_44_code 1 = .ok (.invokevirtual 152, 3) := am_row (r := (1, .invokevirtual 152, 3)) ro_Mod_keptForm 1 rfl
theorem d_Mod_keptForm_4 : decode prog_13_method_44_code 4 = .ok (.iconst 0, 1) := am_row (r := (4, .iconst 0, 1)) ro_Mod_keptForm 2 rfl
theorem d_Mod_keptForm_5 : decode prog_13_method_44_code 5 = .ok (.istore_n 1, 1) := am_row (r := (5, .istore_n 1, 1)) ro_Mod_keptForm 3 rfl
theorem d_Mod_keptForm_6 : decode prog_13_method_44_code 6 = .ok (.iload_n 1, 1) := am_row (r := (6, .iload_n 1, 1)) ro_Mod_keptForm 4 rfl
theorem d_Mod_keptForm_7 : decode prog_13_method_44_code 7 = .ok (.aload_n 0, 1) := am_row (r := (7, .aload_n 0, 1)) ro_Mod_keptForm 5 rfl
theorem d_Mod_keptForm_8 : decode prog_13_method_44_code 8 = .ok (.invokevirtual 93, 3) := am_row (r := (8, .invokevirtual 93, 3)) ro_Mod_keptForm 6 rfl
theorem d_Mod_keptForm_11 : decode prog_13_method_44_code 11 = .ok (.if_icmp .ge 21, 3) := am_row (r := (11, .if_icmp .ge 21, 3)) ro_Mod_keptForm 7 rfl
theorem d_Mod_keptForm_14 : decode prog_13_method_44_code 14 = .ok (.aload_n 0, 1) := am_row (r := (14, .aload_n 0, 1)) ro_Mod_keptForm 8 rfl
theorem d_Mod_keptForm_15 : decode prog_13_method_44_code 15 = .ok (.getfield 56, 3) := am_row (r := (15, .getfield 56, 3)) ro_Mod_keptForm 9 rfl
theorem d_Mod_keptForm_18 : decode prog_13_method_44_code 18 = .ok (.iload_n 1, 1) := am_row (r := (18, .iload_n 1, 1)) ro_Mod_keptForm 10 rfl
theorem d_Mod_keptForm_19 : decode prog_13_method_44_code 19 = .ok (.aload_n 0, 1) := am_row (r := (19, .aload_n 0, 1)) ro_Mod_keptForm 11 rfl
theorem d_Mod_keptForm_20 : decode prog_13_method_44_code 20 = .ok (.getfield 41, 3) := am_row (r := (20, .getfield 41, 3)) ro_Mod_keptForm 12 rfl
theorem d_Mod_keptForm_23 : decode prog_13_method_44_code 23 = .ok (.iload_n 1, 1) := am_row (r := (23, .iload_n 1, 1)) ro_Mod_keptForm 13 rfl
theorem d_Mod_keptForm_24 : decode prog_13_method_44_code 24 = .ok (.iaload, 1) := am_row (r := (24, .iaload, 1)) ro_Mod_keptForm 14 rfl
theorem d_Mod_keptForm_25 : decode prog_13_method_44_code 25 = .ok (.iastore, 1) := am_row (r := (25, .iastore, 1)) ro_Mod_keptForm 15 rfl
theorem d_Mod_keptForm_26 : decode prog_13_method_44_code 26 = .ok (.iinc 1 1, 3) := am_row (r := (26, .iinc 1 1, 3)) ro_Mod_keptForm 16 rfl
theorem d_Mod_keptForm_29 : decode prog_13_method_44_code 29 = .ok (.goto (-23), 3) := am_row (r := (29, .goto (-23), 3)) ro_Mod_keptForm 17 rfl
theorem d_Mod_keptForm_32 : decode prog_13_method_44_code 32 = .ok (.return_, 1) := am_row (r := (32, .return_, 1)) ro_Mod_keptForm 18 rfl
abbrev y_Mod_keep : MethodName := ⟨"WheelDiscModel", "keep", "()Z"⟩
theorem c_Mod_keep : Cond.code y_Mod_keep prog_13_method_43_code 1 (some .boolean) ∈ am_T := am_mem 1200 (by decide +kernel) rfl
def rw_Mod_keep : List (Nat × Instr × Nat) := [(0, .aload_n 0, 1), (1, .iconst 0, 1), (2, .putfield 62, 3), (5, .aload_n 0, 1), (6, .iconst 0, 1), (7, .iconst 1, 1), (8, .invokevirtual 71, 3), (11, .aload_n 0, 1), (12, .iconst 1, 1), (13, .putfield 155, 3), (16, .aload_n 0, 1), (17, .invokevirtual 158, 3), (20, .iconst 1, 1), (21, .ireturn, 1)]
theorem ro_Mod_keep : rw_Mod_keep.all (fun r => decide (decode prog_13_method_43_code r.1 = .ok r.2)) = true := by decide +kernel
theorem d_Mod_keep_0 : decode prog_13_method_43_code 0 = .ok (.aload_n 0, 1) := am_row (r := (0, .aload_n 0, 1)) ro_Mod_keep 0 rfl
theorem d_Mod_keep_1 : decode prog_13_method_43_code 1 = .ok (.iconst 0, 1) := am_row (r := (1, .iconst 0, 1)) ro_Mod_keep 1 rfl
theorem d_Mod_keep_2 : decode prog_13_method_43_code 2 = .ok (.putfield 62, 3) := am_row (r := (2, .putfield 62, 3)) ro_Mod_keep 2 rfl
theorem d_Mod_keep_5 : decode prog_13_method_43_code 5 = .ok (.aload_n 0, 1) := am_row (r := (5, .aload_n 0, 1)) ro_Mod_keep 3 rfl
theorem d_Mod_keep_6 : decode prog_13_method_43_code 6 = .ok (.iconst 0, 1) := am_row (r := (6, .iconst 0, 1)) ro_Mod_keep 4 rfl
theorem d_Mod_keep_7 : decode prog_13_method_43_code 7 = .ok (.iconst 1, 1) := am_row (r := (7, .iconst 1, 1)) ro_Mod_keep 5 rfl
theorem d_Mod_keep_8 : decode prog_13_method_43_code 8 = .ok (.invokevirtual 71, 3) := am_row (r := (8, .invokevirtual 71, 3)) ro_Mod_keep 6 rfl
theorem d_Mod_keep_11 : decode prog_13_method_43_code 11 = .ok (.aload_n 0, 1) := am_row (r := (11, .aload_n 0, 1)) ro_Mod_keep 7 rfl
theorem d_Mod_keep_12 : decode prog_13_method_43_code 12 = .ok (.iconst 1, 1) := am_row (r := (12, .iconst 1, 1)) ro_Mod_keep 8 rfl
theorem d_Mod_keep_13 : decode prog_13_method_43_code 13 = .ok (.putfield 155, 3) := am_row (r := (13, .putfield 155, 3)) ro_Mod_keep 9 rfl
theorem d_Mod_keep_16 : decode prog_13_method_43_code 16 = .ok (.aload_n 0, 1) := am_row (r := (16, .aload_n 0, 1)) ro_Mod_keep 10 rfl
theorem d_Mod_keep_17 : decode prog_13_method_43_code 17 = .ok (.invokevirtual 158, 3) := am_row (r := (17, .invokevirtual 158, 3)) ro_Mod_keep 11 rfl
theorem d_Mod_keep_20 : decode prog_13_method_43_code 20 = .ok (.iconst 1, 1) := am_row (r := (20, .iconst 1, 1)) ro_Mod_keep 12 rfl
theorem d_Mod_keep_21 : decode prog_13_method_43_code 21 = .ok (.ireturn, 1) := am_row (r := (21, .ireturn, 1)) ro_Mod_keep 13 rfl
abbrev y_Mod_same : MethodName := ⟨"WheelDiscModel", "same", "()Z"⟩
theorem c_Mod_same : Cond.code y_Mod_same prog_13_method_45_code 3 (some .boolean) ∈ am_T := am_mem 1208 (by decide +kernel) rfl
def rw_Mod_same : List (Nat × Instr × Nat) := [(0, .aload_n 0, 1), (1, .iconst 0, 1), (2, .putfield 62, 3), (5, .aload_n 0, 1), (6, .getfield 155, 3), (9, .ifCond .ne 11, 3), (12, .aload_n 0, 1), (13, .iconst 2, 1), (14, .invokevirtual 75, 3), (17, .pop, 1), (18, .iconst 0, 1), (19, .ireturn, 1), (20, .aload_n 0, 1), (21, .getfield 9, 3), (24, .iconst 3, 1), (25, .iaload, 1), (26, .aload_n 0, 1), (27, .getfield 9, 3), (30, .iconst 0, 1), (31, .iaload, 1), (32, .if_icmp .ne 18, 3), (35, .aload_n 0, 1), (36, .getfield 9, 3), (39, .iconst 5, 1), (40, .iaload, 1), (41, .aload_n 0, 1), (42, .getfield 9, 3), (45, .iconst 2, 1), (46, .iaload, 1), (47, .if_icmp .eq 5, 3), (50, .iconst 0, 1), (51, .ireturn, 1), (52, .aload_n 0, 1), (53, .invokevirtual 152, 3), (56, .iconst 1, 1), (57, .istore_n 1, 1), (58, .iconst 0, 1), (59, .istore_n 2, 1), (60, .iload_n 2, 1), (61, .aload_n 0, 1), (62, .invokevirtual 93, 3), (65, .if_icmp .ge 34, 3), (68, .iload_n 1, 1), (69, .ifCond .eq 22, 3), (72, .aload_n 0, 1), (73, .getfield 41, 3), (76, .iload_n 2, 1), (77, .iaload, 1), (78, .aload_n 0, 1), (79, .getfield 56, 3), (82, .iload_n 2, 1), (83, .iaload, 1), (84, .if_icmp .ne 7, 3), (87, .iconst 1, 1), (88, .goto 4, 3), (91, .iconst 0, 1), (92, .istore_n 1, 1), (93, .iinc 2 1, 3), (96, .goto (-36), 3), (99, .iload_n 1, 1), (100, .ireturn, 1)]
theorem ro_Mod_same : rw_Mod_same.all (fun r => decide (decode prog_13_method_45_code r.1 = .ok r.2)) = true := by decide +kernel
theorem d_Mod_same_0 : decode prog_13_method_45_code 0 = .ok (.aload_n 0, 1) := am_row (r := (0, .aload_n 0, 1)) ro_Mod_same 0 rfl
theorem d_Mod_same_1 : decode prog_13_method_45_code 1 = .ok (.iconst 0, 1) := am_row (r := (1, .iconst 0, 1)) ro_Mod_same 1 rfl
theorem d_Mod_same_2 : decode prog_13_method_45_code 2 = .ok (.putfield 62, 3) := am_row (r := (2, .putfield 62, 3)) ro_Mod_same 2 rfl
theorem d_Mod_same_5 : decode prog_13_method_45_code 5 = .ok (.aload_n 0, 1) := am_row (r := (5, .aload_n 0, 1)) ro_Mod_same 3 rfl
theorem d_Mod_same_6 : decode prog_13_method_45_code 6 = .ok (.getfield 155, 3) := am_row (r := (6, .getfield 155, 3)) ro_Mod_same 4 rfl
theorem d_Mod_same_9 : decode prog_13_method_45_code 9 = .ok (.ifCond .ne 11, 3) := am_row (r := (9, .ifCond .ne 11, 3)) ro_Mod_same 5 rfl
theorem d_Mod_same_12 : decode prog_13_method_45_code 12 = .ok (.aload_n 0, 1) := am_row (r := (12, .aload_n 0, 1)) ro_Mod_same 6 rfl
theorem d_Mod_same_13 : decode prog_13_method_45_code 13 = .ok (.iconst 2, 1) := am_row (r := (13, .iconst 2, 1)) ro_Mod_same 7 rfl
theorem d_Mod_same_14 : decode prog_13_method_45_code 14 = .ok (.invokevirtual 75, 3) := am_row (r := (14, .invokevirtual 75, 3)) ro_Mod_same 8 rfl
theorem d_Mod_same_17 : decode prog_13_method_45_code 17 = .ok (.pop, 1) := am_row (r := (17, .pop, 1)) ro_Mod_same 9 rfl
theorem d_Mod_same_18 : decode prog_13_method_45_code 18 = .ok (.iconst 0, 1) := am_row (r := (18, .iconst 0, 1)) ro_Mod_same 10 rfl
theorem d_Mod_same_19 : decode prog_13_method_45_code 19 = .ok (.ireturn, 1) := am_row (r := (19, .ireturn, 1)) ro_Mod_same 11 rfl
theorem d_Mod_same_20 : decode prog_13_method_45_code 20 = .ok (.aload_n 0, 1) := am_row (r := (20, .aload_n 0, 1)) ro_Mod_same 12 rfl
theorem d_Mod_same_21 : decode prog_13_method_45_code 21 = .ok (.getfield 9, 3) := am_row (r := (21, .getfield 9, 3)) ro_Mod_same 13 rfl
theorem d_Mod_same_24 : decode prog_13_method_45_code 24 = .ok (.iconst 3, 1) := am_row (r := (24, .iconst 3, 1)) ro_Mod_same 14 rfl
theorem d_Mod_same_25 : decode prog_13_method_45_code 25 = .ok (.iaload, 1) := am_row (r := (25, .iaload, 1)) ro_Mod_same 15 rfl
theorem d_Mod_same_26 : decode prog_13_method_45_code 26 = .ok (.aload_n 0, 1) := am_row (r := (26, .aload_n 0, 1)) ro_Mod_same 16 rfl
theorem d_Mod_same_27 : decode prog_13_method_45_code 27 = .ok (.getfield 9, 3) := am_row (r := (27, .getfield 9, 3)) ro_Mod_same 17 rfl
theorem d_Mod_same_30 : decode prog_13_method_45_code 30 = .ok (.iconst 0, 1) := am_row (r := (30, .iconst 0, 1)) ro_Mod_same 18 rfl
theorem d_Mod_same_31 : decode prog_13_method_45_code 31 = .ok (.iaload, 1) := am_row (r := (31, .iaload, 1)) ro_Mod_same 19 rfl
theorem d_Mod_same_32 : decode prog_13_method_45_code 32 = .ok (.if_icmp .ne 18, 3) := am_row (r := (32, .if_icmp .ne 18, 3)) ro_Mod_same 20 rfl
theorem d_Mod_same_35 : decode prog_13_method_45_code 35 = .ok (.aload_n 0, 1) := am_row (r := (35, .aload_n 0, 1)) ro_Mod_same 21 rfl
theorem d_Mod_same_36 : decode prog_13_method_45_code 36 = .ok (.getfield 9, 3) := am_row (r := (36, .getfield 9, 3)) ro_Mod_same 22 rfl
theorem d_Mod_same_39 : decode prog_13_method_45_code 39 = .ok (.iconst 5, 1) := am_row (r := (39, .iconst 5, 1)) ro_Mod_same 23 rfl
theorem d_Mod_same_40 : decode prog_13_method_45_code 40 = .ok (.iaload, 1) := am_row (r := (40, .iaload, 1)) ro_Mod_same 24 rfl
theorem d_Mod_same_41 : decode prog_13_method_45_code 41 = .ok (.aload_n 0, 1) := am_row (r := (41, .aload_n 0, 1)) ro_Mod_same 25 rfl
theorem d_Mod_same_42 : decode prog_13_method_45_code 42 = .ok (.getfield 9, 3) := am_row (r := (42, .getfield 9, 3)) ro_Mod_same 26 rfl
theorem d_Mod_same_45 : decode prog_13_method_45_code 45 = .ok (.iconst 2, 1) := am_row (r := (45, .iconst 2, 1)) ro_Mod_same 27 rfl
theorem d_Mod_same_46 : decode prog_13_method_45_code 46 = .ok (.iaload, 1) := am_row (r := (46, .iaload, 1)) ro_Mod_same 28 rfl
theorem d_Mod_same_47 : decode prog_13_method_45_code 47 = .ok (.if_icmp .eq 5, 3) := am_row (r := (47, .if_icmp .eq 5, 3)) ro_Mod_same 29 rfl
theorem d_Mod_same_50 : decode prog_13_method_45_code 50 = .ok (.iconst 0, 1) := am_row (r := (50, .iconst 0, 1)) ro_Mod_same 30 rfl
theorem d_Mod_same_51 : decode prog_13_method_45_code 51 = .ok (.ireturn, 1) := am_row (r := (51, .ireturn, 1)) ro_Mod_same 31 rfl
theorem d_Mod_same_52 : decode prog_13_method_45_code 52 = .ok (.aload_n 0, 1) := am_row (r := (52, .aload_n 0, 1)) ro_Mod_same 32 rfl
theorem d_Mod_same_53 : decode prog_13_method_45_code 53 = .ok (.invokevirtual 152, 3) := am_row (r := (53, .invokevirtual 152, 3)) ro_Mod_same 33 rfl
theorem d_Mod_same_56 : decode prog_13_method_45_code 56 = .ok (.iconst 1, 1) := am_row (r := (56, .iconst 1, 1)) ro_Mod_same 34 rfl
theorem d_Mod_same_57 : decode prog_13_method_45_code 57 = .ok (.istore_n 1, 1) := am_row (r := (57, .istore_n 1, 1)) ro_Mod_same 35 rfl
theorem d_Mod_same_58 : decode prog_13_method_45_code 58 = .ok (.iconst 0, 1) := am_row (r := (58, .iconst 0, 1)) ro_Mod_same 36 rfl
theorem d_Mod_same_59 : decode prog_13_method_45_code 59 = .ok (.istore_n 2, 1) := am_row (r := (59, .istore_n 2, 1)) ro_Mod_same 37 rfl
theorem d_Mod_same_60 : decode prog_13_method_45_code 60 = .ok (.iload_n 2, 1) := am_row (r := (60, .iload_n 2, 1)) ro_Mod_same 38 rfl
theorem d_Mod_same_61 : decode prog_13_method_45_code 61 = .ok (.aload_n 0, 1) := am_row (r := (61, .aload_n 0, 1)) ro_Mod_same 39 rfl
theorem d_Mod_same_62 : decode prog_13_method_45_code 62 = .ok (.invokevirtual 93, 3) := am_row (r := (62, .invokevirtual 93, 3)) ro_Mod_same 40 rfl
theorem d_Mod_same_65 : decode prog_13_method_45_code 65 = .ok (.if_icmp .ge 34, 3) := am_row (r := (65, .if_icmp .ge 34, 3)) ro_Mod_same 41 rfl
theorem d_Mod_same_68 : decode prog_13_method_45_code 68 = .ok (.iload_n 1, 1) := am_row (r := (68, .iload_n 1, 1)) ro_Mod_same 42 rfl
theorem d_Mod_same_69 : decode prog_13_method_45_code 69 = .ok (.ifCond .eq 22, 3) := am_row (r := (69, .ifCond .eq 22, 3)) ro_Mod_same 43 rfl
theorem d_Mod_same_72 : decode prog_13_method_45_code 72 = .ok (.aload_n 0, 1) := am_row (r := (72, .aload_n 0, 1)) ro_Mod_same 44 rfl
theorem d_Mod_same_73 : decode prog_13_method_45_code 73 = .ok (.getfield 41, 3) := am_row (r := (73, .getfield 41, 3)) ro_Mod_same 45 rfl
theorem d_Mod_same_76 : decode prog_13_method_45_code 76 = .ok (.iload_n 2, 1) := am_row (r := (76, .iload_n 2, 1)) ro_Mod_same 46 rfl
theorem d_Mod_same_77 : decode prog_13_method_45_code 77 = .ok (.iaload, 1) := am_row (r := (77, .iaload, 1)) ro_Mod_same 47 rfl
theorem d_Mod_same_78 : decode prog_13_method_45_code 78 = .ok (.aload_n 0, 1) := am_row (r := (78, .aload_n 0, 1)) ro_Mod_same 48 rfl
theorem d_Mod_same_79 : decode prog_13_method_45_code 79 = .ok (.getfield 56, 3) := am_row (r := (79, .getfield 56, 3)) ro_Mod_same 49 rfl
theorem d_Mod_same_82 : decode prog_13_method_45_code 82 = .ok (.iload_n 2, 1) := am_row (r := (82, .iload_n 2, 1)) ro_Mod_same 50 rfl
theorem d_Mod_same_83 : decode prog_13_method_45_code 83 = .ok (.iaload, 1) := am_row (r := (83, .iaload, 1)) ro_Mod_same 51 rfl
theorem d_Mod_same_84 : decode prog_13_method_45_code 84 = .ok (.if_icmp .ne 7, 3) := am_row (r := (84, .if_icmp .ne 7, 3)) ro_Mod_same 52 rfl
theorem d_Mod_same_87 : decode prog_13_method_45_code 87 = .ok (.iconst 1, 1) := am_row (r := (87, .iconst 1, 1)) ro_Mod_same 53 rfl
theorem d_Mod_same_88 : decode prog_13_method_45_code 88 = .ok (.goto 4, 3) := am_row (r := (88, .goto 4, 3)) ro_Mod_same 54 rfl
theorem d_Mod_same_91 : decode prog_13_method_45_code 91 = .ok (.iconst 0, 1) := am_row (r := (91, .iconst 0, 1)) ro_Mod_same 55 rfl
theorem d_Mod_same_92 : decode prog_13_method_45_code 92 = .ok (.istore_n 1, 1) := am_row (r := (92, .istore_n 1, 1)) ro_Mod_same 56 rfl
theorem d_Mod_same_93 : decode prog_13_method_45_code 93 = .ok (.iinc 2 1, 3) := am_row (r := (93, .iinc 2 1, 3)) ro_Mod_same 57 rfl
theorem d_Mod_same_96 : decode prog_13_method_45_code 96 = .ok (.goto (-36), 3) := am_row (r := (96, .goto (-36), 3)) ro_Mod_same 58 rfl
theorem d_Mod_same_99 : decode prog_13_method_45_code 99 = .ok (.iload_n 1, 1) := am_row (r := (99, .iload_n 1, 1)) ro_Mod_same 59 rfl
theorem d_Mod_same_100 : decode prog_13_method_45_code 100 = .ok (.ireturn, 1) := am_row (r := (100, .ireturn, 1)) ro_Mod_same 60 rfl
abbrev y_Mod_gray : MethodName := ⟨"WheelDiscModel", "gray", "(II)Z"⟩
theorem c_Mod_gray : Cond.code y_Mod_gray prog_13_method_46_code 8 (some .boolean) ∈ am_T := am_mem 1212 (by decide +kernel) rfl
def rw_Mod_gray : List (Nat × Instr × Nat) := [(0, .aload_n 0, 1), (1, .iconst 0, 1), (2, .putfield 62, 3), (5, .iload_n 1, 1), (6, .iconst 2, 1), (7, .irem, 1), (8, .ifCond .ne 33, 3), (11, .iload_n 1, 1), (12, .iconst 4, 1), (13, .if_icmp .lt 28, 3), (16, .iload_n 1, 1), (17, .sipush 512, 3), (20, .if_icmp .gt 21, 3), (23, .iload_n 2, 1), (24, .iconst 2, 1), (25, .if_icmp .lt 16, 3), (28, .iload_n 2, 1), (29, .bipush 10, 2), (31, .if_icmp .gt 10, 3), (34, .iconst 1, 1), (35, .iload_n 2, 1), (36, .ishl, 1), (37, .iload_n 1, 1), (38, .if_icmp .ge 11, 3), (41, .aload_n 0, 1), (42, .iconst 1, 1), (43, .invokevirtual 75, 3), (46, .pop, 1), (47, .iconst 0, 1), (48, .ireturn, 1), (49, .aload_n 0, 1), (50, .invokevirtual 82, 3), (53, .aload_n 0, 1), (54, .iload_n 1, 1), (55, .invokevirtual 85, 3), (58, .iconst 0, 1), (59, .istore_n 3, 1), (60, .iconst 1, 1), (61, .iload_n 3, 1), (62, .ishl, 1), (63, .iload_n 1, 1), (64, .if_icmp .ge 9, 3), (67, .iinc 3 1, 3), (70, .goto (-10), 3), (73, .iconst 0, 1), (74, .istore 4, 2), (76, .iload 4, 2), (78, .iload_n 1, 1), (79, .if_icmp .ge 79, 3), (82, .iconst 1, 1), (83, .iload_n 3, 1), (84, .ishl, 1), (85, .iload_n 1, 1), (86, .isub, 1), (87, .iconst 2, 1), (88, .idiv, 1), (89, .iload 4, 2), (91, .iadd, 1), (92, .istore 5, 2), (94, .iload 5, 2), (96, .iload 5, 2), (98, .iconst 1, 1), (99, .ishr, 1), (100, .ixor, 1), (101, .istore 6, 2), (103, .iconst 0, 1), (104, .istore 7, 2), (106, .iload 7, 2), (108, .iload_n 2, 1), (109, .if_icmp .ge 43, 3), (112, .aload_n 0, 1), (113, .getfield 20, 3), (116, .sipush 512, 3), (119, .iload 7, 2), (121, .imul, 1), (122, .iload 4, 2), (124, .iadd, 1), (125, .iload 6, 2), (127, .iload_n 2, 1), (128, .iconst 1, 1), (129, .isub, 1), (130, .iload 7, 2), (132, .isub, 1), (133, .ishr, 1), (134, .iconst 1, 1), (135, .iand, 1), (136, .iconst 1, 1), (137, .if_icmp .ne 7, 3), (140, .iconst 1, 1), (141, .goto 4, 3), (144, .iconst 0, 1), (145, .bastore, 1), (146, .iinc 7 1, 3), (149, .goto (-43), 3), (152, .iinc 4 1, 3), (155, .goto (-79), 3), (158, .aload_n 0, 1), (159, .getfield 9, 3), (162, .iconst 1, 1), (163, .iload_n 2, 1), (164, .iastore, 1), (165, .aload_n 0, 1), (166, .getfield 9, 3), (169, .iconst 2, 1), (170, .iload_n 2, 1), (171, .iastore, 1), (172, .iconst 0, 1), (173, .istore 4, 2), (175, .iload 4, 2), (177, .iload_n 2, 1), (178, .if_icmp .ge 26, 3), (181, .aload_n 0, 1), (182, .getfield 13, 3), (185, .iload 4, 2), (187, .iload 4, 2), (189, .iastore, 1), (190, .aload_n 0, 1), (191, .getfield 16, 3), (194, .iload 4, 2), (196, .iconst 0, 1), (197, .iastore, 1), (198, .iinc 4 1, 3), (201, .goto (-26), 3), (204, .iconst 1, 1), (205, .ireturn, 1)]
theorem ro_Mod_gray : rw_Mod_gray.all (fun r => decide (decode prog_13_method_46_code r.1 = .ok r.2)) = true := by decide +kernel
theorem d_Mod_gray_0 : decode prog_13_method_46_code 0 = .ok (.aload_n 0, 1) := am_row (r := (0, .aload_n 0, 1)) ro_Mod_gray 0 rfl
theorem d_Mod_gray_1 : decode prog_13_method_46_code 1 = .ok (.iconst 0, 1) := am_row (r := (1, .iconst 0, 1)) ro_Mod_gray 1 rfl
theorem d_Mod_gray_2 : decode prog_13_method_46_code 2 = .ok (.putfield 62, 3) := am_row (r := (2, .putfield 62, 3)) ro_Mod_gray 2 rfl
theorem d_Mod_gray_5 : decode prog_13_method_46_code 5 = .ok (.iload_n 1, 1) := am_row (r := (5, .iload_n 1, 1)) ro_Mod_gray 3 rfl
theorem d_Mod_gray_6 : decode prog_13_method_46_code 6 = .ok (.iconst 2, 1) := am_row (r := (6, .iconst 2, 1)) ro_Mod_gray 4 rfl
theorem d_Mod_gray_7 : decode prog_13_method_46_code 7 = .ok (.irem, 1) := am_row (r := (7, .irem, 1)) ro_Mod_gray 5 rfl
theorem d_Mod_gray_8 : decode prog_13_method_46_code 8 = .ok (.ifCond .ne 33, 3) := am_row (r := (8, .ifCond .ne 33, 3)) ro_Mod_gray 6 rfl
theorem d_Mod_gray_11 : decode prog_13_method_46_code 11 = .ok (.iload_n 1, 1) := am_row (r := (11, .iload_n 1, 1)) ro_Mod_gray 7 rfl
theorem d_Mod_gray_12 : decode prog_13_method_46_code 12 = .ok (.iconst 4, 1) := am_row (r := (12, .iconst 4, 1)) ro_Mod_gray 8 rfl
theorem d_Mod_gray_13 : decode prog_13_method_46_code 13 = .ok (.if_icmp .lt 28, 3) := am_row (r := (13, .if_icmp .lt 28, 3)) ro_Mod_gray 9 rfl
theorem d_Mod_gray_16 : decode prog_13_method_46_code 16 = .ok (.iload_n 1, 1) := am_row (r := (16, .iload_n 1, 1)) ro_Mod_gray 10 rfl
theorem d_Mod_gray_17 : decode prog_13_method_46_code 17 = .ok (.sipush 512, 3) := am_row (r := (17, .sipush 512, 3)) ro_Mod_gray 11 rfl
theorem d_Mod_gray_20 : decode prog_13_method_46_code 20 = .ok (.if_icmp .gt 21, 3) := am_row (r := (20, .if_icmp .gt 21, 3)) ro_Mod_gray 12 rfl
theorem d_Mod_gray_23 : decode prog_13_method_46_code 23 = .ok (.iload_n 2, 1) := am_row (r := (23, .iload_n 2, 1)) ro_Mod_gray 13 rfl
theorem d_Mod_gray_24 : decode prog_13_method_46_code 24 = .ok (.iconst 2, 1) := am_row (r := (24, .iconst 2, 1)) ro_Mod_gray 14 rfl
theorem d_Mod_gray_25 : decode prog_13_method_46_code 25 = .ok (.if_icmp .lt 16, 3) := am_row (r := (25, .if_icmp .lt 16, 3)) ro_Mod_gray 15 rfl
theorem d_Mod_gray_28 : decode prog_13_method_46_code 28 = .ok (.iload_n 2, 1) := am_row (r := (28, .iload_n 2, 1)) ro_Mod_gray 16 rfl
theorem d_Mod_gray_29 : decode prog_13_method_46_code 29 = .ok (.bipush 10, 2) := am_row (r := (29, .bipush 10, 2)) ro_Mod_gray 17 rfl
theorem d_Mod_gray_31 : decode prog_13_method_46_code 31 = .ok (.if_icmp .gt 10, 3) := am_row (r := (31, .if_icmp .gt 10, 3)) ro_Mod_gray 18 rfl
theorem d_Mod_gray_34 : decode prog_13_method_46_code 34 = .ok (.iconst 1, 1) := am_row (r := (34, .iconst 1, 1)) ro_Mod_gray 19 rfl
theorem d_Mod_gray_35 : decode prog_13_method_46_code 35 = .ok (.iload_n 2, 1) := am_row (r := (35, .iload_n 2, 1)) ro_Mod_gray 20 rfl
theorem d_Mod_gray_36 : decode prog_13_method_46_code 36 = .ok (.ishl, 1) := am_row (r := (36, .ishl, 1)) ro_Mod_gray 21 rfl
theorem d_Mod_gray_37 : decode prog_13_method_46_code 37 = .ok (.iload_n 1, 1) := am_row (r := (37, .iload_n 1, 1)) ro_Mod_gray 22 rfl
theorem d_Mod_gray_38 : decode prog_13_method_46_code 38 = .ok (.if_icmp .ge 11, 3) := am_row (r := (38, .if_icmp .ge 11, 3)) ro_Mod_gray 23 rfl
theorem d_Mod_gray_41 : decode prog_13_method_46_code 41 = .ok (.aload_n 0, 1) := am_row (r := (41, .aload_n 0, 1)) ro_Mod_gray 24 rfl
theorem d_Mod_gray_42 : decode prog_13_method_46_code 42 = .ok (.iconst 1, 1) := am_row (r := (42, .iconst 1, 1)) ro_Mod_gray 25 rfl
theorem d_Mod_gray_43 : decode prog_13_method_46_code 43 = .ok (.invokevirtual 75, 3) := am_row (r := (43, .invokevirtual 75, 3)) ro_Mod_gray 26 rfl
theorem d_Mod_gray_46 : decode prog_13_method_46_code 46 = .ok (.pop, 1) := am_row (r := (46, .pop, 1)) ro_Mod_gray 27 rfl
theorem d_Mod_gray_47 : decode prog_13_method_46_code 47 = .ok (.iconst 0, 1) := am_row (r := (47, .iconst 0, 1)) ro_Mod_gray 28 rfl
theorem d_Mod_gray_48 : decode prog_13_method_46_code 48 = .ok (.ireturn, 1) := am_row (r := (48, .ireturn, 1)) ro_Mod_gray 29 rfl
theorem d_Mod_gray_49 : decode prog_13_method_46_code 49 = .ok (.aload_n 0, 1) := am_row (r := (49, .aload_n 0, 1)) ro_Mod_gray 30 rfl
theorem d_Mod_gray_50 : decode prog_13_method_46_code 50 = .ok (.invokevirtual 82, 3) := am_row (r := (50, .invokevirtual 82, 3)) ro_Mod_gray 31 rfl
theorem d_Mod_gray_53 : decode prog_13_method_46_code 53 = .ok (.aload_n 0, 1) := am_row (r := (53, .aload_n 0, 1)) ro_Mod_gray 32 rfl
theorem d_Mod_gray_54 : decode prog_13_method_46_code 54 = .ok (.iload_n 1, 1) := am_row (r := (54, .iload_n 1, 1)) ro_Mod_gray 33 rfl
theorem d_Mod_gray_55 : decode prog_13_method_46_code 55 = .ok (.invokevirtual 85, 3) := am_row (r := (55, .invokevirtual 85, 3)) ro_Mod_gray 34 rfl
theorem d_Mod_gray_58 : decode prog_13_method_46_code 58 = .ok (.iconst 0, 1) := am_row (r := (58, .iconst 0, 1)) ro_Mod_gray 35 rfl
theorem d_Mod_gray_59 : decode prog_13_method_46_code 59 = .ok (.istore_n 3, 1) := am_row (r := (59, .istore_n 3, 1)) ro_Mod_gray 36 rfl
theorem d_Mod_gray_60 : decode prog_13_method_46_code 60 = .ok (.iconst 1, 1) := am_row (r := (60, .iconst 1, 1)) ro_Mod_gray 37 rfl
theorem d_Mod_gray_61 : decode prog_13_method_46_code 61 = .ok (.iload_n 3, 1) := am_row (r := (61, .iload_n 3, 1)) ro_Mod_gray 38 rfl
theorem d_Mod_gray_62 : decode prog_13_method_46_code 62 = .ok (.ishl, 1) := am_row (r := (62, .ishl, 1)) ro_Mod_gray 39 rfl
theorem d_Mod_gray_63 : decode prog_13_method_46_code 63 = .ok (.iload_n 1, 1) := am_row (r := (63, .iload_n 1, 1)) ro_Mod_gray 40 rfl
theorem d_Mod_gray_64 : decode prog_13_method_46_code 64 = .ok (.if_icmp .ge 9, 3) := am_row (r := (64, .if_icmp .ge 9, 3)) ro_Mod_gray 41 rfl
theorem d_Mod_gray_67 : decode prog_13_method_46_code 67 = .ok (.iinc 3 1, 3) := am_row (r := (67, .iinc 3 1, 3)) ro_Mod_gray 42 rfl
theorem d_Mod_gray_70 : decode prog_13_method_46_code 70 = .ok (.goto (-10), 3) := am_row (r := (70, .goto (-10), 3)) ro_Mod_gray 43 rfl
theorem d_Mod_gray_73 : decode prog_13_method_46_code 73 = .ok (.iconst 0, 1) := am_row (r := (73, .iconst 0, 1)) ro_Mod_gray 44 rfl
theorem d_Mod_gray_74 : decode prog_13_method_46_code 74 = .ok (.istore 4, 2) := am_row (r := (74, .istore 4, 2)) ro_Mod_gray 45 rfl
theorem d_Mod_gray_76 : decode prog_13_method_46_code 76 = .ok (.iload 4, 2) := am_row (r := (76, .iload 4, 2)) ro_Mod_gray 46 rfl
theorem d_Mod_gray_78 : decode prog_13_method_46_code 78 = .ok (.iload_n 1, 1) := am_row (r := (78, .iload_n 1, 1)) ro_Mod_gray 47 rfl
theorem d_Mod_gray_79 : decode prog_13_method_46_code 79 = .ok (.if_icmp .ge 79, 3) := am_row (r := (79, .if_icmp .ge 79, 3)) ro_Mod_gray 48 rfl
theorem d_Mod_gray_82 : decode prog_13_method_46_code 82 = .ok (.iconst 1, 1) := am_row (r := (82, .iconst 1, 1)) ro_Mod_gray 49 rfl
theorem d_Mod_gray_83 : decode prog_13_method_46_code 83 = .ok (.iload_n 3, 1) := am_row (r := (83, .iload_n 3, 1)) ro_Mod_gray 50 rfl
theorem d_Mod_gray_84 : decode prog_13_method_46_code 84 = .ok (.ishl, 1) := am_row (r := (84, .ishl, 1)) ro_Mod_gray 51 rfl
theorem d_Mod_gray_85 : decode prog_13_method_46_code 85 = .ok (.iload_n 1, 1) := am_row (r := (85, .iload_n 1, 1)) ro_Mod_gray 52 rfl
theorem d_Mod_gray_86 : decode prog_13_method_46_code 86 = .ok (.isub, 1) := am_row (r := (86, .isub, 1)) ro_Mod_gray 53 rfl
theorem d_Mod_gray_87 : decode prog_13_method_46_code 87 = .ok (.iconst 2, 1) := am_row (r := (87, .iconst 2, 1)) ro_Mod_gray 54 rfl
theorem d_Mod_gray_88 : decode prog_13_method_46_code 88 = .ok (.idiv, 1) := am_row (r := (88, .idiv, 1)) ro_Mod_gray 55 rfl
theorem d_Mod_gray_89 : decode prog_13_method_46_code 89 = .ok (.iload 4, 2) := am_row (r := (89, .iload 4, 2)) ro_Mod_gray 56 rfl
theorem d_Mod_gray_91 : decode prog_13_method_46_code 91 = .ok (.iadd, 1) := am_row (r := (91, .iadd, 1)) ro_Mod_gray 57 rfl
theorem d_Mod_gray_92 : decode prog_13_method_46_code 92 = .ok (.istore 5, 2) := am_row (r := (92, .istore 5, 2)) ro_Mod_gray 58 rfl
theorem d_Mod_gray_94 : decode prog_13_method_46_code 94 = .ok (.iload 5, 2) := am_row (r := (94, .iload 5, 2)) ro_Mod_gray 59 rfl
theorem d_Mod_gray_96 : decode prog_13_method_46_code 96 = .ok (.iload 5, 2) := am_row (r := (96, .iload 5, 2)) ro_Mod_gray 60 rfl
theorem d_Mod_gray_98 : decode prog_13_method_46_code 98 = .ok (.iconst 1, 1) := am_row (r := (98, .iconst 1, 1)) ro_Mod_gray 61 rfl
theorem d_Mod_gray_99 : decode prog_13_method_46_code 99 = .ok (.ishr, 1) := am_row (r := (99, .ishr, 1)) ro_Mod_gray 62 rfl
theorem d_Mod_gray_100 : decode prog_13_method_46_code 100 = .ok (.ixor, 1) := am_row (r := (100, .ixor, 1)) ro_Mod_gray 63 rfl
theorem d_Mod_gray_101 : decode prog_13_method_46_code 101 = .ok (.istore 6, 2) := am_row (r := (101, .istore 6, 2)) ro_Mod_gray 64 rfl
theorem d_Mod_gray_103 : decode prog_13_method_46_code 103 = .ok (.iconst 0, 1) := am_row (r := (103, .iconst 0, 1)) ro_Mod_gray 65 rfl
theorem d_Mod_gray_104 : decode prog_13_method_46_code 104 = .ok (.istore 7, 2) := am_row (r := (104, .istore 7, 2)) ro_Mod_gray 66 rfl
theorem d_Mod_gray_106 : decode prog_13_method_46_code 106 = .ok (.iload 7, 2) := am_row (r := (106, .iload 7, 2)) ro_Mod_gray 67 rfl
theorem d_Mod_gray_108 : decode prog_13_method_46_code 108 = .ok (.iload_n 2, 1) := am_row (r := (108, .iload_n 2, 1)) ro_Mod_gray 68 rfl
theorem d_Mod_gray_109 : decode prog_13_method_46_code 109 = .ok (.if_icmp .ge 43, 3) := am_row (r := (109, .if_icmp .ge 43, 3)) ro_Mod_gray 69 rfl
theorem d_Mod_gray_112 : decode prog_13_method_46_code 112 = .ok (.aload_n 0, 1) := am_row (r := (112, .aload_n 0, 1)) ro_Mod_gray 70 rfl
theorem d_Mod_gray_113 : decode prog_13_method_46_code 113 = .ok (.getfield 20, 3) := am_row (r := (113, .getfield 20, 3)) ro_Mod_gray 71 rfl
theorem d_Mod_gray_116 : decode prog_13_method_46_code 116 = .ok (.sipush 512, 3) := am_row (r := (116, .sipush 512, 3)) ro_Mod_gray 72 rfl
theorem d_Mod_gray_119 : decode prog_13_method_46_code 119 = .ok (.iload 7, 2) := am_row (r := (119, .iload 7, 2)) ro_Mod_gray 73 rfl
theorem d_Mod_gray_121 : decode prog_13_method_46_code 121 = .ok (.imul, 1) := am_row (r := (121, .imul, 1)) ro_Mod_gray 74 rfl
theorem d_Mod_gray_122 : decode prog_13_method_46_code 122 = .ok (.iload 4, 2) := am_row (r := (122, .iload 4, 2)) ro_Mod_gray 75 rfl
theorem d_Mod_gray_124 : decode prog_13_method_46_code 124 = .ok (.iadd, 1) := am_row (r := (124, .iadd, 1)) ro_Mod_gray 76 rfl
theorem d_Mod_gray_125 : decode prog_13_method_46_code 125 = .ok (.iload 6, 2) := am_row (r := (125, .iload 6, 2)) ro_Mod_gray 77 rfl
theorem d_Mod_gray_127 : decode prog_13_method_46_code 127 = .ok (.iload_n 2, 1) := am_row (r := (127, .iload_n 2, 1)) ro_Mod_gray 78 rfl
theorem d_Mod_gray_128 : decode prog_13_method_46_code 128 = .ok (.iconst 1, 1) := am_row (r := (128, .iconst 1, 1)) ro_Mod_gray 79 rfl
theorem d_Mod_gray_129 : decode prog_13_method_46_code 129 = .ok (.isub, 1) := am_row (r := (129, .isub, 1)) ro_Mod_gray 80 rfl
theorem d_Mod_gray_130 : decode prog_13_method_46_code 130 = .ok (.iload 7, 2) := am_row (r := (130, .iload 7, 2)) ro_Mod_gray 81 rfl
theorem d_Mod_gray_132 : decode prog_13_method_46_code 132 = .ok (.isub, 1) := am_row (r := (132, .isub, 1)) ro_Mod_gray 82 rfl
theorem d_Mod_gray_133 : decode prog_13_method_46_code 133 = .ok (.ishr, 1) := am_row (r := (133, .ishr, 1)) ro_Mod_gray 83 rfl
theorem d_Mod_gray_134 : decode prog_13_method_46_code 134 = .ok (.iconst 1, 1) := am_row (r := (134, .iconst 1, 1)) ro_Mod_gray 84 rfl
theorem d_Mod_gray_135 : decode prog_13_method_46_code 135 = .ok (.iand, 1) := am_row (r := (135, .iand, 1)) ro_Mod_gray 85 rfl
theorem d_Mod_gray_136 : decode prog_13_method_46_code 136 = .ok (.iconst 1, 1) := am_row (r := (136, .iconst 1, 1)) ro_Mod_gray 86 rfl
theorem d_Mod_gray_137 : decode prog_13_method_46_code 137 = .ok (.if_icmp .ne 7, 3) := am_row (r := (137, .if_icmp .ne 7, 3)) ro_Mod_gray 87 rfl
theorem d_Mod_gray_140 : decode prog_13_method_46_code 140 = .ok (.iconst 1, 1) := am_row (r := (140, .iconst 1, 1)) ro_Mod_gray 88 rfl
theorem d_Mod_gray_141 : decode prog_13_method_46_code 141 = .ok (.goto 4, 3) := am_row (r := (141, .goto 4, 3)) ro_Mod_gray 89 rfl
theorem d_Mod_gray_144 : decode prog_13_method_46_code 144 = .ok (.iconst 0, 1) := am_row (r := (144, .iconst 0, 1)) ro_Mod_gray 90 rfl
theorem d_Mod_gray_145 : decode prog_13_method_46_code 145 = .ok (.bastore, 1) := am_row (r := (145, .bastore, 1)) ro_Mod_gray 91 rfl
theorem d_Mod_gray_146 : decode prog_13_method_46_code 146 = .ok (.iinc 7 1, 3) := am_row (r := (146, .iinc 7 1, 3)) ro_Mod_gray 92 rfl
theorem d_Mod_gray_149 : decode prog_13_method_46_code 149 = .ok (.goto (-43), 3) := am_row (r := (149, .goto (-43), 3)) ro_Mod_gray 93 rfl
theorem d_Mod_gray_152 : decode prog_13_method_46_code 152 = .ok (.iinc 4 1, 3) := am_row (r := (152, .iinc 4 1, 3)) ro_Mod_gray 94 rfl
theorem d_Mod_gray_155 : decode prog_13_method_46_code 155 = .ok (.goto (-79), 3) := am_row (r := (155, .goto (-79), 3)) ro_Mod_gray 95 rfl
theorem d_Mod_gray_158 : decode prog_13_method_46_code 158 = .ok (.aload_n 0, 1) := am_row (r := (158, .aload_n 0, 1)) ro_Mod_gray 96 rfl
theorem d_Mod_gray_159 : decode prog_13_method_46_code 159 = .ok (.getfield 9, 3) := am_row (r := (159, .getfield 9, 3)) ro_Mod_gray 97 rfl
theorem d_Mod_gray_162 : decode prog_13_method_46_code 162 = .ok (.iconst 1, 1) := am_row (r := (162, .iconst 1, 1)) ro_Mod_gray 98 rfl
theorem d_Mod_gray_163 : decode prog_13_method_46_code 163 = .ok (.iload_n 2, 1) := am_row (r := (163, .iload_n 2, 1)) ro_Mod_gray 99 rfl
theorem d_Mod_gray_164 : decode prog_13_method_46_code 164 = .ok (.iastore, 1) := am_row (r := (164, .iastore, 1)) ro_Mod_gray 100 rfl
theorem d_Mod_gray_165 : decode prog_13_method_46_code 165 = .ok (.aload_n 0, 1) := am_row (r := (165, .aload_n 0, 1)) ro_Mod_gray 101 rfl
theorem d_Mod_gray_166 : decode prog_13_method_46_code 166 = .ok (.getfield 9, 3) := am_row (r := (166, .getfield 9, 3)) ro_Mod_gray 102 rfl
theorem d_Mod_gray_169 : decode prog_13_method_46_code 169 = .ok (.iconst 2, 1) := am_row (r := (169, .iconst 2, 1)) ro_Mod_gray 103 rfl
theorem d_Mod_gray_170 : decode prog_13_method_46_code 170 = .ok (.iload_n 2, 1) := am_row (r := (170, .iload_n 2, 1)) ro_Mod_gray 104 rfl
theorem d_Mod_gray_171 : decode prog_13_method_46_code 171 = .ok (.iastore, 1) := am_row (r := (171, .iastore, 1)) ro_Mod_gray 105 rfl
theorem d_Mod_gray_172 : decode prog_13_method_46_code 172 = .ok (.iconst 0, 1) := am_row (r := (172, .iconst 0, 1)) ro_Mod_gray 106 rfl
theorem d_Mod_gray_173 : decode prog_13_method_46_code 173 = .ok (.istore 4, 2) := am_row (r := (173, .istore 4, 2)) ro_Mod_gray 107 rfl
theorem d_Mod_gray_175 : decode prog_13_method_46_code 175 = .ok (.iload 4, 2) := am_row (r := (175, .iload 4, 2)) ro_Mod_gray 108 rfl
theorem d_Mod_gray_177 : decode prog_13_method_46_code 177 = .ok (.iload_n 2, 1) := am_row (r := (177, .iload_n 2, 1)) ro_Mod_gray 109 rfl
theorem d_Mod_gray_178 : decode prog_13_method_46_code 178 = .ok (.if_icmp .ge 26, 3) := am_row (r := (178, .if_icmp .ge 26, 3)) ro_Mod_gray 110 rfl
theorem d_Mod_gray_181 : decode prog_13_method_46_code 181 = .ok (.aload_n 0, 1) := am_row (r := (181, .aload_n 0, 1)) ro_Mod_gray 111 rfl
theorem d_Mod_gray_182 : decode prog_13_method_46_code 182 = .ok (.getfield 13, 3) := am_row (r := (182, .getfield 13, 3)) ro_Mod_gray 112 rfl
theorem d_Mod_gray_185 : decode prog_13_method_46_code 185 = .ok (.iload 4, 2) := am_row (r := (185, .iload 4, 2)) ro_Mod_gray 113 rfl
theorem d_Mod_gray_187 : decode prog_13_method_46_code 187 = .ok (.iload 4, 2) := am_row (r := (187, .iload 4, 2)) ro_Mod_gray 114 rfl
theorem d_Mod_gray_189 : decode prog_13_method_46_code 189 = .ok (.iastore, 1) := am_row (r := (189, .iastore, 1)) ro_Mod_gray 115 rfl
theorem d_Mod_gray_190 : decode prog_13_method_46_code 190 = .ok (.aload_n 0, 1) := am_row (r := (190, .aload_n 0, 1)) ro_Mod_gray 116 rfl
theorem d_Mod_gray_191 : decode prog_13_method_46_code 191 = .ok (.getfield 16, 3) := am_row (r := (191, .getfield 16, 3)) ro_Mod_gray 117 rfl
theorem d_Mod_gray_194 : decode prog_13_method_46_code 194 = .ok (.iload 4, 2) := am_row (r := (194, .iload 4, 2)) ro_Mod_gray 118 rfl
theorem d_Mod_gray_196 : decode prog_13_method_46_code 196 = .ok (.iconst 0, 1) := am_row (r := (196, .iconst 0, 1)) ro_Mod_gray 119 rfl
theorem d_Mod_gray_197 : decode prog_13_method_46_code 197 = .ok (.iastore, 1) := am_row (r := (197, .iastore, 1)) ro_Mod_gray 120 rfl
theorem d_Mod_gray_198 : decode prog_13_method_46_code 198 = .ok (.iinc 4 1, 3) := am_row (r := (198, .iinc 4 1, 3)) ro_Mod_gray 121 rfl
theorem d_Mod_gray_201 : decode prog_13_method_46_code 201 = .ok (.goto (-26), 3) := am_row (r := (201, .goto (-26), 3)) ro_Mod_gray 122 rfl
theorem d_Mod_gray_204 : decode prog_13_method_46_code 204 = .ok (.iconst 1, 1) := am_row (r := (204, .iconst 1, 1)) ro_Mod_gray 123 rfl
theorem d_Mod_gray_205 : decode prog_13_method_46_code 205 = .ok (.ireturn, 1) := am_row (r := (205, .ireturn, 1)) ro_Mod_gray 124 rfl
abbrev y_Mod_string : MethodName := ⟨"WheelDiscModel", "string", "(III)V"⟩
theorem c_Mod_string : Cond.code y_Mod_string prog_13_method_47_code 5 none ∈ am_T := am_mem 1220 (by decide +kernel) rfl
def rw_Mod_string : List (Nat × Instr × Nat) := [(0, .iload_n 1, 1), (1, .iload_n 3, 1), (2, .if_icmp .le 61, 3), (5, .iload_n 3, 1), (6, .iload_n 2, 1), (7, .irem, 1), (8, .ifCond .eq 4, 3), (11, .return_, 1), (12, .iconst 1, 1), (13, .istore 4, 2), (15, .iload 4, 2), (17, .iload_n 2, 1), (18, .if_icmp .gt 44, 3), (21, .aload_n 0, 1), (22, .getfield 20, 3), (25, .aload_n 0, 1), (26, .getfield 161, 3), (29, .aload_n 0, 1), (30, .getfield 59, 3), (33, .iload 4, 2), (35, .iaload, 1), (36, .iconst 1, 1), (37, .if_icmp .ne 7, 3), (40, .iconst 1, 1), (41, .goto 4, 3), (44, .iconst 0, 1), (45, .bastore, 1), (46, .aload_n 0, 1), (47, .dup, 1), (48, .getfield 161, 3), (51, .iconst 1, 1), (52, .iadd, 1), (53, .putfield 161, 3), (56, .iinc 4 1, 3), (59, .goto (-44), 3), (62, .return_, 1), (63, .aload_n 0, 1), (64, .getfield 59, 3), (67, .iload_n 1, 1), (68, .aload_n 0, 1), (69, .getfield 59, 3), (72, .iload_n 1, 1), (73, .iload_n 2, 1), (74, .isub, 1), (75, .iaload, 1), (76, .iastore, 1), (77, .aload_n 0, 1), (78, .iload_n 1, 1), (79, .iconst 1, 1), (80, .iadd, 1), (81, .iload_n 2, 1), (82, .iload_n 3, 1), (83, .invokevirtual 164, 3), (86, .aload_n 0, 1), (87, .getfield 59, 3), (90, .iload_n 1, 1), (91, .iload_n 2, 1), (92, .isub, 1), (93, .iaload, 1), (94, .iconst 1, 1), (95, .iadd, 1), (96, .istore 4, 2), (98, .iload 4, 2), (100, .iconst 2, 1), (101, .if_icmp .ge 26, 3), (104, .aload_n 0, 1), (105, .getfield 59, 3), (108, .iload_n 1, 1), (109, .iload 4, 2), (111, .iastore, 1), (112, .aload_n 0, 1), (113, .iload_n 1, 1), (114, .iconst 1, 1), (115, .iadd, 1), (116, .iload_n 1, 1), (117, .iload_n 3, 1), (118, .invokevirtual 164, 3), (121, .iinc 4 1, 3), (124, .goto (-26), 3), (127, .return_, 1)]
theorem ro_Mod_string : rw_Mod_string.all (fun r => decide (decode prog_13_method_47_code r.1 = .ok r.2)) = true := by decide +kernel
theorem d_Mod_string_0 : decode prog_13_method_47_code 0 = .ok (.iload_n 1, 1) := am_row (r := (0, .iload_n 1, 1)) ro_Mod_string 0 rfl
theorem d_Mod_string_1 : decode prog_13_method_47_code 1 = .ok (.iload_n 3, 1) := am_row (r := (1, .iload_n 3, 1)) ro_Mod_string 1 rfl
theorem d_Mod_string_2 : decode prog_13_method_47_code 2 = .ok (.if_icmp .le 61, 3) := am_row (r := (2, .if_icmp .le 61, 3)) ro_Mod_string 2 rfl
theorem d_Mod_string_5 : decode prog_13_method_47_code 5 = .ok (.iload_n 3, 1) := am_row (r := (5, .iload_n 3, 1)) ro_Mod_string 3 rfl
theorem d_Mod_string_6 : decode prog_13_method_47_code 6 = .ok (.iload_n 2, 1) := am_row (r := (6, .iload_n 2, 1)) ro_Mod_string 4 rfl
theorem d_Mod_string_7 : decode prog_13_method_47_code 7 = .ok (.irem, 1) := am_row (r := (7, .irem, 1)) ro_Mod_string 5 rfl
theorem d_Mod_string_8 : decode prog_13_method_47_code 8 = .ok (.ifCond .eq 4, 3) := am_row (r := (8, .ifCond .eq 4, 3)) ro_Mod_string 6 rfl
theorem d_Mod_string_11 : decode prog_13_method_47_code 11 = .ok (.return_, 1) := am_row (r := (11, .return_, 1)) ro_Mod_string 7 rfl
theorem d_Mod_string_12 : decode prog_13_method_47_code 12 = .ok (.iconst 1, 1) := am_row (r := (12, .iconst 1, 1)) ro_Mod_string 8 rfl
theorem d_Mod_string_13 : decode prog_13_method_47_code 13 = .ok (.istore 4, 2) := am_row (r := (13, .istore 4, 2)) ro_Mod_string 9 rfl
theorem d_Mod_string_15 : decode prog_13_method_47_code 15 = .ok (.iload 4, 2) := am_row (r := (15, .iload 4, 2)) ro_Mod_string 10 rfl
theorem d_Mod_string_17 : decode prog_13_method_47_code 17 = .ok (.iload_n 2, 1) := am_row (r := (17, .iload_n 2, 1)) ro_Mod_string 11 rfl
theorem d_Mod_string_18 : decode prog_13_method_47_code 18 = .ok (.if_icmp .gt 44, 3) := am_row (r := (18, .if_icmp .gt 44, 3)) ro_Mod_string 12 rfl
theorem d_Mod_string_21 : decode prog_13_method_47_code 21 = .ok (.aload_n 0, 1) := am_row (r := (21, .aload_n 0, 1)) ro_Mod_string 13 rfl
theorem d_Mod_string_22 : decode prog_13_method_47_code 22 = .ok (.getfield 20, 3) := am_row (r := (22, .getfield 20, 3)) ro_Mod_string 14 rfl
theorem d_Mod_string_25 : decode prog_13_method_47_code 25 = .ok (.aload_n 0, 1) := am_row (r := (25, .aload_n 0, 1)) ro_Mod_string 15 rfl
theorem d_Mod_string_26 : decode prog_13_method_47_code 26 = .ok (.getfield 161, 3) := am_row (r := (26, .getfield 161, 3)) ro_Mod_string 16 rfl
theorem d_Mod_string_29 : decode prog_13_method_47_code 29 = .ok (.aload_n 0, 1) := am_row (r := (29, .aload_n 0, 1)) ro_Mod_string 17 rfl
theorem d_Mod_string_30 : decode prog_13_method_47_code 30 = .ok (.getfield 59, 3) := am_row (r := (30, .getfield 59, 3)) ro_Mod_string 18 rfl
theorem d_Mod_string_33 : decode prog_13_method_47_code 33 = .ok (.iload 4, 2) := am_row (r := (33, .iload 4, 2)) ro_Mod_string 19 rfl
theorem d_Mod_string_35 : decode prog_13_method_47_code 35 = .ok (.iaload, 1) := am_row (r := (35, .iaload, 1)) ro_Mod_string 20 rfl
theorem d_Mod_string_36 : decode prog_13_method_47_code 36 = .ok (.iconst 1, 1) := am_row (r := (36, .iconst 1, 1)) ro_Mod_string 21 rfl
theorem d_Mod_string_37 : decode prog_13_method_47_code 37 = .ok (.if_icmp .ne 7, 3) := am_row (r := (37, .if_icmp .ne 7, 3)) ro_Mod_string 22 rfl
theorem d_Mod_string_40 : decode prog_13_method_47_code 40 = .ok (.iconst 1, 1) := am_row (r := (40, .iconst 1, 1)) ro_Mod_string 23 rfl
theorem d_Mod_string_41 : decode prog_13_method_47_code 41 = .ok (.goto 4, 3) := am_row (r := (41, .goto 4, 3)) ro_Mod_string 24 rfl
theorem d_Mod_string_44 : decode prog_13_method_47_code 44 = .ok (.iconst 0, 1) := am_row (r := (44, .iconst 0, 1)) ro_Mod_string 25 rfl
theorem d_Mod_string_45 : decode prog_13_method_47_code 45 = .ok (.bastore, 1) := am_row (r := (45, .bastore, 1)) ro_Mod_string 26 rfl
theorem d_Mod_string_46 : decode prog_13_method_47_code 46 = .ok (.aload_n 0, 1) := am_row (r := (46, .aload_n 0, 1)) ro_Mod_string 27 rfl
theorem d_Mod_string_47 : decode prog_13_method_47_code 47 = .ok (.dup, 1) := am_row (r := (47, .dup, 1)) ro_Mod_string 28 rfl
theorem d_Mod_string_48 : decode prog_13_method_47_code 48 = .ok (.getfield 161, 3) := am_row (r := (48, .getfield 161, 3)) ro_Mod_string 29 rfl
theorem d_Mod_string_51 : decode prog_13_method_47_code 51 = .ok (.iconst 1, 1) := am_row (r := (51, .iconst 1, 1)) ro_Mod_string 30 rfl
theorem d_Mod_string_52 : decode prog_13_method_47_code 52 = .ok (.iadd, 1) := am_row (r := (52, .iadd, 1)) ro_Mod_string 31 rfl
theorem d_Mod_string_53 : decode prog_13_method_47_code 53 = .ok (.putfield 161, 3) := am_row (r := (53, .putfield 161, 3)) ro_Mod_string 32 rfl
theorem d_Mod_string_56 : decode prog_13_method_47_code 56 = .ok (.iinc 4 1, 3) := am_row (r := (56, .iinc 4 1, 3)) ro_Mod_string 33 rfl
theorem d_Mod_string_59 : decode prog_13_method_47_code 59 = .ok (.goto (-44), 3) := am_row (r := (59, .goto (-44), 3)) ro_Mod_string 34 rfl
theorem d_Mod_string_62 : decode prog_13_method_47_code 62 = .ok (.return_, 1) := am_row (r := (62, .return_, 1)) ro_Mod_string 35 rfl
theorem d_Mod_string_63 : decode prog_13_method_47_code 63 = .ok (.aload_n 0, 1) := am_row (r := (63, .aload_n 0, 1)) ro_Mod_string 36 rfl
theorem d_Mod_string_64 : decode prog_13_method_47_code 64 = .ok (.getfield 59, 3) := am_row (r := (64, .getfield 59, 3)) ro_Mod_string 37 rfl
theorem d_Mod_string_67 : decode prog_13_method_47_code 67 = .ok (.iload_n 1, 1) := am_row (r := (67, .iload_n 1, 1)) ro_Mod_string 38 rfl
theorem d_Mod_string_68 : decode prog_13_method_47_code 68 = .ok (.aload_n 0, 1) := am_row (r := (68, .aload_n 0, 1)) ro_Mod_string 39 rfl
theorem d_Mod_string_69 : decode prog_13_method_47_code 69 = .ok (.getfield 59, 3) := am_row (r := (69, .getfield 59, 3)) ro_Mod_string 40 rfl
theorem d_Mod_string_72 : decode prog_13_method_47_code 72 = .ok (.iload_n 1, 1) := am_row (r := (72, .iload_n 1, 1)) ro_Mod_string 41 rfl
theorem d_Mod_string_73 : decode prog_13_method_47_code 73 = .ok (.iload_n 2, 1) := am_row (r := (73, .iload_n 2, 1)) ro_Mod_string 42 rfl
theorem d_Mod_string_74 : decode prog_13_method_47_code 74 = .ok (.isub, 1) := am_row (r := (74, .isub, 1)) ro_Mod_string 43 rfl
theorem d_Mod_string_75 : decode prog_13_method_47_code 75 = .ok (.iaload, 1) := am_row (r := (75, .iaload, 1)) ro_Mod_string 44 rfl
theorem d_Mod_string_76 : decode prog_13_method_47_code 76 = .ok (.iastore, 1) := am_row (r := (76, .iastore, 1)) ro_Mod_string 45 rfl
theorem d_Mod_string_77 : decode prog_13_method_47_code 77 = .ok (.aload_n 0, 1) := am_row (r := (77, .aload_n 0, 1)) ro_Mod_string 46 rfl
theorem d_Mod_string_78 : decode prog_13_method_47_code 78 = .ok (.iload_n 1, 1) := am_row (r := (78, .iload_n 1, 1)) ro_Mod_string 47 rfl
theorem d_Mod_string_79 : decode prog_13_method_47_code 79 = .ok (.iconst 1, 1) := am_row (r := (79, .iconst 1, 1)) ro_Mod_string 48 rfl
theorem d_Mod_string_80 : decode prog_13_method_47_code 80 = .ok (.iadd, 1) := am_row (r := (80, .iadd, 1)) ro_Mod_string 49 rfl
theorem d_Mod_string_81 : decode prog_13_method_47_code 81 = .ok (.iload_n 2, 1) := am_row (r := (81, .iload_n 2, 1)) ro_Mod_string 50 rfl
theorem d_Mod_string_82 : decode prog_13_method_47_code 82 = .ok (.iload_n 3, 1) := am_row (r := (82, .iload_n 3, 1)) ro_Mod_string 51 rfl
theorem d_Mod_string_83 : decode prog_13_method_47_code 83 = .ok (.invokevirtual 164, 3) := am_row (r := (83, .invokevirtual 164, 3)) ro_Mod_string 52 rfl
theorem d_Mod_string_86 : decode prog_13_method_47_code 86 = .ok (.aload_n 0, 1) := am_row (r := (86, .aload_n 0, 1)) ro_Mod_string 53 rfl
theorem d_Mod_string_87 : decode prog_13_method_47_code 87 = .ok (.getfield 59, 3) := am_row (r := (87, .getfield 59, 3)) ro_Mod_string 54 rfl
theorem d_Mod_string_90 : decode prog_13_method_47_code 90 = .ok (.iload_n 1, 1) := am_row (r := (90, .iload_n 1, 1)) ro_Mod_string 55 rfl
theorem d_Mod_string_91 : decode prog_13_method_47_code 91 = .ok (.iload_n 2, 1) := am_row (r := (91, .iload_n 2, 1)) ro_Mod_string 56 rfl
theorem d_Mod_string_92 : decode prog_13_method_47_code 92 = .ok (.isub, 1) := am_row (r := (92, .isub, 1)) ro_Mod_string 57 rfl
theorem d_Mod_string_93 : decode prog_13_method_47_code 93 = .ok (.iaload, 1) := am_row (r := (93, .iaload, 1)) ro_Mod_string 58 rfl
theorem d_Mod_string_94 : decode prog_13_method_47_code 94 = .ok (.iconst 1, 1) := am_row (r := (94, .iconst 1, 1)) ro_Mod_string 59 rfl
theorem d_Mod_string_95 : decode prog_13_method_47_code 95 = .ok (.iadd, 1) := am_row (r := (95, .iadd, 1)) ro_Mod_string 60 rfl
theorem d_Mod_string_96 : decode prog_13_method_47_code 96 = .ok (.istore 4, 2) := am_row (r := (96, .istore 4, 2)) ro_Mod_string 61 rfl
theorem d_Mod_string_98 : decode prog_13_method_47_code 98 = .ok (.iload 4, 2) := am_row (r := (98, .iload 4, 2)) ro_Mod_string 62 rfl
theorem d_Mod_string_100 : decode prog_13_method_47_code 100 = .ok (.iconst 2, 1) := am_row (r := (100, .iconst 2, 1)) ro_Mod_string 63 rfl
theorem d_Mod_string_101 : decode prog_13_method_47_code 101 = .ok (.if_icmp .ge 26, 3) := am_row (r := (101, .if_icmp .ge 26, 3)) ro_Mod_string 64 rfl
theorem d_Mod_string_104 : decode prog_13_method_47_code 104 = .ok (.aload_n 0, 1) := am_row (r := (104, .aload_n 0, 1)) ro_Mod_string 65 rfl
theorem d_Mod_string_105 : decode prog_13_method_47_code 105 = .ok (.getfield 59, 3) := am_row (r := (105, .getfield 59, 3)) ro_Mod_string 66 rfl
theorem d_Mod_string_108 : decode prog_13_method_47_code 108 = .ok (.iload_n 1, 1) := am_row (r := (108, .iload_n 1, 1)) ro_Mod_string 67 rfl
theorem d_Mod_string_109 : decode prog_13_method_47_code 109 = .ok (.iload 4, 2) := am_row (r := (109, .iload 4, 2)) ro_Mod_string 68 rfl
theorem d_Mod_string_111 : decode prog_13_method_47_code 111 = .ok (.iastore, 1) := am_row (r := (111, .iastore, 1)) ro_Mod_string 69 rfl
theorem d_Mod_string_112 : decode prog_13_method_47_code 112 = .ok (.aload_n 0, 1) := am_row (r := (112, .aload_n 0, 1)) ro_Mod_string 70 rfl
theorem d_Mod_string_113 : decode prog_13_method_47_code 113 = .ok (.iload_n 1, 1) := am_row (r := (113, .iload_n 1, 1)) ro_Mod_string 71 rfl
theorem d_Mod_string_114 : decode prog_13_method_47_code 114 = .ok (.iconst 1, 1) := am_row (r := (114, .iconst 1, 1)) ro_Mod_string 72 rfl
theorem d_Mod_string_115 : decode prog_13_method_47_code 115 = .ok (.iadd, 1) := am_row (r := (115, .iadd, 1)) ro_Mod_string 73 rfl
theorem d_Mod_string_116 : decode prog_13_method_47_code 116 = .ok (.iload_n 1, 1) := am_row (r := (116, .iload_n 1, 1)) ro_Mod_string 74 rfl
theorem d_Mod_string_117 : decode prog_13_method_47_code 117 = .ok (.iload_n 3, 1) := am_row (r := (117, .iload_n 3, 1)) ro_Mod_string 75 rfl
theorem d_Mod_string_118 : decode prog_13_method_47_code 118 = .ok (.invokevirtual 164, 3) := am_row (r := (118, .invokevirtual 164, 3)) ro_Mod_string 76 rfl
theorem d_Mod_string_121 : decode prog_13_method_47_code 121 = .ok (.iinc 4 1, 3) := am_row (r := (121, .iinc 4 1, 3)) ro_Mod_string 77 rfl
theorem d_Mod_string_124 : decode prog_13_method_47_code 124 = .ok (.goto (-26), 3) := am_row (r := (124, .goto (-26), 3)) ro_Mod_string 78 rfl
theorem d_Mod_string_127 : decode prog_13_method_47_code 127 = .ok (.return_, 1) := am_row (r := (127, .return_, 1)) ro_Mod_string 79 rfl
abbrev y_Mod_chain : MethodName := ⟨"WheelDiscModel", "chain", "(II)Z"⟩
theorem c_Mod_chain : Cond.code y_Mod_chain prog_13_method_48_code 4 (some .boolean) ∈ am_T := am_mem 1216 (by decide +kernel) rfl
def rw_Mod_chain : List (Nat × Instr × Nat) := [(0, .aload_n 0, 1), (1, .iconst 0, 1), (2, .putfield 62, 3), (5, .iload_n 1, 1), (6, .iconst 1, 1), (7, .if_icmp .lt 20, 3), (10, .iload_n 1, 1), (11, .bipush 9, 2), (13, .if_icmp .gt 14, 3), (16, .iload_n 2, 1), (17, .ifCond .lt 10, 3), (20, .iload_n 2, 1), (21, .iconst 1, 1), (22, .iload_n 1, 1), (23, .ishl, 1), (24, .if_icmp .lt 11, 3), (27, .aload_n 0, 1), (28, .iconst 1, 1), (29, .invokevirtual 75, 3), (32, .pop, 1), (33, .iconst 0, 1), (34, .ireturn, 1), (35, .aload_n 0, 1), (36, .invokevirtual 82, 3), (39, .aload_n 0, 1), (40, .iconst 1, 1), (41, .iload_n 1, 1), (42, .ishl, 1), (43, .invokevirtual 85, 3), (46, .aload_n 0, 1), (47, .getfield 59, 3), (50, .iconst 0, 1), (51, .iconst 0, 1), (52, .iastore, 1), (53, .aload_n 0, 1), (54, .iconst 0, 1), (55, .putfield 161, 3), (58, .aload_n 0, 1), (59, .iconst 1, 1), (60, .iconst 1, 1), (61, .iload_n 1, 1), (62, .invokevirtual 164, 3), (65, .aload_n 0, 1), (66, .getfield 9, 3), (69, .iconst 1, 1), (70, .iconst 1, 1), (71, .iastore, 1), (72, .aload_n 0, 1), (73, .getfield 9, 3), (76, .iconst 2, 1), (77, .iload_n 1, 1), (78, .iastore, 1), (79, .iconst 0, 1), (80, .istore_n 3, 1), (81, .iload_n 3, 1), (82, .iload_n 1, 1), (83, .if_icmp .ge 23, 3), (86, .aload_n 0, 1), (87, .getfield 13, 3), (90, .iload_n 3, 1), (91, .iconst 0, 1), (92, .iastore, 1), (93, .aload_n 0, 1), (94, .getfield 16, 3), (97, .iload_n 3, 1), (98, .iload_n 3, 1), (99, .iastore, 1), (100, .iinc 3 1, 3), (103, .goto (-22), 3), (106, .iconst 0, 1), (107, .istore_n 3, 1), (108, .aload_n 0, 1), (109, .iload_n 3, 1), (110, .invokevirtual 106, 3), (113, .iload_n 2, 1), (114, .if_icmp .eq 9, 3), (117, .iinc 3 1, 3), (120, .goto (-12), 3), (123, .aload_n 0, 1), (124, .iload_n 3, 1), (125, .invokevirtual 99, 3), (128, .iconst 1, 1), (129, .ireturn, 1)]
theorem ro_Mod_chain : rw_Mod_chain.all (fun r => decide (decode prog_13_method_48_code r.1 = .ok r.2)) = true := by decide +kernel
theorem d_Mod_chain_0 : decode prog_13_method_48_code 0 = .ok (.aload_n 0, 1) := am_row (r := (0, .aload_n 0, 1)) ro_Mod_chain 0 rfl
theorem d_Mod_chain_1 : decode prog_13_method_48_code 1 = .ok (.iconst 0, 1) := am_row (r := (1, .iconst 0, 1)) ro_Mod_chain 1 rfl
theorem d_Mod_chain_2 : decode prog_13_method_48_code 2 = .ok (.putfield 62, 3) := am_row (r := (2, .putfield 62, 3)) ro_Mod_chain 2 rfl
theorem d_Mod_chain_5 : decode prog_13_method_48_code 5 = .ok (.iload_n 1, 1) := am_row (r := (5, .iload_n 1, 1)) ro_Mod_chain 3 rfl
theorem d_Mod_chain_6 : decode prog_13_method_48_code 6 = .ok (.iconst 1, 1) := am_row (r := (6, .iconst 1, 1)) ro_Mod_chain 4 rfl
theorem d_Mod_chain_7 : decode prog_13_method_48_code 7 = .ok (.if_icmp .lt 20, 3) := am_row (r := (7, .if_icmp .lt 20, 3)) ro_Mod_chain 5 rfl
theorem d_Mod_chain_10 : decode prog_13_method_48_code 10 = .ok (.iload_n 1, 1) := am_row (r := (10, .iload_n 1, 1)) ro_Mod_chain 6 rfl
theorem d_Mod_chain_11 : decode prog_13_method_48_code 11 = .ok (.bipush 9, 2) := am_row (r := (11, .bipush 9, 2)) ro_Mod_chain 7 rfl
theorem d_Mod_chain_13 : decode prog_13_method_48_code 13 = .ok (.if_icmp .gt 14, 3) := am_row (r := (13, .if_icmp .gt 14, 3)) ro_Mod_chain 8 rfl
theorem d_Mod_chain_16 : decode prog_13_method_48_code 16 = .ok (.iload_n 2, 1) := am_row (r := (16, .iload_n 2, 1)) ro_Mod_chain 9 rfl
theorem d_Mod_chain_17 : decode prog_13_method_48_code 17 = .ok (.ifCond .lt 10, 3) := am_row (r := (17, .ifCond .lt 10, 3)) ro_Mod_chain 10 rfl
theorem d_Mod_chain_20 : decode prog_13_method_48_code 20 = .ok (.iload_n 2, 1) := am_row (r := (20, .iload_n 2, 1)) ro_Mod_chain 11 rfl
theorem d_Mod_chain_21 : decode prog_13_method_48_code 21 = .ok (.iconst 1, 1) := am_row (r := (21, .iconst 1, 1)) ro_Mod_chain 12 rfl
theorem d_Mod_chain_22 : decode prog_13_method_48_code 22 = .ok (.iload_n 1, 1) := am_row (r := (22, .iload_n 1, 1)) ro_Mod_chain 13 rfl
theorem d_Mod_chain_23 : decode prog_13_method_48_code 23 = .ok (.ishl, 1) := am_row (r := (23, .ishl, 1)) ro_Mod_chain 14 rfl
theorem d_Mod_chain_24 : decode prog_13_method_48_code 24 = .ok (.if_icmp .lt 11, 3) := am_row (r := (24, .if_icmp .lt 11, 3)) ro_Mod_chain 15 rfl
theorem d_Mod_chain_27 : decode prog_13_method_48_code 27 = .ok (.aload_n 0, 1) := am_row (r := (27, .aload_n 0, 1)) ro_Mod_chain 16 rfl
theorem d_Mod_chain_28 : decode prog_13_method_48_code 28 = .ok (.iconst 1, 1) := am_row (r := (28, .iconst 1, 1)) ro_Mod_chain 17 rfl
theorem d_Mod_chain_29 : decode prog_13_method_48_code 29 = .ok (.invokevirtual 75, 3) := am_row (r := (29, .invokevirtual 75, 3)) ro_Mod_chain 18 rfl
theorem d_Mod_chain_32 : decode prog_13_method_48_code 32 = .ok (.pop, 1) := am_row (r := (32, .pop, 1)) ro_Mod_chain 19 rfl
theorem d_Mod_chain_33 : decode prog_13_method_48_code 33 = .ok (.iconst 0, 1) := am_row (r := (33, .iconst 0, 1)) ro_Mod_chain 20 rfl
theorem d_Mod_chain_34 : decode prog_13_method_48_code 34 = .ok (.ireturn, 1) := am_row (r := (34, .ireturn, 1)) ro_Mod_chain 21 rfl
theorem d_Mod_chain_35 : decode prog_13_method_48_code 35 = .ok (.aload_n 0, 1) := am_row (r := (35, .aload_n 0, 1)) ro_Mod_chain 22 rfl
theorem d_Mod_chain_36 : decode prog_13_method_48_code 36 = .ok (.invokevirtual 82, 3) := am_row (r := (36, .invokevirtual 82, 3)) ro_Mod_chain 23 rfl
theorem d_Mod_chain_39 : decode prog_13_method_48_code 39 = .ok (.aload_n 0, 1) := am_row (r := (39, .aload_n 0, 1)) ro_Mod_chain 24 rfl
theorem d_Mod_chain_40 : decode prog_13_method_48_code 40 = .ok (.iconst 1, 1) := am_row (r := (40, .iconst 1, 1)) ro_Mod_chain 25 rfl
theorem d_Mod_chain_41 : decode prog_13_method_48_code 41 = .ok (.iload_n 1, 1) := am_row (r := (41, .iload_n 1, 1)) ro_Mod_chain 26 rfl
theorem d_Mod_chain_42 : decode prog_13_method_48_code 42 = .ok (.ishl, 1) := am_row (r := (42, .ishl, 1)) ro_Mod_chain 27 rfl
theorem d_Mod_chain_43 : decode prog_13_method_48_code 43 = .ok (.invokevirtual 85, 3) := am_row (r := (43, .invokevirtual 85, 3)) ro_Mod_chain 28 rfl
theorem d_Mod_chain_46 : decode prog_13_method_48_code 46 = .ok (.aload_n 0, 1) := am_row (r := (46, .aload_n 0, 1)) ro_Mod_chain 29 rfl
theorem d_Mod_chain_47 : decode prog_13_method_48_code 47 = .ok (.getfield 59, 3) := am_row (r := (47, .getfield 59, 3)) ro_Mod_chain 30 rfl
theorem d_Mod_chain_50 : decode prog_13_method_48_code 50 = .ok (.iconst 0, 1) := am_row (r := (50, .iconst 0, 1)) ro_Mod_chain 31 rfl
theorem d_Mod_chain_51 : decode prog_13_method_48_code 51 = .ok (.iconst 0, 1) := am_row (r := (51, .iconst 0, 1)) ro_Mod_chain 32 rfl
theorem d_Mod_chain_52 : decode prog_13_method_48_code 52 = .ok (.iastore, 1) := am_row (r := (52, .iastore, 1)) ro_Mod_chain 33 rfl
theorem d_Mod_chain_53 : decode prog_13_method_48_code 53 = .ok (.aload_n 0, 1) := am_row (r := (53, .aload_n 0, 1)) ro_Mod_chain 34 rfl
theorem d_Mod_chain_54 : decode prog_13_method_48_code 54 = .ok (.iconst 0, 1) := am_row (r := (54, .iconst 0, 1)) ro_Mod_chain 35 rfl
theorem d_Mod_chain_55 : decode prog_13_method_48_code 55 = .ok (.putfield 161, 3) := am_row (r := (55, .putfield 161, 3)) ro_Mod_chain 36 rfl
theorem d_Mod_chain_58 : decode prog_13_method_48_code 58 = .ok (.aload_n 0, 1) := am_row (r := (58, .aload_n 0, 1)) ro_Mod_chain 37 rfl
theorem d_Mod_chain_59 : decode prog_13_method_48_code 59 = .ok (.iconst 1, 1) := am_row (r := (59, .iconst 1, 1)) ro_Mod_chain 38 rfl
theorem d_Mod_chain_60 : decode prog_13_method_48_code 60 = .ok (.iconst 1, 1) := am_row (r := (60, .iconst 1, 1)) ro_Mod_chain 39 rfl
theorem d_Mod_chain_61 : decode prog_13_method_48_code 61 = .ok (.iload_n 1, 1) := am_row (r := (61, .iload_n 1, 1)) ro_Mod_chain 40 rfl
theorem d_Mod_chain_62 : decode prog_13_method_48_code 62 = .ok (.invokevirtual 164, 3) := am_row (r := (62, .invokevirtual 164, 3)) ro_Mod_chain 41 rfl
theorem d_Mod_chain_65 : decode prog_13_method_48_code 65 = .ok (.aload_n 0, 1) := am_row (r := (65, .aload_n 0, 1)) ro_Mod_chain 42 rfl
theorem d_Mod_chain_66 : decode prog_13_method_48_code 66 = .ok (.getfield 9, 3) := am_row (r := (66, .getfield 9, 3)) ro_Mod_chain 43 rfl
theorem d_Mod_chain_69 : decode prog_13_method_48_code 69 = .ok (.iconst 1, 1) := am_row (r := (69, .iconst 1, 1)) ro_Mod_chain 44 rfl
theorem d_Mod_chain_70 : decode prog_13_method_48_code 70 = .ok (.iconst 1, 1) := am_row (r := (70, .iconst 1, 1)) ro_Mod_chain 45 rfl
theorem d_Mod_chain_71 : decode prog_13_method_48_code 71 = .ok (.iastore, 1) := am_row (r := (71, .iastore, 1)) ro_Mod_chain 46 rfl
theorem d_Mod_chain_72 : decode prog_13_method_48_code 72 = .ok (.aload_n 0, 1) := am_row (r := (72, .aload_n 0, 1)) ro_Mod_chain 47 rfl
theorem d_Mod_chain_73 : decode prog_13_method_48_code 73 = .ok (.getfield 9, 3) := am_row (r := (73, .getfield 9, 3)) ro_Mod_chain 48 rfl
theorem d_Mod_chain_76 : decode prog_13_method_48_code 76 = .ok (.iconst 2, 1) := am_row (r := (76, .iconst 2, 1)) ro_Mod_chain 49 rfl
theorem d_Mod_chain_77 : decode prog_13_method_48_code 77 = .ok (.iload_n 1, 1) := am_row (r := (77, .iload_n 1, 1)) ro_Mod_chain 50 rfl
theorem d_Mod_chain_78 : decode prog_13_method_48_code 78 = .ok (.iastore, 1) := am_row (r := (78, .iastore, 1)) ro_Mod_chain 51 rfl
theorem d_Mod_chain_79 : decode prog_13_method_48_code 79 = .ok (.iconst 0, 1) := am_row (r := (79, .iconst 0, 1)) ro_Mod_chain 52 rfl
theorem d_Mod_chain_80 : decode prog_13_method_48_code 80 = .ok (.istore_n 3, 1) := am_row (r := (80, .istore_n 3, 1)) ro_Mod_chain 53 rfl
theorem d_Mod_chain_81 : decode prog_13_method_48_code 81 = .ok (.iload_n 3, 1) := am_row (r := (81, .iload_n 3, 1)) ro_Mod_chain 54 rfl
theorem d_Mod_chain_82 : decode prog_13_method_48_code 82 = .ok (.iload_n 1, 1) := am_row (r := (82, .iload_n 1, 1)) ro_Mod_chain 55 rfl
theorem d_Mod_chain_83 : decode prog_13_method_48_code 83 = .ok (.if_icmp .ge 23, 3) := am_row (r := (83, .if_icmp .ge 23, 3)) ro_Mod_chain 56 rfl
theorem d_Mod_chain_86 : decode prog_13_method_48_code 86 = .ok (.aload_n 0, 1) := am_row (r := (86, .aload_n 0, 1)) ro_Mod_chain 57 rfl
theorem d_Mod_chain_87 : decode prog_13_method_48_code 87 = .ok (.getfield 13, 3) := am_row (r := (87, .getfield 13, 3)) ro_Mod_chain 58 rfl
theorem d_Mod_chain_90 : decode prog_13_method_48_code 90 = .ok (.iload_n 3, 1) := am_row (r := (90, .iload_n 3, 1)) ro_Mod_chain 59 rfl
theorem d_Mod_chain_91 : decode prog_13_method_48_code 91 = .ok (.iconst 0, 1) := am_row (r := (91, .iconst 0, 1)) ro_Mod_chain 60 rfl
theorem d_Mod_chain_92 : decode prog_13_method_48_code 92 = .ok (.iastore, 1) := am_row (r := (92, .iastore, 1)) ro_Mod_chain 61 rfl
theorem d_Mod_chain_93 : decode prog_13_method_48_code 93 = .ok (.aload_n 0, 1) := am_row (r := (93, .aload_n 0, 1)) ro_Mod_chain 62 rfl
theorem d_Mod_chain_94 : decode prog_13_method_48_code 94 = .ok (.getfield 16, 3) := am_row (r := (94, .getfield 16, 3)) ro_Mod_chain 63 rfl
theorem d_Mod_chain_97 : decode prog_13_method_48_code 97 = .ok (.iload_n 3, 1) := am_row (r := (97, .iload_n 3, 1)) ro_Mod_chain 64 rfl
theorem d_Mod_chain_98 : decode prog_13_method_48_code 98 = .ok (.iload_n 3, 1) := am_row (r := (98, .iload_n 3, 1)) ro_Mod_chain 65 rfl
theorem d_Mod_chain_99 : decode prog_13_method_48_code 99 = .ok (.iastore, 1) := am_row (r := (99, .iastore, 1)) ro_Mod_chain 66 rfl
theorem d_Mod_chain_100 : decode prog_13_method_48_code 100 = .ok (.iinc 3 1, 3) := am_row (r := (100, .iinc 3 1, 3)) ro_Mod_chain 67 rfl
theorem d_Mod_chain_103 : decode prog_13_method_48_code 103 = .ok (.goto (-22), 3) := am_row (r := (103, .goto (-22), 3)) ro_Mod_chain 68 rfl
theorem d_Mod_chain_106 : decode prog_13_method_48_code 106 = .ok (.iconst 0, 1) := am_row (r := (106, .iconst 0, 1)) ro_Mod_chain 69 rfl
theorem d_Mod_chain_107 : decode prog_13_method_48_code 107 = .ok (.istore_n 3, 1) := am_row (r := (107, .istore_n 3, 1)) ro_Mod_chain 70 rfl
theorem d_Mod_chain_108 : decode prog_13_method_48_code 108 = .ok (.aload_n 0, 1) := am_row (r := (108, .aload_n 0, 1)) ro_Mod_chain 71 rfl
theorem d_Mod_chain_109 : decode prog_13_method_48_code 109 = .ok (.iload_n 3, 1) := am_row (r := (109, .iload_n 3, 1)) ro_Mod_chain 72 rfl
theorem d_Mod_chain_110 : decode prog_13_method_48_code 110 = .ok (.invokevirtual 106, 3) := am_row (r := (110, .invokevirtual 106, 3)) ro_Mod_chain 73 rfl
theorem d_Mod_chain_113 : decode prog_13_method_48_code 113 = .ok (.iload_n 2, 1) := am_row (r := (113, .iload_n 2, 1)) ro_Mod_chain 74 rfl
theorem d_Mod_chain_114 : decode prog_13_method_48_code 114 = .ok (.if_icmp .eq 9, 3) := am_row (r := (114, .if_icmp .eq 9, 3)) ro_Mod_chain 75 rfl
theorem d_Mod_chain_117 : decode prog_13_method_48_code 117 = .ok (.iinc 3 1, 3) := am_row (r := (117, .iinc 3 1, 3)) ro_Mod_chain 76 rfl
theorem d_Mod_chain_120 : decode prog_13_method_48_code 120 = .ok (.goto (-12), 3) := am_row (r := (120, .goto (-12), 3)) ro_Mod_chain 77 rfl
theorem d_Mod_chain_123 : decode prog_13_method_48_code 123 = .ok (.aload_n 0, 1) := am_row (r := (123, .aload_n 0, 1)) ro_Mod_chain 78 rfl
theorem d_Mod_chain_124 : decode prog_13_method_48_code 124 = .ok (.iload_n 3, 1) := am_row (r := (124, .iload_n 3, 1)) ro_Mod_chain 79 rfl
theorem d_Mod_chain_125 : decode prog_13_method_48_code 125 = .ok (.invokevirtual 99, 3) := am_row (r := (125, .invokevirtual 99, 3)) ro_Mod_chain 80 rfl
theorem d_Mod_chain_128 : decode prog_13_method_48_code 128 = .ok (.iconst 1, 1) := am_row (r := (128, .iconst 1, 1)) ro_Mod_chain 81 rfl
theorem d_Mod_chain_129 : decode prog_13_method_48_code 129 = .ok (.ireturn, 1) := am_row (r := (129, .ireturn, 1)) ro_Mod_chain 82 rfl
abbrev y_Mod_bitOf : MethodName := ⟨"WheelDiscModel", "bitOf", "(II)Z"⟩
theorem c_Mod_bitOf : Cond.code y_Mod_bitOf prog_13_method_49_code 3 (some .boolean) ∈ am_T := am_mem 1242 (by decide +kernel) rfl
def rw_Mod_bitOf : List (Nat × Instr × Nat) := [(0, .iload_n 1, 1), (1, .aload_n 0, 1), (2, .getfield 168, 3), (5, .iconst 1, 1), (6, .isub, 1), (7, .iload_n 2, 1), (8, .isub, 1), (9, .ishr, 1), (10, .iconst 1, 1), (11, .iand, 1), (12, .iconst 1, 1), (13, .if_icmp .ne 7, 3), (16, .iconst 1, 1), (17, .goto 4, 3), (20, .iconst 0, 1), (21, .ireturn, 1)]
theorem ro_Mod_bitOf : rw_Mod_bitOf.all (fun r => decide (decode prog_13_method_49_code r.1 = .ok r.2)) = true := by decide +kernel
theorem d_Mod_bitOf_0 : decode prog_13_method_49_code 0 = .ok (.iload_n 1, 1) := am_row (r := (0, .iload_n 1, 1)) ro_Mod_bitOf 0 rfl
theorem d_Mod_bitOf_1 : decode prog_13_method_49_code 1 = .ok (.aload_n 0, 1) := am_row (r := (1, .aload_n 0, 1)) ro_Mod_bitOf 1 rfl
theorem d_Mod_bitOf_2 : decode prog_13_method_49_code 2 = .ok (.getfield 168, 3) := am_row (r := (2, .getfield 168, 3)) ro_Mod_bitOf 2 rfl
theorem d_Mod_bitOf_5 : decode prog_13_method_49_code 5 = .ok (.iconst 1, 1) := am_row (r := (5, .iconst 1, 1)) ro_Mod_bitOf 3 rfl
theorem d_Mod_bitOf_6 : decode prog_13_method_49_code 6 = .ok (.isub, 1) := am_row (r := (6, .isub, 1)) ro_Mod_bitOf 4 rfl
theorem d_Mod_bitOf_7 : decode prog_13_method_49_code 7 = .ok (.iload_n 2, 1) := am_row (r := (7, .iload_n 2, 1)) ro_Mod_bitOf 5 rfl
theorem d_Mod_bitOf_8 : decode prog_13_method_49_code 8 = .ok (.isub, 1) := am_row (r := (8, .isub, 1)) ro_Mod_bitOf 6 rfl
theorem d_Mod_bitOf_9 : decode prog_13_method_49_code 9 = .ok (.ishr, 1) := am_row (r := (9, .ishr, 1)) ro_Mod_bitOf 7 rfl
theorem d_Mod_bitOf_10 : decode prog_13_method_49_code 10 = .ok (.iconst 1, 1) := am_row (r := (10, .iconst 1, 1)) ro_Mod_bitOf 8 rfl
theorem d_Mod_bitOf_11 : decode prog_13_method_49_code 11 = .ok (.iand, 1) := am_row (r := (11, .iand, 1)) ro_Mod_bitOf 9 rfl
theorem d_Mod_bitOf_12 : decode prog_13_method_49_code 12 = .ok (.iconst 1, 1) := am_row (r := (12, .iconst 1, 1)) ro_Mod_bitOf 10 rfl
theorem d_Mod_bitOf_13 : decode prog_13_method_49_code 13 = .ok (.if_icmp .ne 7, 3) := am_row (r := (13, .if_icmp .ne 7, 3)) ro_Mod_bitOf 11 rfl
theorem d_Mod_bitOf_16 : decode prog_13_method_49_code 16 = .ok (.iconst 1, 1) := am_row (r := (16, .iconst 1, 1)) ro_Mod_bitOf 12 rfl
theorem d_Mod_bitOf_17 : decode prog_13_method_49_code 17 = .ok (.goto 4, 3) := am_row (r := (17, .goto 4, 3)) ro_Mod_bitOf 13 rfl
theorem d_Mod_bitOf_20 : decode prog_13_method_49_code 20 = .ok (.iconst 0, 1) := am_row (r := (20, .iconst 0, 1)) ro_Mod_bitOf 14 rfl
theorem d_Mod_bitOf_21 : decode prog_13_method_49_code 21 = .ok (.ireturn, 1) := am_row (r := (21, .ireturn, 1)) ro_Mod_bitOf 15 rfl
abbrev y_Mod_searchWord : MethodName := ⟨"WheelDiscModel", "searchWord", "(II)I"⟩
theorem c_Mod_searchWord : Cond.code y_Mod_searchWord prog_13_method_50_code 5 (some .int) ∈ am_T := am_mem 1238 (by decide +kernel) rfl
def rw_Mod_searchWord : List (Nat × Instr × Nat) := [(0, .iconst 0, 1), (1, .istore_n 3, 1), (2, .iconst 0, 1), (3, .istore 4, 2), (5, .iload 4, 2), (7, .aload_n 0, 1), (8, .getfield 171, 3), (11, .if_icmp .ge 46, 3), (14, .iconst 2, 1), (15, .iload_n 3, 1), (16, .imul, 1), (17, .aload_n 0, 1), (18, .iload_n 1, 1), (19, .iload_n 2, 1), (20, .iload 4, 2), (22, .aload_n 0, 1), (23, .getfield 168, 3), (26, .aload_n 0, 1), (27, .getfield 171, 3), (30, .idiv, 1), (31, .imul, 1), (32, .iadd, 1), (33, .aload_n 0, 1), (34, .getfield 168, 3), (37, .irem, 1), (38, .invokevirtual 174, 3), (41, .ifCond .eq 7, 3), (44, .iconst 1, 1), (45, .goto 4, 3), (48, .iconst 0, 1), (49, .iadd, 1), (50, .istore_n 3, 1), (51, .iinc 4 1, 3), (54, .goto (-49), 3), (57, .iload_n 3, 1), (58, .ireturn, 1)]
theorem ro_Mod_searchWord : rw_Mod_searchWord.all (fun r => decide (decode prog_13_method_50_code r.1 = .ok r.2)) = true := by decide +kernel
theorem d_Mod_searchWord_0 : decode prog_13_method_50_code 0 = .ok (.iconst 0, 1) := am_row (r := (0, .iconst 0, 1)) ro_Mod_searchWord 0 rfl
theorem d_Mod_searchWord_1 : decode prog_13_method_50_code 1 = .ok (.istore_n 3, 1) := am_row (r := (1, .istore_n 3, 1)) ro_Mod_searchWord 1 rfl
theorem d_Mod_searchWord_2 : decode prog_13_method_50_code 2 = .ok (.iconst 0, 1) := am_row (r := (2, .iconst 0, 1)) ro_Mod_searchWord 2 rfl
theorem d_Mod_searchWord_3 : decode prog_13_method_50_code 3 = .ok (.istore 4, 2) := am_row (r := (3, .istore 4, 2)) ro_Mod_searchWord 3 rfl
theorem d_Mod_searchWord_5 : decode prog_13_method_50_code 5 = .ok (.iload 4, 2) := am_row (r := (5, .iload 4, 2)) ro_Mod_searchWord 4 rfl
theorem d_Mod_searchWord_7 : decode prog_13_method_50_code 7 = .ok (.aload_n 0, 1) := am_row (r := (7, .aload_n 0, 1)) ro_Mod_searchWord 5 rfl
theorem d_Mod_searchWord_8 : decode prog_13_method_50_code 8 = .ok (.getfield 171, 3) := am_row (r := (8, .getfield 171, 3)) ro_Mod_searchWord 6 rfl
theorem d_Mod_searchWord_11 : decode prog_13_method_50_code 11 = .ok (.if_icmp .ge 46, 3) := am_row (r := (11, .if_icmp .ge 46, 3)) ro_Mod_searchWord 7 rfl
theorem d_Mod_searchWord_14 : decode prog_13_method_50_code 14 = .ok (.iconst 2, 1) := am_row (r := (14, .iconst 2, 1)) ro_Mod_searchWord 8 rfl
theorem d_Mod_searchWord_15 : decode prog_13_method_50_code 15 = .ok (.iload_n 3, 1) := am_row (r := (15, .iload_n 3, 1)) ro_Mod_searchWord 9 rfl
theorem d_Mod_searchWord_16 : decode prog_13_method_50_code 16 = .ok (.imul, 1) := am_row (r := (16, .imul, 1)) ro_Mod_searchWord 10 rfl
theorem d_Mod_searchWord_17 : decode prog_13_method_50_code 17 = .ok (.aload_n 0, 1) := am_row (r := (17, .aload_n 0, 1)) ro_Mod_searchWord 11 rfl
theorem d_Mod_searchWord_18 : decode prog_13_method_50_code 18 = .ok (.iload_n 1, 1) := am_row (r := (18, .iload_n 1, 1)) ro_Mod_searchWord 12 rfl
theorem d_Mod_searchWord_19 : decode prog_13_method_50_code 19 = .ok (.iload_n 2, 1) := am_row (r := (19, .iload_n 2, 1)) ro_Mod_searchWord 13 rfl
theorem d_Mod_searchWord_20 : decode prog_13_method_50_code 20 = .ok (.iload 4, 2) := am_row (r := (20, .iload 4, 2)) ro_Mod_searchWord 14 rfl
theorem d_Mod_searchWord_22 : decode prog_13_method_50_code 22 = .ok (.aload_n 0, 1) := am_row (r := (22, .aload_n 0, 1)) ro_Mod_searchWord 15 rfl
theorem d_Mod_searchWord_23 : decode prog_13_method_50_code 23 = .ok (.getfield 168, 3) := am_row (r := (23, .getfield 168, 3)) ro_Mod_searchWord 16 rfl
theorem d_Mod_searchWord_26 : decode prog_13_method_50_code 26 = .ok (.aload_n 0, 1) := am_row (r := (26, .aload_n 0, 1)) ro_Mod_searchWord 17 rfl
theorem d_Mod_searchWord_27 : decode prog_13_method_50_code 27 = .ok (.getfield 171, 3) := am_row (r := (27, .getfield 171, 3)) ro_Mod_searchWord 18 rfl
theorem d_Mod_searchWord_30 : decode prog_13_method_50_code 30 = .ok (.idiv, 1) := am_row (r := (30, .idiv, 1)) ro_Mod_searchWord 19 rfl
theorem d_Mod_searchWord_31 : decode prog_13_method_50_code 31 = .ok (.imul, 1) := am_row (r := (31, .imul, 1)) ro_Mod_searchWord 20 rfl
theorem d_Mod_searchWord_32 : decode prog_13_method_50_code 32 = .ok (.iadd, 1) := am_row (r := (32, .iadd, 1)) ro_Mod_searchWord 21 rfl
theorem d_Mod_searchWord_33 : decode prog_13_method_50_code 33 = .ok (.aload_n 0, 1) := am_row (r := (33, .aload_n 0, 1)) ro_Mod_searchWord 22 rfl
theorem d_Mod_searchWord_34 : decode prog_13_method_50_code 34 = .ok (.getfield 168, 3) := am_row (r := (34, .getfield 168, 3)) ro_Mod_searchWord 23 rfl
theorem d_Mod_searchWord_37 : decode prog_13_method_50_code 37 = .ok (.irem, 1) := am_row (r := (37, .irem, 1)) ro_Mod_searchWord 24 rfl
theorem d_Mod_searchWord_38 : decode prog_13_method_50_code 38 = .ok (.invokevirtual 174, 3) := am_row (r := (38, .invokevirtual 174, 3)) ro_Mod_searchWord 25 rfl
theorem d_Mod_searchWord_41 : decode prog_13_method_50_code 41 = .ok (.ifCond .eq 7, 3) := am_row (r := (41, .ifCond .eq 7, 3)) ro_Mod_searchWord 26 rfl
theorem d_Mod_searchWord_44 : decode prog_13_method_50_code 44 = .ok (.iconst 1, 1) := am_row (r := (44, .iconst 1, 1)) ro_Mod_searchWord 27 rfl
theorem d_Mod_searchWord_45 : decode prog_13_method_50_code 45 = .ok (.goto 4, 3) := am_row (r := (45, .goto 4, 3)) ro_Mod_searchWord 28 rfl
theorem d_Mod_searchWord_48 : decode prog_13_method_50_code 48 = .ok (.iconst 0, 1) := am_row (r := (48, .iconst 0, 1)) ro_Mod_searchWord 29 rfl
theorem d_Mod_searchWord_49 : decode prog_13_method_50_code 49 = .ok (.iadd, 1) := am_row (r := (49, .iadd, 1)) ro_Mod_searchWord 30 rfl
theorem d_Mod_searchWord_50 : decode prog_13_method_50_code 50 = .ok (.istore_n 3, 1) := am_row (r := (50, .istore_n 3, 1)) ro_Mod_searchWord 31 rfl
theorem d_Mod_searchWord_51 : decode prog_13_method_50_code 51 = .ok (.iinc 4 1, 3) := am_row (r := (51, .iinc 4 1, 3)) ro_Mod_searchWord 32 rfl
theorem d_Mod_searchWord_54 : decode prog_13_method_50_code 54 = .ok (.goto (-49), 3) := am_row (r := (54, .goto (-49), 3)) ro_Mod_searchWord 33 rfl
theorem d_Mod_searchWord_57 : decode prog_13_method_50_code 57 = .ok (.iload_n 3, 1) := am_row (r := (57, .iload_n 3, 1)) ro_Mod_searchWord 34 rfl
theorem d_Mod_searchWord_58 : decode prog_13_method_50_code 58 = .ok (.ireturn, 1) := am_row (r := (58, .ireturn, 1)) ro_Mod_searchWord 35 rfl
abbrev y_Mod_isFound : MethodName := ⟨"WheelDiscModel", "isFound", "(I)Z"⟩
theorem c_Mod_isFound : Cond.code y_Mod_isFound prog_13_method_51_code 5 (some .boolean) ∈ am_T := am_mem 1234 (by decide +kernel) rfl
def rw_Mod_isFound : List (Nat × Instr × Nat) := [(0, .aload_n 0, 1), (1, .getfield 168, 3), (4, .istore_n 2, 1), (5, .iconst 0, 1), (6, .istore_n 3, 1), (7, .iload_n 3, 1), (8, .iload_n 2, 1), (9, .if_icmp .ge 49, 3), (12, .aload_n 0, 1), (13, .getfield 38, 3), (16, .iload_n 3, 1), (17, .aload_n 0, 1), (18, .iload_n 1, 1), (19, .iload_n 3, 1), (20, .invokevirtual 177, 3), (23, .iastore, 1), (24, .iload_n 3, 1), (25, .ifCond .le 27, 3), (28, .aload_n 0, 1), (29, .getfield 38, 3), (32, .iload_n 3, 1), (33, .iaload, 1), (34, .aload_n 0, 1), (35, .getfield 38, 3), (38, .iload_n 3, 1), (39, .iconst 1, 1), (40, .isub, 1), (41, .iaload, 1), (42, .ixor, 1), (43, .invokestatic 119, 3), (46, .iconst 1, 1), (47, .if_icmp .eq 5, 3), (50, .iconst 0, 1), (51, .ireturn, 1), (52, .iinc 3 1, 3), (55, .goto (-48), 3), (58, .aload_n 0, 1), (59, .getfield 38, 3), (62, .iconst 0, 1), (63, .iaload, 1), (64, .aload_n 0, 1), (65, .getfield 38, 3), (68, .iload_n 2, 1), (69, .iconst 1, 1), (70, .isub, 1), (71, .iaload, 1), (72, .ixor, 1), (73, .invokestatic 119, 3), (76, .iconst 1, 1), (77, .if_icmp .eq 5, 3), (80, .iconst 0, 1), (81, .ireturn, 1), (82, .iconst 0, 1), (83, .istore_n 3, 1), (84, .iload_n 3, 1), (85, .iload_n 2, 1), (86, .if_icmp .ge 44, 3), (89, .iload_n 3, 1), (90, .iconst 1, 1), (91, .iadd, 1), (92, .istore 4, 2), (94, .iload 4, 2), (96, .iload_n 2, 1), (97, .if_icmp .ge 27, 3), (100, .aload_n 0, 1), (101, .getfield 38, 3), (104, .iload_n 3, 1), (105, .iaload, 1), (106, .aload_n 0, 1), (107, .getfield 38, 3), (110, .iload 4, 2), (112, .iaload, 1), (113, .if_icmp .ne 5, 3), (116, .iconst 0, 1), (117, .ireturn, 1), (118, .iinc 4 1, 3), (121, .goto (-27), 3), (124, .iinc 3 1, 3), (127, .goto (-43), 3), (130, .iconst 1, 1), (131, .istore_n 3, 1), (132, .iload_n 3, 1), (133, .iload_n 2, 1), (134, .if_icmp .ge 34, 3), (137, .iload_n 1, 1), (138, .iload_n 3, 1), (139, .ishl, 1), (140, .iload_n 1, 1), (141, .iload_n 2, 1), (142, .iload_n 3, 1), (143, .isub, 1), (144, .ishr, 1), (145, .ior, 1), (146, .iconst 1, 1), (147, .iload_n 2, 1), (148, .ishl, 1), (149, .iconst 1, 1), (150, .isub, 1), (151, .iand, 1), (152, .istore 4, 2), (154, .iload 4, 2), (156, .iload_n 1, 1), (157, .if_icmp .ge 5, 3), (160, .iconst 0, 1), (161, .ireturn, 1), (162, .iinc 3 1, 3), (165, .goto (-33), 3), (168, .iconst 1, 1), (169, .ireturn, 1)]
theorem ro_Mod_isFound : rw_Mod_isFound.all (fun r => decide (decode prog_13_method_51_code r.1 = .ok r.2)) = true := by decide +kernel
theorem d_Mod_isFound_0 : decode prog_13_method_51_code 0 = .ok (.aload_n 0, 1) := am_row (r := (0, .aload_n 0, 1)) ro_Mod_isFound 0 rfl
theorem d_Mod_isFound_1 : decode prog_13_method_51_code 1 = .ok (.getfield 168, 3) := am_row (r := (1, .getfield 168, 3)) ro_Mod_isFound 1 rfl
theorem d_Mod_isFound_4 : decode prog_13_method_51_code 4 = .ok (.istore_n 2, 1) := am_row (r := (4, .istore_n 2, 1)) ro_Mod_isFound 2 rfl
theorem d_Mod_isFound_5 : decode prog_13_method_51_code 5 = .ok (.iconst 0, 1) := am_row (r := (5, .iconst 0, 1)) ro_Mod_isFound 3 rfl
theorem d_Mod_isFound_6 : decode prog_13_method_51_code 6 = .ok (.istore_n 3, 1) := am_row (r := (6, .istore_n 3, 1)) ro_Mod_isFound 4 rfl
theorem d_Mod_isFound_7 : decode prog_13_method_51_code 7 = .ok (.iload_n 3, 1) := am_row (r := (7, .iload_n 3, 1)) ro_Mod_isFound 5 rfl
theorem d_Mod_isFound_8 : decode prog_13_method_51_code 8 = .ok (.iload_n 2, 1) := am_row (r := (8, .iload_n 2, 1)) ro_Mod_isFound 6 rfl
theorem d_Mod_isFound_9 : decode prog_13_method_51_code 9 = .ok (.if_icmp .ge 49, 3) := am_row (r := (9, .if_icmp .ge 49, 3)) ro_Mod_isFound 7 rfl
theorem d_Mod_isFound_12 : decode prog_13_method_51_code 12 = .ok (.aload_n 0, 1) := am_row (r := (12, .aload_n 0, 1)) ro_Mod_isFound 8 rfl
theorem d_Mod_isFound_13 : decode prog_13_method_51_code 13 = .ok (.getfield 38, 3) := am_row (r := (13, .getfield 38, 3)) ro_Mod_isFound 9 rfl
theorem d_Mod_isFound_16 : decode prog_13_method_51_code 16 = .ok (.iload_n 3, 1) := am_row (r := (16, .iload_n 3, 1)) ro_Mod_isFound 10 rfl
theorem d_Mod_isFound_17 : decode prog_13_method_51_code 17 = .ok (.aload_n 0, 1) := am_row (r := (17, .aload_n 0, 1)) ro_Mod_isFound 11 rfl
theorem d_Mod_isFound_18 : decode prog_13_method_51_code 18 = .ok (.iload_n 1, 1) := am_row (r := (18, .iload_n 1, 1)) ro_Mod_isFound 12 rfl
theorem d_Mod_isFound_19 : decode prog_13_method_51_code 19 = .ok (.iload_n 3, 1) := am_row (r := (19, .iload_n 3, 1)) ro_Mod_isFound 13 rfl
theorem d_Mod_isFound_20 : decode prog_13_method_51_code 20 = .ok (.invokevirtual 177, 3) := am_row (r := (20, .invokevirtual 177, 3)) ro_Mod_isFound 14 rfl
theorem d_Mod_isFound_23 : decode prog_13_method_51_code 23 = .ok (.iastore, 1) := am_row (r := (23, .iastore, 1)) ro_Mod_isFound 15 rfl
theorem d_Mod_isFound_24 : decode prog_13_method_51_code 24 = .ok (.iload_n 3, 1) := am_row (r := (24, .iload_n 3, 1)) ro_Mod_isFound 16 rfl
theorem d_Mod_isFound_25 : decode prog_13_method_51_code 25 = .ok (.ifCond .le 27, 3) := am_row (r := (25, .ifCond .le 27, 3)) ro_Mod_isFound 17 rfl
theorem d_Mod_isFound_28 : decode prog_13_method_51_code 28 = .ok (.aload_n 0, 1) := am_row (r := (28, .aload_n 0, 1)) ro_Mod_isFound 18 rfl
theorem d_Mod_isFound_29 : decode prog_13_method_51_code 29 = .ok (.getfield 38, 3) := am_row (r := (29, .getfield 38, 3)) ro_Mod_isFound 19 rfl
theorem d_Mod_isFound_32 : decode prog_13_method_51_code 32 = .ok (.iload_n 3, 1) := am_row (r := (32, .iload_n 3, 1)) ro_Mod_isFound 20 rfl
theorem d_Mod_isFound_33 : decode prog_13_method_51_code 33 = .ok (.iaload, 1) := am_row (r := (33, .iaload, 1)) ro_Mod_isFound 21 rfl
theorem d_Mod_isFound_34 : decode prog_13_method_51_code 34 = .ok (.aload_n 0, 1) := am_row (r := (34, .aload_n 0, 1)) ro_Mod_isFound 22 rfl
theorem d_Mod_isFound_35 : decode prog_13_method_51_code 35 = .ok (.getfield 38, 3) := am_row (r := (35, .getfield 38, 3)) ro_Mod_isFound 23 rfl
theorem d_Mod_isFound_38 : decode prog_13_method_51_code 38 = .ok (.iload_n 3, 1) := am_row (r := (38, .iload_n 3, 1)) ro_Mod_isFound 24 rfl
theorem d_Mod_isFound_39 : decode prog_13_method_51_code 39 = .ok (.iconst 1, 1) := am_row (r := (39, .iconst 1, 1)) ro_Mod_isFound 25 rfl
theorem d_Mod_isFound_40 : decode prog_13_method_51_code 40 = .ok (.isub, 1) := am_row (r := (40, .isub, 1)) ro_Mod_isFound 26 rfl
theorem d_Mod_isFound_41 : decode prog_13_method_51_code 41 = .ok (.iaload, 1) := am_row (r := (41, .iaload, 1)) ro_Mod_isFound 27 rfl
theorem d_Mod_isFound_42 : decode prog_13_method_51_code 42 = .ok (.ixor, 1) := am_row (r := (42, .ixor, 1)) ro_Mod_isFound 28 rfl
theorem d_Mod_isFound_43 : decode prog_13_method_51_code 43 = .ok (.invokestatic 119, 3) := am_row (r := (43, .invokestatic 119, 3)) ro_Mod_isFound 29 rfl
theorem d_Mod_isFound_46 : decode prog_13_method_51_code 46 = .ok (.iconst 1, 1) := am_row (r := (46, .iconst 1, 1)) ro_Mod_isFound 30 rfl
theorem d_Mod_isFound_47 : decode prog_13_method_51_code 47 = .ok (.if_icmp .eq 5, 3) := am_row (r := (47, .if_icmp .eq 5, 3)) ro_Mod_isFound 31 rfl
theorem d_Mod_isFound_50 : decode prog_13_method_51_code 50 = .ok (.iconst 0, 1) := am_row (r := (50, .iconst 0, 1)) ro_Mod_isFound 32 rfl
theorem d_Mod_isFound_51 : decode prog_13_method_51_code 51 = .ok (.ireturn, 1) := am_row (r := (51, .ireturn, 1)) ro_Mod_isFound 33 rfl
theorem d_Mod_isFound_52 : decode prog_13_method_51_code 52 = .ok (.iinc 3 1, 3) := am_row (r := (52, .iinc 3 1, 3)) ro_Mod_isFound 34 rfl
theorem d_Mod_isFound_55 : decode prog_13_method_51_code 55 = .ok (.goto (-48), 3) := am_row (r := (55, .goto (-48), 3)) ro_Mod_isFound 35 rfl
theorem d_Mod_isFound_58 : decode prog_13_method_51_code 58 = .ok (.aload_n 0, 1) := am_row (r := (58, .aload_n 0, 1)) ro_Mod_isFound 36 rfl
theorem d_Mod_isFound_59 : decode prog_13_method_51_code 59 = .ok (.getfield 38, 3) := am_row (r := (59, .getfield 38, 3)) ro_Mod_isFound 37 rfl
theorem d_Mod_isFound_62 : decode prog_13_method_51_code 62 = .ok (.iconst 0, 1) := am_row (r := (62, .iconst 0, 1)) ro_Mod_isFound 38 rfl
theorem d_Mod_isFound_63 : decode prog_13_method_51_code 63 = .ok (.iaload, 1) := am_row (r := (63, .iaload, 1)) ro_Mod_isFound 39 rfl
theorem d_Mod_isFound_64 : decode prog_13_method_51_code 64 = .ok (.aload_n 0, 1) := am_row (r := (64, .aload_n 0, 1)) ro_Mod_isFound 40 rfl
theorem d_Mod_isFound_65 : decode prog_13_method_51_code 65 = .ok (.getfield 38, 3) := am_row (r := (65, .getfield 38, 3)) ro_Mod_isFound 41 rfl
theorem d_Mod_isFound_68 : decode prog_13_method_51_code 68 = .ok (.iload_n 2, 1) := am_row (r := (68, .iload_n 2, 1)) ro_Mod_isFound 42 rfl
theorem d_Mod_isFound_69 : decode prog_13_method_51_code 69 = .ok (.iconst 1, 1) := am_row (r := (69, .iconst 1, 1)) ro_Mod_isFound 43 rfl
theorem d_Mod_isFound_70 : decode prog_13_method_51_code 70 = .ok (.isub, 1) := am_row (r := (70, .isub, 1)) ro_Mod_isFound 44 rfl
theorem d_Mod_isFound_71 : decode prog_13_method_51_code 71 = .ok (.iaload, 1) := am_row (r := (71, .iaload, 1)) ro_Mod_isFound 45 rfl
theorem d_Mod_isFound_72 : decode prog_13_method_51_code 72 = .ok (.ixor, 1) := am_row (r := (72, .ixor, 1)) ro_Mod_isFound 46 rfl
theorem d_Mod_isFound_73 : decode prog_13_method_51_code 73 = .ok (.invokestatic 119, 3) := am_row (r := (73, .invokestatic 119, 3)) ro_Mod_isFound 47 rfl
theorem d_Mod_isFound_76 : decode prog_13_method_51_code 76 = .ok (.iconst 1, 1) := am_row (r := (76, .iconst 1, 1)) ro_Mod_isFound 48 rfl
theorem d_Mod_isFound_77 : decode prog_13_method_51_code 77 = .ok (.if_icmp .eq 5, 3) := am_row (r := (77, .if_icmp .eq 5, 3)) ro_Mod_isFound 49 rfl
theorem d_Mod_isFound_80 : decode prog_13_method_51_code 80 = .ok (.iconst 0, 1) := am_row (r := (80, .iconst 0, 1)) ro_Mod_isFound 50 rfl
theorem d_Mod_isFound_81 : decode prog_13_method_51_code 81 = .ok (.ireturn, 1) := am_row (r := (81, .ireturn, 1)) ro_Mod_isFound 51 rfl
theorem d_Mod_isFound_82 : decode prog_13_method_51_code 82 = .ok (.iconst 0, 1) := am_row (r := (82, .iconst 0, 1)) ro_Mod_isFound 52 rfl
theorem d_Mod_isFound_83 : decode prog_13_method_51_code 83 = .ok (.istore_n 3, 1) := am_row (r := (83, .istore_n 3, 1)) ro_Mod_isFound 53 rfl
theorem d_Mod_isFound_84 : decode prog_13_method_51_code 84 = .ok (.iload_n 3, 1) := am_row (r := (84, .iload_n 3, 1)) ro_Mod_isFound 54 rfl
theorem d_Mod_isFound_85 : decode prog_13_method_51_code 85 = .ok (.iload_n 2, 1) := am_row (r := (85, .iload_n 2, 1)) ro_Mod_isFound 55 rfl
theorem d_Mod_isFound_86 : decode prog_13_method_51_code 86 = .ok (.if_icmp .ge 44, 3) := am_row (r := (86, .if_icmp .ge 44, 3)) ro_Mod_isFound 56 rfl
theorem d_Mod_isFound_89 : decode prog_13_method_51_code 89 = .ok (.iload_n 3, 1) := am_row (r := (89, .iload_n 3, 1)) ro_Mod_isFound 57 rfl
theorem d_Mod_isFound_90 : decode prog_13_method_51_code 90 = .ok (.iconst 1, 1) := am_row (r := (90, .iconst 1, 1)) ro_Mod_isFound 58 rfl
theorem d_Mod_isFound_91 : decode prog_13_method_51_code 91 = .ok (.iadd, 1) := am_row (r := (91, .iadd, 1)) ro_Mod_isFound 59 rfl
theorem d_Mod_isFound_92 : decode prog_13_method_51_code 92 = .ok (.istore 4, 2) := am_row (r := (92, .istore 4, 2)) ro_Mod_isFound 60 rfl
theorem d_Mod_isFound_94 : decode prog_13_method_51_code 94 = .ok (.iload 4, 2) := am_row (r := (94, .iload 4, 2)) ro_Mod_isFound 61 rfl
theorem d_Mod_isFound_96 : decode prog_13_method_51_code 96 = .ok (.iload_n 2, 1) := am_row (r := (96, .iload_n 2, 1)) ro_Mod_isFound 62 rfl
theorem d_Mod_isFound_97 : decode prog_13_method_51_code 97 = .ok (.if_icmp .ge 27, 3) := am_row (r := (97, .if_icmp .ge 27, 3)) ro_Mod_isFound 63 rfl
theorem d_Mod_isFound_100 : decode prog_13_method_51_code 100 = .ok (.aload_n 0, 1) := am_row (r := (100, .aload_n 0, 1)) ro_Mod_isFound 64 rfl
theorem d_Mod_isFound_101 : decode prog_13_method_51_code 101 = .ok (.getfield 38, 3) := am_row (r := (101, .getfield 38, 3)) ro_Mod_isFound 65 rfl
theorem d_Mod_isFound_104 : decode prog_13_method_51_code 104 = .ok (.iload_n 3, 1) := am_row (r := (104, .iload_n 3, 1)) ro_Mod_isFound 66 rfl
theorem d_Mod_isFound_105 : decode prog_13_method_51_code 105 = .ok (.iaload, 1) := am_row (r := (105, .iaload, 1)) ro_Mod_isFound 67 rfl
theorem d_Mod_isFound_106 : decode prog_13_method_51_code 106 = .ok (.aload_n 0, 1) := am_row (r := (106, .aload_n 0, 1)) ro_Mod_isFound 68 rfl
theorem d_Mod_isFound_107 : decode prog_13_method_51_code 107 = .ok (.getfield 38, 3) := am_row (r := (107, .getfield 38, 3)) ro_Mod_isFound 69 rfl
theorem d_Mod_isFound_110 : decode prog_13_method_51_code 110 = .ok (.iload 4, 2) := am_row (r := (110, .iload 4, 2)) ro_Mod_isFound 70 rfl
theorem d_Mod_isFound_112 : decode prog_13_method_51_code 112 = .ok (.iaload, 1) := am_row (r := (112, .iaload, 1)) ro_Mod_isFound 71 rfl
theorem d_Mod_isFound_113 : decode prog_13_method_51_code 113 = .ok (.if_icmp .ne 5, 3) := am_row (r := (113, .if_icmp .ne 5, 3)) ro_Mod_isFound 72 rfl
theorem d_Mod_isFound_116 : decode prog_13_method_51_code 116 = .ok (.iconst 0, 1) := am_row (r := (116, .iconst 0, 1)) ro_Mod_isFound 73 rfl
theorem d_Mod_isFound_117 : decode prog_13_method_51_code 117 = .ok (.ireturn, 1) := am_row (r := (117, .ireturn, 1)) ro_Mod_isFound 74 rfl
theorem d_Mod_isFound_118 : decode prog_13_method_51_code 118 = .ok (.iinc 4 1, 3) := am_row (r := (118, .iinc 4 1, 3)) ro_Mod_isFound 75 rfl
theorem d_Mod_isFound_121 : decode prog_13_method_51_code 121 = .ok (.goto (-27), 3) := am_row (r := (121, .goto (-27), 3)) ro_Mod_isFound 76 rfl
theorem d_Mod_isFound_124 : decode prog_13_method_51_code 124 = .ok (.iinc 3 1, 3) := am_row (r := (124, .iinc 3 1, 3)) ro_Mod_isFound 77 rfl
theorem d_Mod_isFound_127 : decode prog_13_method_51_code 127 = .ok (.goto (-43), 3) := am_row (r := (127, .goto (-43), 3)) ro_Mod_isFound 78 rfl
theorem d_Mod_isFound_130 : decode prog_13_method_51_code 130 = .ok (.iconst 1, 1) := am_row (r := (130, .iconst 1, 1)) ro_Mod_isFound 79 rfl
theorem d_Mod_isFound_131 : decode prog_13_method_51_code 131 = .ok (.istore_n 3, 1) := am_row (r := (131, .istore_n 3, 1)) ro_Mod_isFound 80 rfl
theorem d_Mod_isFound_132 : decode prog_13_method_51_code 132 = .ok (.iload_n 3, 1) := am_row (r := (132, .iload_n 3, 1)) ro_Mod_isFound 81 rfl
theorem d_Mod_isFound_133 : decode prog_13_method_51_code 133 = .ok (.iload_n 2, 1) := am_row (r := (133, .iload_n 2, 1)) ro_Mod_isFound 82 rfl
theorem d_Mod_isFound_134 : decode prog_13_method_51_code 134 = .ok (.if_icmp .ge 34, 3) := am_row (r := (134, .if_icmp .ge 34, 3)) ro_Mod_isFound 83 rfl
theorem d_Mod_isFound_137 : decode prog_13_method_51_code 137 = .ok (.iload_n 1, 1) := am_row (r := (137, .iload_n 1, 1)) ro_Mod_isFound 84 rfl
theorem d_Mod_isFound_138 : decode prog_13_method_51_code 138 = .ok (.iload_n 3, 1) := am_row (r := (138, .iload_n 3, 1)) ro_Mod_isFound 85 rfl
theorem d_Mod_isFound_139 : decode prog_13_method_51_code 139 = .ok (.ishl, 1) := am_row (r := (139, .ishl, 1)) ro_Mod_isFound 86 rfl
theorem d_Mod_isFound_140 : decode prog_13_method_51_code 140 = .ok (.iload_n 1, 1) := am_row (r := (140, .iload_n 1, 1)) ro_Mod_isFound 87 rfl
theorem d_Mod_isFound_141 : decode prog_13_method_51_code 141 = .ok (.iload_n 2, 1) := am_row (r := (141, .iload_n 2, 1)) ro_Mod_isFound 88 rfl
theorem d_Mod_isFound_142 : decode prog_13_method_51_code 142 = .ok (.iload_n 3, 1) := am_row (r := (142, .iload_n 3, 1)) ro_Mod_isFound 89 rfl
theorem d_Mod_isFound_143 : decode prog_13_method_51_code 143 = .ok (.isub, 1) := am_row (r := (143, .isub, 1)) ro_Mod_isFound 90 rfl
theorem d_Mod_isFound_144 : decode prog_13_method_51_code 144 = .ok (.ishr, 1) := am_row (r := (144, .ishr, 1)) ro_Mod_isFound 91 rfl
theorem d_Mod_isFound_145 : decode prog_13_method_51_code 145 = .ok (.ior, 1) := am_row (r := (145, .ior, 1)) ro_Mod_isFound 92 rfl
theorem d_Mod_isFound_146 : decode prog_13_method_51_code 146 = .ok (.iconst 1, 1) := am_row (r := (146, .iconst 1, 1)) ro_Mod_isFound 93 rfl
theorem d_Mod_isFound_147 : decode prog_13_method_51_code 147 = .ok (.iload_n 2, 1) := am_row (r := (147, .iload_n 2, 1)) ro_Mod_isFound 94 rfl
theorem d_Mod_isFound_148 : decode prog_13_method_51_code 148 = .ok (.ishl, 1) := am_row (r := (148, .ishl, 1)) ro_Mod_isFound 95 rfl
theorem d_Mod_isFound_149 : decode prog_13_method_51_code 149 = .ok (.iconst 1, 1) := am_row (r := (149, .iconst 1, 1)) ro_Mod_isFound 96 rfl
theorem d_Mod_isFound_150 : decode prog_13_method_51_code 150 = .ok (.isub, 1) := am_row (r := (150, .isub, 1)) ro_Mod_isFound 97 rfl
theorem d_Mod_isFound_151 : decode prog_13_method_51_code 151 = .ok (.iand, 1) := am_row (r := (151, .iand, 1)) ro_Mod_isFound 98 rfl
theorem d_Mod_isFound_152 : decode prog_13_method_51_code 152 = .ok (.istore 4, 2) := am_row (r := (152, .istore 4, 2)) ro_Mod_isFound 99 rfl
theorem d_Mod_isFound_154 : decode prog_13_method_51_code 154 = .ok (.iload 4, 2) := am_row (r := (154, .iload 4, 2)) ro_Mod_isFound 100 rfl
theorem d_Mod_isFound_156 : decode prog_13_method_51_code 156 = .ok (.iload_n 1, 1) := am_row (r := (156, .iload_n 1, 1)) ro_Mod_isFound 101 rfl
theorem d_Mod_isFound_157 : decode prog_13_method_51_code 157 = .ok (.if_icmp .ge 5, 3) := am_row (r := (157, .if_icmp .ge 5, 3)) ro_Mod_isFound 102 rfl
theorem d_Mod_isFound_160 : decode prog_13_method_51_code 160 = .ok (.iconst 0, 1) := am_row (r := (160, .iconst 0, 1)) ro_Mod_isFound 103 rfl
theorem d_Mod_isFound_161 : decode prog_13_method_51_code 161 = .ok (.ireturn, 1) := am_row (r := (161, .ireturn, 1)) ro_Mod_isFound 104 rfl
theorem d_Mod_isFound_162 : decode prog_13_method_51_code 162 = .ok (.iinc 3 1, 3) := am_row (r := (162, .iinc 3 1, 3)) ro_Mod_isFound 105 rfl
theorem d_Mod_isFound_165 : decode prog_13_method_51_code 165 = .ok (.goto (-33), 3) := am_row (r := (165, .goto (-33), 3)) ro_Mod_isFound 106 rfl
theorem d_Mod_isFound_168 : decode prog_13_method_51_code 168 = .ok (.iconst 1, 1) := am_row (r := (168, .iconst 1, 1)) ro_Mod_isFound 107 rfl
theorem d_Mod_isFound_169 : decode prog_13_method_51_code 169 = .ok (.ireturn, 1) := am_row (r := (169, .ireturn, 1)) ro_Mod_isFound 108 rfl
abbrev y_Mod_search : MethodName := ⟨"WheelDiscModel", "search", "(I)I"⟩
theorem c_Mod_search : Cond.code y_Mod_search prog_13_method_52_code 5 (some .int) ∈ am_T := am_mem 1230 (by decide +kernel) rfl
def rw_Mod_search : List (Nat × Instr × Nat) := [(0, .aload_n 0, 1), (1, .dup, 1), (2, .getfield 181, 3), (5, .iload_n 1, 1), (6, .iadd, 1), (7, .putfield 181, 3), (10, .iconst 0, 1), (11, .istore_n 2, 1), (12, .iload_n 2, 1), (13, .iload_n 1, 1), (14, .if_icmp .ge 156, 3), (17, .aload_n 0, 1), (18, .getfield 184, 3), (21, .iconst 1, 1), (22, .aload_n 0, 1), (23, .getfield 168, 3), (26, .ishl, 1), (27, .if_icmp .ge 143, 3), (30, .aload_n 0, 1), (31, .getfield 184, 3), (34, .istore_n 3, 1), (35, .aload_n 0, 1), (36, .dup, 1), (37, .getfield 184, 3), (40, .iconst 1, 1), (41, .iadd, 1), (42, .putfield 184, 3), (45, .aload_n 0, 1), (46, .iload_n 3, 1), (47, .invokevirtual 187, 3), (50, .ifCond .ne 6, 3), (53, .goto 111, 3), (56, .aload_n 0, 1), (57, .invokevirtual 82, 3), (60, .aload_n 0, 1), (61, .aload_n 0, 1), (62, .getfield 168, 3), (65, .invokevirtual 85, 3), (68, .iconst 0, 1), (69, .istore 4, 2), (71, .iload 4, 2), (73, .aload_n 0, 1), (74, .getfield 168, 3), (77, .if_icmp .ge 23, 3), (80, .aload_n 0, 1), (81, .getfield 20, 3), (84, .iload 4, 2), (86, .aload_n 0, 1), (87, .iload_n 3, 1), (88, .iload 4, 2), (90, .invokevirtual 174, 3), (93, .bastore, 1), (94, .iinc 4 1, 3), (97, .goto (-26), 3), (100, .aload_n 0, 1), (101, .getfield 9, 3), (104, .iconst 1, 1), (105, .iconst 1, 1), (106, .iastore, 1), (107, .aload_n 0, 1), (108, .getfield 9, 3), (111, .iconst 2, 1), (112, .aload_n 0, 1), (113, .getfield 171, 3), (116, .iastore, 1), (117, .iconst 0, 1), (118, .istore 4, 2), (120, .iload 4, 2), (122, .aload_n 0, 1), (123, .getfield 171, 3), (126, .if_icmp .ge 36, 3), (129, .aload_n 0, 1), (130, .getfield 13, 3), (133, .iload 4, 2), (135, .iconst 0, 1), (136, .iastore, 1), (137, .aload_n 0, 1), (138, .getfield 16, 3), (141, .iload 4, 2), (143, .iload 4, 2), (145, .aload_n 0, 1), (146, .getfield 168, 3), (149, .aload_n 0, 1), (150, .getfield 171, 3), (153, .idiv, 1), (154, .imul, 1), (155, .iastore, 1), (156, .iinc 4 1, 3), (159, .goto (-39), 3), (162, .iconst 1, 1), (163, .ireturn, 1), (164, .iinc 2 1, 3), (167, .goto (-155), 3), (170, .aload_n 0, 1), (171, .getfield 184, 3), (174, .iconst 1, 1), (175, .aload_n 0, 1), (176, .getfield 168, 3), (179, .ishl, 1), (180, .if_icmp .ge 6, 3), (183, .bipush (-2), 2), (185, .ireturn, 1), (186, .aload_n 0, 1), (187, .iconst 0, 1), (188, .putfield 168, 3), (191, .iconst 0, 1), (192, .ireturn, 1)]
theorem ro_Mod_search : rw_Mod_search.all (fun r => decide (decode prog_13_method_52_code r.1 = .ok r.2)) = true := by decide +kernel
theorem d_Mod_search_0 : decode prog_13_method_52_code 0 = .ok (.aload_n 0, 1) := am_row (r := (0, .aload_n 0, 1)) ro_Mod_search 0 rfl
theorem d_Mod_search_1 : decode prog_13_method_52_code 1 = .ok (.dup, 1) := am_row (r := (1, .dup, 1)) ro_Mod_search 1 rfl
theorem d_Mod_search_2 : decode prog_13_method_52_code 2 = .ok (.getfield 181, 3) := am_row (r := (2, .getfield 181, 3)) ro_Mod_search 2 rfl
theorem d_Mod_search_5 : decode prog_13_method_52_code 5 = .ok (.iload_n 1, 1) := am_row (r := (5, .iload_n 1, 1)) ro_Mod_search 3 rfl
theorem d_Mod_search_6 : decode prog_13_method_52_code 6 = .ok (.iadd, 1) := am_row (r := (6, .iadd, 1)) ro_Mod_search 4 rfl
theorem d_Mod_search_7 : decode prog_13_method_52_code 7 = .ok (.putfield 181, 3) := am_row (r := (7, .putfield 181, 3)) ro_Mod_search 5 rfl
theorem d_Mod_search_10 : decode prog_13_method_52_code 10 = .ok (.iconst 0, 1) := am_row (r := (10, .iconst 0, 1)) ro_Mod_search 6 rfl
theorem d_Mod_search_11 : decode prog_13_method_52_code 11 = .ok (.istore_n 2, 1) := am_row (r := (11, .istore_n 2, 1)) ro_Mod_search 7 rfl
theorem d_Mod_search_12 : decode prog_13_method_52_code 12 = .ok (.iload_n 2, 1) := am_row (r := (12, .iload_n 2, 1)) ro_Mod_search 8 rfl
theorem d_Mod_search_13 : decode prog_13_method_52_code 13 = .ok (.iload_n 1, 1) := am_row (r := (13, .iload_n 1, 1)) ro_Mod_search 9 rfl
theorem d_Mod_search_14 : decode prog_13_method_52_code 14 = .ok (.if_icmp .ge 156, 3) := am_row (r := (14, .if_icmp .ge 156, 3)) ro_Mod_search 10 rfl
theorem d_Mod_search_17 : decode prog_13_method_52_code 17 = .ok (.aload_n 0, 1) := am_row (r := (17, .aload_n 0, 1)) ro_Mod_search 11 rfl
theorem d_Mod_search_18 : decode prog_13_method_52_code 18 = .ok (.getfield 184, 3) := am_row (r := (18, .getfield 184, 3)) ro_Mod_search 12 rfl
theorem d_Mod_search_21 : decode prog_13_method_52_code 21 = .ok (.iconst 1, 1) := am_row (r := (21, .iconst 1, 1)) ro_Mod_search 13 rfl
theorem d_Mod_search_22 : decode prog_13_method_52_code 22 = .ok (.aload_n 0, 1) := am_row (r := (22, .aload_n 0, 1)) ro_Mod_search 14 rfl
theorem d_Mod_search_23 : decode prog_13_method_52_code 23 = .ok (.getfield 168, 3) := am_row (r := (23, .getfield 168, 3)) ro_Mod_search 15 rfl
theorem d_Mod_search_26 : decode prog_13_method_52_code 26 = .ok (.ishl, 1) := am_row (r := (26, .ishl, 1)) ro_Mod_search 16 rfl
theorem d_Mod_search_27 : decode prog_13_method_52_code 27 = .ok (.if_icmp .ge 143, 3) := am_row (r := (27, .if_icmp .ge 143, 3)) ro_Mod_search 17 rfl
theorem d_Mod_search_30 : decode prog_13_method_52_code 30 = .ok (.aload_n 0, 1) := am_row (r := (30, .aload_n 0, 1)) ro_Mod_search 18 rfl
theorem d_Mod_search_31 : decode prog_13_method_52_code 31 = .ok (.getfield 184, 3) := am_row (r := (31, .getfield 184, 3)) ro_Mod_search 19 rfl
theorem d_Mod_search_34 : decode prog_13_method_52_code 34 = .ok (.istore_n 3, 1) := am_row (r := (34, .istore_n 3, 1)) ro_Mod_search 20 rfl
theorem d_Mod_search_35 : decode prog_13_method_52_code 35 = .ok (.aload_n 0, 1) := am_row (r := (35, .aload_n 0, 1)) ro_Mod_search 21 rfl
theorem d_Mod_search_36 : decode prog_13_method_52_code 36 = .ok (.dup, 1) := am_row (r := (36, .dup, 1)) ro_Mod_search 22 rfl
theorem d_Mod_search_37 : decode prog_13_method_52_code 37 = .ok (.getfield 184, 3) := am_row (r := (37, .getfield 184, 3)) ro_Mod_search 23 rfl
theorem d_Mod_search_40 : decode prog_13_method_52_code 40 = .ok (.iconst 1, 1) := am_row (r := (40, .iconst 1, 1)) ro_Mod_search 24 rfl
theorem d_Mod_search_41 : decode prog_13_method_52_code 41 = .ok (.iadd, 1) := am_row (r := (41, .iadd, 1)) ro_Mod_search 25 rfl
theorem d_Mod_search_42 : decode prog_13_method_52_code 42 = .ok (.putfield 184, 3) := am_row (r := (42, .putfield 184, 3)) ro_Mod_search 26 rfl
theorem d_Mod_search_45 : decode prog_13_method_52_code 45 = .ok (.aload_n 0, 1) := am_row (r := (45, .aload_n 0, 1)) ro_Mod_search 27 rfl
theorem d_Mod_search_46 : decode prog_13_method_52_code 46 = .ok (.iload_n 3, 1) := am_row (r := (46, .iload_n 3, 1)) ro_Mod_search 28 rfl
theorem d_Mod_search_47 : decode prog_13_method_52_code 47 = .ok (.invokevirtual 187, 3) := am_row (r := (47, .invokevirtual 187, 3)) ro_Mod_search 29 rfl
theorem d_Mod_search_50 : decode prog_13_method_52_code 50 = .ok (.ifCond .ne 6, 3) := am_row (r := (50, .ifCond .ne 6, 3)) ro_Mod_search 30 rfl
theorem d_Mod_search_53 : decode prog_13_method_52_code 53 = .ok (.goto 111, 3) := am_row (r := (53, .goto 111, 3)) ro_Mod_search 31 rfl
theorem d_Mod_search_56 : decode prog_13_method_52_code 56 = .ok (.aload_n 0, 1) := am_row (r := (56, .aload_n 0, 1)) ro_Mod_search 32 rfl
theorem d_Mod_search_57 : decode prog_13_method_52_code 57 = .ok (.invokevirtual 82, 3) := am_row (r := (57, .invokevirtual 82, 3)) ro_Mod_search 33 rfl
theorem d_Mod_search_60 : decode prog_13_method_52_code 60 = .ok (.aload_n 0, 1) := am_row (r := (60, .aload_n 0, 1)) ro_Mod_search 34 rfl
theorem d_Mod_search_61 : decode prog_13_method_52_code 61 = .ok (.aload_n 0, 1) := am_row (r := (61, .aload_n 0, 1)) ro_Mod_search 35 rfl
theorem d_Mod_search_62 : decode prog_13_method_52_code 62 = .ok (.getfield 168, 3) := am_row (r := (62, .getfield 168, 3)) ro_Mod_search 36 rfl
theorem d_Mod_search_65 : decode prog_13_method_52_code 65 = .ok (.invokevirtual 85, 3) := am_row (r := (65, .invokevirtual 85, 3)) ro_Mod_search 37 rfl
theorem d_Mod_search_68 : decode prog_13_method_52_code 68 = .ok (.iconst 0, 1) := am_row (r := (68, .iconst 0, 1)) ro_Mod_search 38 rfl
theorem d_Mod_search_69 : decode prog_13_method_52_code 69 = .ok (.istore 4, 2) := am_row (r := (69, .istore 4, 2)) ro_Mod_search 39 rfl
theorem d_Mod_search_71 : decode prog_13_method_52_code 71 = .ok (.iload 4, 2) := am_row (r := (71, .iload 4, 2)) ro_Mod_search 40 rfl
theorem d_Mod_search_73 : decode prog_13_method_52_code 73 = .ok (.aload_n 0, 1) := am_row (r := (73, .aload_n 0, 1)) ro_Mod_search 41 rfl
theorem d_Mod_search_74 : decode prog_13_method_52_code 74 = .ok (.getfield 168, 3) := am_row (r := (74, .getfield 168, 3)) ro_Mod_search 42 rfl
theorem d_Mod_search_77 : decode prog_13_method_52_code 77 = .ok (.if_icmp .ge 23, 3) := am_row (r := (77, .if_icmp .ge 23, 3)) ro_Mod_search 43 rfl
theorem d_Mod_search_80 : decode prog_13_method_52_code 80 = .ok (.aload_n 0, 1) := am_row (r := (80, .aload_n 0, 1)) ro_Mod_search 44 rfl
theorem d_Mod_search_81 : decode prog_13_method_52_code 81 = .ok (.getfield 20, 3) := am_row (r := (81, .getfield 20, 3)) ro_Mod_search 45 rfl
theorem d_Mod_search_84 : decode prog_13_method_52_code 84 = .ok (.iload 4, 2) := am_row (r := (84, .iload 4, 2)) ro_Mod_search 46 rfl
theorem d_Mod_search_86 : decode prog_13_method_52_code 86 = .ok (.aload_n 0, 1) := am_row (r := (86, .aload_n 0, 1)) ro_Mod_search 47 rfl
theorem d_Mod_search_87 : decode prog_13_method_52_code 87 = .ok (.iload_n 3, 1) := am_row (r := (87, .iload_n 3, 1)) ro_Mod_search 48 rfl
theorem d_Mod_search_88 : decode prog_13_method_52_code 88 = .ok (.iload 4, 2) := am_row (r := (88, .iload 4, 2)) ro_Mod_search 49 rfl
theorem d_Mod_search_90 : decode prog_13_method_52_code 90 = .ok (.invokevirtual 174, 3) := am_row (r := (90, .invokevirtual 174, 3)) ro_Mod_search 50 rfl
theorem d_Mod_search_93 : decode prog_13_method_52_code 93 = .ok (.bastore, 1) := am_row (r := (93, .bastore, 1)) ro_Mod_search 51 rfl
theorem d_Mod_search_94 : decode prog_13_method_52_code 94 = .ok (.iinc 4 1, 3) := am_row (r := (94, .iinc 4 1, 3)) ro_Mod_search 52 rfl
theorem d_Mod_search_97 : decode prog_13_method_52_code 97 = .ok (.goto (-26), 3) := am_row (r := (97, .goto (-26), 3)) ro_Mod_search 53 rfl
theorem d_Mod_search_100 : decode prog_13_method_52_code 100 = .ok (.aload_n 0, 1) := am_row (r := (100, .aload_n 0, 1)) ro_Mod_search 54 rfl
theorem d_Mod_search_101 : decode prog_13_method_52_code 101 = .ok (.getfield 9, 3) := am_row (r := (101, .getfield 9, 3)) ro_Mod_search 55 rfl
theorem d_Mod_search_104 : decode prog_13_method_52_code 104 = .ok (.iconst 1, 1) := am_row (r := (104, .iconst 1, 1)) ro_Mod_search 56 rfl
theorem d_Mod_search_105 : decode prog_13_method_52_code 105 = .ok (.iconst 1, 1) := am_row (r := (105, .iconst 1, 1)) ro_Mod_search 57 rfl
theorem d_Mod_search_106 : decode prog_13_method_52_code 106 = .ok (.iastore, 1) := am_row (r := (106, .iastore, 1)) ro_Mod_search 58 rfl
theorem d_Mod_search_107 : decode prog_13_method_52_code 107 = .ok (.aload_n 0, 1) := am_row (r := (107, .aload_n 0, 1)) ro_Mod_search 59 rfl
theorem d_Mod_search_108 : decode prog_13_method_52_code 108 = .ok (.getfield 9, 3) := am_row (r := (108, .getfield 9, 3)) ro_Mod_search 60 rfl
theorem d_Mod_search_111 : decode prog_13_method_52_code 111 = .ok (.iconst 2, 1) := am_row (r := (111, .iconst 2, 1)) ro_Mod_search 61 rfl
theorem d_Mod_search_112 : decode prog_13_method_52_code 112 = .ok (.aload_n 0, 1) := am_row (r := (112, .aload_n 0, 1)) ro_Mod_search 62 rfl
theorem d_Mod_search_113 : decode prog_13_method_52_code 113 = .ok (.getfield 171, 3) := am_row (r := (113, .getfield 171, 3)) ro_Mod_search 63 rfl
theorem d_Mod_search_116 : decode prog_13_method_52_code 116 = .ok (.iastore, 1) := am_row (r := (116, .iastore, 1)) ro_Mod_search 64 rfl
theorem d_Mod_search_117 : decode prog_13_method_52_code 117 = .ok (.iconst 0, 1) := am_row (r := (117, .iconst 0, 1)) ro_Mod_search 65 rfl
theorem d_Mod_search_118 : decode prog_13_method_52_code 118 = .ok (.istore 4, 2) := am_row (r := (118, .istore 4, 2)) ro_Mod_search 66 rfl
theorem d_Mod_search_120 : decode prog_13_method_52_code 120 = .ok (.iload 4, 2) := am_row (r := (120, .iload 4, 2)) ro_Mod_search 67 rfl
theorem d_Mod_search_122 : decode prog_13_method_52_code 122 = .ok (.aload_n 0, 1) := am_row (r := (122, .aload_n 0, 1)) ro_Mod_search 68 rfl
theorem d_Mod_search_123 : decode prog_13_method_52_code 123 = .ok (.getfield 171, 3) := am_row (r := (123, .getfield 171, 3)) ro_Mod_search 69 rfl
theorem d_Mod_search_126 : decode prog_13_method_52_code 126 = .ok (.if_icmp .ge 36, 3) := am_row (r := (126, .if_icmp .ge 36, 3)) ro_Mod_search 70 rfl
theorem d_Mod_search_129 : decode prog_13_method_52_code 129 = .ok (.aload_n 0, 1) := am_row (r := (129, .aload_n 0, 1)) ro_Mod_search 71 rfl
theorem d_Mod_search_130 : decode prog_13_method_52_code 130 = .ok (.getfield 13, 3) := am_row (r := (130, .getfield 13, 3)) ro_Mod_search 72 rfl
theorem d_Mod_search_133 : decode prog_13_method_52_code 133 = .ok (.iload 4, 2) := am_row (r := (133, .iload 4, 2)) ro_Mod_search 73 rfl
theorem d_Mod_search_135 : decode prog_13_method_52_code 135 = .ok (.iconst 0, 1) := am_row (r := (135, .iconst 0, 1)) ro_Mod_search 74 rfl
theorem d_Mod_search_136 : decode prog_13_method_52_code 136 = .ok (.iastore, 1) := am_row (r := (136, .iastore, 1)) ro_Mod_search 75 rfl
theorem d_Mod_search_137 : decode prog_13_method_52_code 137 = .ok (.aload_n 0, 1) := am_row (r := (137, .aload_n 0, 1)) ro_Mod_search 76 rfl
theorem d_Mod_search_138 : decode prog_13_method_52_code 138 = .ok (.getfield 16, 3) := am_row (r := (138, .getfield 16, 3)) ro_Mod_search 77 rfl
theorem d_Mod_search_141 : decode prog_13_method_52_code 141 = .ok (.iload 4, 2) := am_row (r := (141, .iload 4, 2)) ro_Mod_search 78 rfl
theorem d_Mod_search_143 : decode prog_13_method_52_code 143 = .ok (.iload 4, 2) := am_row (r := (143, .iload 4, 2)) ro_Mod_search 79 rfl
theorem d_Mod_search_145 : decode prog_13_method_52_code 145 = .ok (.aload_n 0, 1) := am_row (r := (145, .aload_n 0, 1)) ro_Mod_search 80 rfl
theorem d_Mod_search_146 : decode prog_13_method_52_code 146 = .ok (.getfield 168, 3) := am_row (r := (146, .getfield 168, 3)) ro_Mod_search 81 rfl
theorem d_Mod_search_149 : decode prog_13_method_52_code 149 = .ok (.aload_n 0, 1) := am_row (r := (149, .aload_n 0, 1)) ro_Mod_search 82 rfl
theorem d_Mod_search_150 : decode prog_13_method_52_code 150 = .ok (.getfield 171, 3) := am_row (r := (150, .getfield 171, 3)) ro_Mod_search 83 rfl
theorem d_Mod_search_153 : decode prog_13_method_52_code 153 = .ok (.idiv, 1) := am_row (r := (153, .idiv, 1)) ro_Mod_search 84 rfl
theorem d_Mod_search_154 : decode prog_13_method_52_code 154 = .ok (.imul, 1) := am_row (r := (154, .imul, 1)) ro_Mod_search 85 rfl
theorem d_Mod_search_155 : decode prog_13_method_52_code 155 = .ok (.iastore, 1) := am_row (r := (155, .iastore, 1)) ro_Mod_search 86 rfl
theorem d_Mod_search_156 : decode prog_13_method_52_code 156 = .ok (.iinc 4 1, 3) := am_row (r := (156, .iinc 4 1, 3)) ro_Mod_search 87 rfl
theorem d_Mod_search_159 : decode prog_13_method_52_code 159 = .ok (.goto (-39), 3) := am_row (r := (159, .goto (-39), 3)) ro_Mod_search 88 rfl
theorem d_Mod_search_162 : decode prog_13_method_52_code 162 = .ok (.iconst 1, 1) := am_row (r := (162, .iconst 1, 1)) ro_Mod_search 89 rfl
theorem d_Mod_search_163 : decode prog_13_method_52_code 163 = .ok (.ireturn, 1) := am_row (r := (163, .ireturn, 1)) ro_Mod_search 90 rfl
theorem d_Mod_search_164 : decode prog_13_method_52_code 164 = .ok (.iinc 2 1, 3) := am_row (r := (164, .iinc 2 1, 3)) ro_Mod_search 91 rfl
theorem d_Mod_search_167 : decode prog_13_method_52_code 167 = .ok (.goto (-155), 3) := am_row (r := (167, .goto (-155), 3)) ro_Mod_search 92 rfl
theorem d_Mod_search_170 : decode prog_13_method_52_code 170 = .ok (.aload_n 0, 1) := am_row (r := (170, .aload_n 0, 1)) ro_Mod_search 93 rfl
theorem d_Mod_search_171 : decode prog_13_method_52_code 171 = .ok (.getfield 184, 3) := am_row (r := (171, .getfield 184, 3)) ro_Mod_search 94 rfl
theorem d_Mod_search_174 : decode prog_13_method_52_code 174 = .ok (.iconst 1, 1) := am_row (r := (174, .iconst 1, 1)) ro_Mod_search 95 rfl
theorem d_Mod_search_175 : decode prog_13_method_52_code 175 = .ok (.aload_n 0, 1) := am_row (r := (175, .aload_n 0, 1)) ro_Mod_search 96 rfl
theorem d_Mod_search_176 : decode prog_13_method_52_code 176 = .ok (.getfield 168, 3) := am_row (r := (176, .getfield 168, 3)) ro_Mod_search 97 rfl
theorem d_Mod_search_179 : decode prog_13_method_52_code 179 = .ok (.ishl, 1) := am_row (r := (179, .ishl, 1)) ro_Mod_search 98 rfl
theorem d_Mod_search_180 : decode prog_13_method_52_code 180 = .ok (.if_icmp .ge 6, 3) := am_row (r := (180, .if_icmp .ge 6, 3)) ro_Mod_search 99 rfl
theorem d_Mod_search_183 : decode prog_13_method_52_code 183 = .ok (.bipush (-2), 2) := am_row (r := (183, .bipush (-2), 2)) ro_Mod_search 100 rfl
theorem d_Mod_search_185 : decode prog_13_method_52_code 185 = .ok (.ireturn, 1) := am_row (r := (185, .ireturn, 1)) ro_Mod_search 101 rfl
theorem d_Mod_search_186 : decode prog_13_method_52_code 186 = .ok (.aload_n 0, 1) := am_row (r := (186, .aload_n 0, 1)) ro_Mod_search 102 rfl
theorem d_Mod_search_187 : decode prog_13_method_52_code 187 = .ok (.iconst 0, 1) := am_row (r := (187, .iconst 0, 1)) ro_Mod_search 103 rfl
theorem d_Mod_search_188 : decode prog_13_method_52_code 188 = .ok (.putfield 168, 3) := am_row (r := (188, .putfield 168, 3)) ro_Mod_search 104 rfl
theorem d_Mod_search_191 : decode prog_13_method_52_code 191 = .ok (.iconst 0, 1) := am_row (r := (191, .iconst 0, 1)) ro_Mod_search 105 rfl
theorem d_Mod_search_192 : decode prog_13_method_52_code 192 = .ok (.ireturn, 1) := am_row (r := (192, .ireturn, 1)) ro_Mod_search 106 rfl
abbrev y_Mod_single : MethodName := ⟨"WheelDiscModel", "single", "(III)I"⟩
theorem c_Mod_single : Cond.code y_Mod_single prog_13_method_53_code 4 (some .int) ∈ am_T := am_mem 1224 (by decide +kernel) rfl
def rw_Mod_single : List (Nat × Instr × Nat) := [(0, .aload_n 0, 1), (1, .iconst 0, 1), (2, .putfield 62, 3), (5, .iload_n 1, 1), (6, .iconst 2, 1), (7, .if_icmp .lt 35, 3), (10, .iload_n 1, 1), (11, .bipush 20, 2), (13, .if_icmp .gt 29, 3), (16, .iload_n 2, 1), (17, .iconst 2, 1), (18, .if_icmp .lt 24, 3), (21, .iload_n 2, 1), (22, .iconst 5, 1), (23, .if_icmp .gt 19, 3), (26, .iload_n 1, 1), (27, .iload_n 2, 1), (28, .irem, 1), (29, .ifCond .ne 13, 3), (32, .iload_n 3, 1), (33, .ifCond .lt 9, 3), (36, .iload_n 3, 1), (37, .ldc 190, 2), (39, .if_icmp .le 9, 3), (42, .aload_n 0, 1), (43, .iconst 1, 1), (44, .invokevirtual 75, 3), (47, .ireturn, 1), (48, .aload_n 0, 1), (49, .getfield 181, 3), (52, .iload_n 3, 1), (53, .iadd, 1), (54, .ldc 191, 2), (56, .if_icmp .le 9, 3), (59, .aload_n 0, 1), (60, .iconst 4, 1), (61, .invokevirtual 75, 3), (64, .ireturn, 1), (65, .aload_n 0, 1), (66, .iload_n 1, 1), (67, .putfield 168, 3), (70, .aload_n 0, 1), (71, .iload_n 2, 1), (72, .putfield 171, 3), (75, .aload_n 0, 1), (76, .iconst 0, 1), (77, .putfield 184, 3), (80, .aload_n 0, 1), (81, .iload_n 3, 1), (82, .invokevirtual 192, 3), (85, .ireturn, 1)]
theorem ro_Mod_single : rw_Mod_single.all (fun r => decide (decode prog_13_method_53_code r.1 = .ok r.2)) = true := by decide +kernel
theorem d_Mod_single_0 : decode prog_13_method_53_code 0 = .ok (.aload_n 0, 1) := am_row (r := (0, .aload_n 0, 1)) ro_Mod_single 0 rfl
theorem d_Mod_single_1 : decode prog_13_method_53_code 1 = .ok (.iconst 0, 1) := am_row (r := (1, .iconst 0, 1)) ro_Mod_single 1 rfl
theorem d_Mod_single_2 : decode prog_13_method_53_code 2 = .ok (.putfield 62, 3) := am_row (r := (2, .putfield 62, 3)) ro_Mod_single 2 rfl
theorem d_Mod_single_5 : decode prog_13_method_53_code 5 = .ok (.iload_n 1, 1) := am_row (r := (5, .iload_n 1, 1)) ro_Mod_single 3 rfl
theorem d_Mod_single_6 : decode prog_13_method_53_code 6 = .ok (.iconst 2, 1) := am_row (r := (6, .iconst 2, 1)) ro_Mod_single 4 rfl
theorem d_Mod_single_7 : decode prog_13_method_53_code 7 = .ok (.if_icmp .lt 35, 3) := am_row (r := (7, .if_icmp .lt 35, 3)) ro_Mod_single 5 rfl
theorem d_Mod_single_10 : decode prog_13_method_53_code 10 = .ok (.iload_n 1, 1) := am_row (r := (10, .iload_n 1, 1)) ro_Mod_single 6 rfl
theorem d_Mod_single_11 : decode prog_13_method_53_code 11 = .ok (.bipush 20, 2) := am_row (r := (11, .bipush 20, 2)) ro_Mod_single 7 rfl
theorem d_Mod_single_13 : decode prog_13_method_53_code 13 = .ok (.if_icmp .gt 29, 3) := am_row (r := (13, .if_icmp .gt 29, 3)) ro_Mod_single 8 rfl
theorem d_Mod_single_16 : decode prog_13_method_53_code 16 = .ok (.iload_n 2, 1) := am_row (r := (16, .iload_n 2, 1)) ro_Mod_single 9 rfl
theorem d_Mod_single_17 : decode prog_13_method_53_code 17 = .ok (.iconst 2, 1) := am_row (r := (17, .iconst 2, 1)) ro_Mod_single 10 rfl
theorem d_Mod_single_18 : decode prog_13_method_53_code 18 = .ok (.if_icmp .lt 24, 3) := am_row (r := (18, .if_icmp .lt 24, 3)) ro_Mod_single 11 rfl
theorem d_Mod_single_21 : decode prog_13_method_53_code 21 = .ok (.iload_n 2, 1) := am_row (r := (21, .iload_n 2, 1)) ro_Mod_single 12 rfl
theorem d_Mod_single_22 : decode prog_13_method_53_code 22 = .ok (.iconst 5, 1) := am_row (r := (22, .iconst 5, 1)) ro_Mod_single 13 rfl
theorem d_Mod_single_23 : decode prog_13_method_53_code 23 = .ok (.if_icmp .gt 19, 3) := am_row (r := (23, .if_icmp .gt 19, 3)) ro_Mod_single 14 rfl
theorem d_Mod_single_26 : decode prog_13_method_53_code 26 = .ok (.iload_n 1, 1) := am_row (r := (26, .iload_n 1, 1)) ro_Mod_single 15 rfl
theorem d_Mod_single_27 : decode prog_13_method_53_code 27 = .ok (.iload_n 2, 1) := am_row (r := (27, .iload_n 2, 1)) ro_Mod_single 16 rfl
theorem d_Mod_single_28 : decode prog_13_method_53_code 28 = .ok (.irem, 1) := am_row (r := (28, .irem, 1)) ro_Mod_single 17 rfl
theorem d_Mod_single_29 : decode prog_13_method_53_code 29 = .ok (.ifCond .ne 13, 3) := am_row (r := (29, .ifCond .ne 13, 3)) ro_Mod_single 18 rfl
theorem d_Mod_single_32 : decode prog_13_method_53_code 32 = .ok (.iload_n 3, 1) := am_row (r := (32, .iload_n 3, 1)) ro_Mod_single 19 rfl
theorem d_Mod_single_33 : decode prog_13_method_53_code 33 = .ok (.ifCond .lt 9, 3) := am_row (r := (33, .ifCond .lt 9, 3)) ro_Mod_single 20 rfl
theorem d_Mod_single_36 : decode prog_13_method_53_code 36 = .ok (.iload_n 3, 1) := am_row (r := (36, .iload_n 3, 1)) ro_Mod_single 21 rfl
theorem d_Mod_single_37 : decode prog_13_method_53_code 37 = .ok (.ldc 190, 2) := am_row (r := (37, .ldc 190, 2)) ro_Mod_single 22 rfl
theorem d_Mod_single_39 : decode prog_13_method_53_code 39 = .ok (.if_icmp .le 9, 3) := am_row (r := (39, .if_icmp .le 9, 3)) ro_Mod_single 23 rfl
theorem d_Mod_single_42 : decode prog_13_method_53_code 42 = .ok (.aload_n 0, 1) := am_row (r := (42, .aload_n 0, 1)) ro_Mod_single 24 rfl
theorem d_Mod_single_43 : decode prog_13_method_53_code 43 = .ok (.iconst 1, 1) := am_row (r := (43, .iconst 1, 1)) ro_Mod_single 25 rfl
theorem d_Mod_single_44 : decode prog_13_method_53_code 44 = .ok (.invokevirtual 75, 3) := am_row (r := (44, .invokevirtual 75, 3)) ro_Mod_single 26 rfl
theorem d_Mod_single_47 : decode prog_13_method_53_code 47 = .ok (.ireturn, 1) := am_row (r := (47, .ireturn, 1)) ro_Mod_single 27 rfl
theorem d_Mod_single_48 : decode prog_13_method_53_code 48 = .ok (.aload_n 0, 1) := am_row (r := (48, .aload_n 0, 1)) ro_Mod_single 28 rfl
theorem d_Mod_single_49 : decode prog_13_method_53_code 49 = .ok (.getfield 181, 3) := am_row (r := (49, .getfield 181, 3)) ro_Mod_single 29 rfl
theorem d_Mod_single_52 : decode prog_13_method_53_code 52 = .ok (.iload_n 3, 1) := am_row (r := (52, .iload_n 3, 1)) ro_Mod_single 30 rfl
theorem d_Mod_single_53 : decode prog_13_method_53_code 53 = .ok (.iadd, 1) := am_row (r := (53, .iadd, 1)) ro_Mod_single 31 rfl
theorem d_Mod_single_54 : decode prog_13_method_53_code 54 = .ok (.ldc 191, 2) := am_row (r := (54, .ldc 191, 2)) ro_Mod_single 32 rfl
theorem d_Mod_single_56 : decode prog_13_method_53_code 56 = .ok (.if_icmp .le 9, 3) := am_row (r := (56, .if_icmp .le 9, 3)) ro_Mod_single 33 rfl
theorem d_Mod_single_59 : decode prog_13_method_53_code 59 = .ok (.aload_n 0, 1) := am_row (r := (59, .aload_n 0, 1)) ro_Mod_single 34 rfl
theorem d_Mod_single_60 : decode prog_13_method_53_code 60 = .ok (.iconst 4, 1) := am_row (r := (60, .iconst 4, 1)) ro_Mod_single 35 rfl
theorem d_Mod_single_61 : decode prog_13_method_53_code 61 = .ok (.invokevirtual 75, 3) := am_row (r := (61, .invokevirtual 75, 3)) ro_Mod_single 36 rfl
theorem d_Mod_single_64 : decode prog_13_method_53_code 64 = .ok (.ireturn, 1) := am_row (r := (64, .ireturn, 1)) ro_Mod_single 37 rfl
theorem d_Mod_single_65 : decode prog_13_method_53_code 65 = .ok (.aload_n 0, 1) := am_row (r := (65, .aload_n 0, 1)) ro_Mod_single 38 rfl
theorem d_Mod_single_66 : decode prog_13_method_53_code 66 = .ok (.iload_n 1, 1) := am_row (r := (66, .iload_n 1, 1)) ro_Mod_single 39 rfl
theorem d_Mod_single_67 : decode prog_13_method_53_code 67 = .ok (.putfield 168, 3) := am_row (r := (67, .putfield 168, 3)) ro_Mod_single 40 rfl
theorem d_Mod_single_70 : decode prog_13_method_53_code 70 = .ok (.aload_n 0, 1) := am_row (r := (70, .aload_n 0, 1)) ro_Mod_single 41 rfl
theorem d_Mod_single_71 : decode prog_13_method_53_code 71 = .ok (.iload_n 2, 1) := am_row (r := (71, .iload_n 2, 1)) ro_Mod_single 42 rfl
theorem d_Mod_single_72 : decode prog_13_method_53_code 72 = .ok (.putfield 171, 3) := am_row (r := (72, .putfield 171, 3)) ro_Mod_single 43 rfl
theorem d_Mod_single_75 : decode prog_13_method_53_code 75 = .ok (.aload_n 0, 1) := am_row (r := (75, .aload_n 0, 1)) ro_Mod_single 44 rfl
theorem d_Mod_single_76 : decode prog_13_method_53_code 76 = .ok (.iconst 0, 1) := am_row (r := (76, .iconst 0, 1)) ro_Mod_single 45 rfl
theorem d_Mod_single_77 : decode prog_13_method_53_code 77 = .ok (.putfield 184, 3) := am_row (r := (77, .putfield 184, 3)) ro_Mod_single 46 rfl
theorem d_Mod_single_80 : decode prog_13_method_53_code 80 = .ok (.aload_n 0, 1) := am_row (r := (80, .aload_n 0, 1)) ro_Mod_single 47 rfl
theorem d_Mod_single_81 : decode prog_13_method_53_code 81 = .ok (.iload_n 3, 1) := am_row (r := (81, .iload_n 3, 1)) ro_Mod_single 48 rfl
theorem d_Mod_single_82 : decode prog_13_method_53_code 82 = .ok (.invokevirtual 192, 3) := am_row (r := (82, .invokevirtual 192, 3)) ro_Mod_single 49 rfl
theorem d_Mod_single_85 : decode prog_13_method_53_code 85 = .ok (.ireturn, 1) := am_row (r := (85, .ireturn, 1)) ro_Mod_single 50 rfl
abbrev y_Mod_go : MethodName := ⟨"WheelDiscModel", "go", "(I)I"⟩
theorem c_Mod_go : Cond.code y_Mod_go prog_13_method_54_code 2 (some .int) ∈ am_T := am_mem 1246 (by decide +kernel) rfl
def rw_Mod_go : List (Nat × Instr × Nat) := [(0, .aload_n 0, 1), (1, .iconst 0, 1), (2, .putfield 62, 3), (5, .iload_n 1, 1), (6, .ifCond .lt 9, 3), (9, .iload_n 1, 1), (10, .ldc 190, 2), (12, .if_icmp .le 9, 3), (15, .aload_n 0, 1), (16, .iconst 1, 1), (17, .invokevirtual 75, 3), (20, .ireturn, 1), (21, .aload_n 0, 1), (22, .getfield 168, 3), (25, .ifCond .ne 9, 3), (28, .aload_n 0, 1), (29, .iconst 2, 1), (30, .invokevirtual 75, 3), (33, .ireturn, 1), (34, .aload_n 0, 1), (35, .getfield 181, 3), (38, .iload_n 1, 1), (39, .iadd, 1), (40, .ldc 191, 2), (42, .if_icmp .le 9, 3), (45, .aload_n 0, 1), (46, .iconst 4, 1), (47, .invokevirtual 75, 3), (50, .ireturn, 1), (51, .aload_n 0, 1), (52, .iload_n 1, 1), (53, .invokevirtual 192, 3), (56, .ireturn, 1)]
theorem ro_Mod_go : rw_Mod_go.all (fun r => decide (decode prog_13_method_54_code r.1 = .ok r.2)) = true := by decide +kernel
theorem d_Mod_go_0 : decode prog_13_method_54_code 0 = .ok (.aload_n 0, 1) := am_row (r := (0, .aload_n 0, 1)) ro_Mod_go 0 rfl
theorem d_Mod_go_1 : decode prog_13_method_54_code 1 = .ok (.iconst 0, 1) := am_row (r := (1, .iconst 0, 1)) ro_Mod_go 1 rfl
theorem d_Mod_go_2 : decode prog_13_method_54_code 2 = .ok (.putfield 62, 3) := am_row (r := (2, .putfield 62, 3)) ro_Mod_go 2 rfl
theorem d_Mod_go_5 : decode prog_13_method_54_code 5 = .ok (.iload_n 1, 1) := am_row (r := (5, .iload_n 1, 1)) ro_Mod_go 3 rfl
theorem d_Mod_go_6 : decode prog_13_method_54_code 6 = .ok (.ifCond .lt 9, 3) := am_row (r := (6, .ifCond .lt 9, 3)) ro_Mod_go 4 rfl
theorem d_Mod_go_9 : decode prog_13_method_54_code 9 = .ok (.iload_n 1, 1) := am_row (r := (9, .iload_n 1, 1)) ro_Mod_go 5 rfl
theorem d_Mod_go_10 : decode prog_13_method_54_code 10 = .ok (.ldc 190, 2) := am_row (r := (10, .ldc 190, 2)) ro_Mod_go 6 rfl
theorem d_Mod_go_12 : decode prog_13_method_54_code 12 = .ok (.if_icmp .le 9, 3) := am_row (r := (12, .if_icmp .le 9, 3)) ro_Mod_go 7 rfl
theorem d_Mod_go_15 : decode prog_13_method_54_code 15 = .ok (.aload_n 0, 1) := am_row (r := (15, .aload_n 0, 1)) ro_Mod_go 8 rfl
theorem d_Mod_go_16 : decode prog_13_method_54_code 16 = .ok (.iconst 1, 1) := am_row (r := (16, .iconst 1, 1)) ro_Mod_go 9 rfl
theorem d_Mod_go_17 : decode prog_13_method_54_code 17 = .ok (.invokevirtual 75, 3) := am_row (r := (17, .invokevirtual 75, 3)) ro_Mod_go 10 rfl
theorem d_Mod_go_20 : decode prog_13_method_54_code 20 = .ok (.ireturn, 1) := am_row (r := (20, .ireturn, 1)) ro_Mod_go 11 rfl
theorem d_Mod_go_21 : decode prog_13_method_54_code 21 = .ok (.aload_n 0, 1) := am_row (r := (21, .aload_n 0, 1)) ro_Mod_go 12 rfl
theorem d_Mod_go_22 : decode prog_13_method_54_code 22 = .ok (.getfield 168, 3) := am_row (r := (22, .getfield 168, 3)) ro_Mod_go 13 rfl
theorem d_Mod_go_25 : decode prog_13_method_54_code 25 = .ok (.ifCond .ne 9, 3) := am_row (r := (25, .ifCond .ne 9, 3)) ro_Mod_go 14 rfl
theorem d_Mod_go_28 : decode prog_13_method_54_code 28 = .ok (.aload_n 0, 1) := am_row (r := (28, .aload_n 0, 1)) ro_Mod_go 15 rfl
theorem d_Mod_go_29 : decode prog_13_method_54_code 29 = .ok (.iconst 2, 1) := am_row (r := (29, .iconst 2, 1)) ro_Mod_go 16 rfl
theorem d_Mod_go_30 : decode prog_13_method_54_code 30 = .ok (.invokevirtual 75, 3) := am_row (r := (30, .invokevirtual 75, 3)) ro_Mod_go 17 rfl
theorem d_Mod_go_33 : decode prog_13_method_54_code 33 = .ok (.ireturn, 1) := am_row (r := (33, .ireturn, 1)) ro_Mod_go 18 rfl
theorem d_Mod_go_34 : decode prog_13_method_54_code 34 = .ok (.aload_n 0, 1) := am_row (r := (34, .aload_n 0, 1)) ro_Mod_go 19 rfl
theorem d_Mod_go_35 : decode prog_13_method_54_code 35 = .ok (.getfield 181, 3) := am_row (r := (35, .getfield 181, 3)) ro_Mod_go 20 rfl
theorem d_Mod_go_38 : decode prog_13_method_54_code 38 = .ok (.iload_n 1, 1) := am_row (r := (38, .iload_n 1, 1)) ro_Mod_go 21 rfl
theorem d_Mod_go_39 : decode prog_13_method_54_code 39 = .ok (.iadd, 1) := am_row (r := (39, .iadd, 1)) ro_Mod_go 22 rfl
theorem d_Mod_go_40 : decode prog_13_method_54_code 40 = .ok (.ldc 191, 2) := am_row (r := (40, .ldc 191, 2)) ro_Mod_go 23 rfl
theorem d_Mod_go_42 : decode prog_13_method_54_code 42 = .ok (.if_icmp .le 9, 3) := am_row (r := (42, .if_icmp .le 9, 3)) ro_Mod_go 24 rfl
theorem d_Mod_go_45 : decode prog_13_method_54_code 45 = .ok (.aload_n 0, 1) := am_row (r := (45, .aload_n 0, 1)) ro_Mod_go 25 rfl
theorem d_Mod_go_46 : decode prog_13_method_54_code 46 = .ok (.iconst 4, 1) := am_row (r := (46, .iconst 4, 1)) ro_Mod_go 26 rfl
theorem d_Mod_go_47 : decode prog_13_method_54_code 47 = .ok (.invokevirtual 75, 3) := am_row (r := (47, .invokevirtual 75, 3)) ro_Mod_go 27 rfl
theorem d_Mod_go_50 : decode prog_13_method_54_code 50 = .ok (.ireturn, 1) := am_row (r := (50, .ireturn, 1)) ro_Mod_go 28 rfl
theorem d_Mod_go_51 : decode prog_13_method_54_code 51 = .ok (.aload_n 0, 1) := am_row (r := (51, .aload_n 0, 1)) ro_Mod_go 29 rfl
theorem d_Mod_go_52 : decode prog_13_method_54_code 52 = .ok (.iload_n 1, 1) := am_row (r := (52, .iload_n 1, 1)) ro_Mod_go 30 rfl
theorem d_Mod_go_53 : decode prog_13_method_54_code 53 = .ok (.invokevirtual 192, 3) := am_row (r := (53, .invokevirtual 192, 3)) ro_Mod_go 31 rfl
theorem d_Mod_go_56 : decode prog_13_method_54_code 56 = .ok (.ireturn, 1) := am_row (r := (56, .ireturn, 1)) ro_Mod_go 32 rfl
abbrev y_Mod_drive : MethodName := ⟨"WheelDiscModel", "drive", "(I)I"⟩
theorem c_Mod_drive : Cond.code y_Mod_drive prog_13_method_55_code 2 (some .int) ∈ am_T := am_mem 1250 (by decide +kernel) rfl
def rw_Mod_drive : List (Nat × Instr × Nat) := [(0, .aload_n 0, 1), (1, .iconst 0, 1), (2, .putfield 62, 3), (5, .aload_n 0, 1), (6, .getfield 127, 3), (9, .sipush 2000, 3), (12, .if_icmp .ne 9, 3), (15, .aload_n 0, 1), (16, .iconst 4, 1), (17, .invokevirtual 75, 3), (20, .ireturn, 1), (21, .aload_n 0, 1), (22, .getfield 32, 3), (25, .aload_n 0, 1), (26, .getfield 127, 3), (29, .iload_n 1, 1), (30, .iastore, 1), (31, .aload_n 0, 1), (32, .dup, 1), (33, .getfield 127, 3), (36, .iconst 1, 1), (37, .iadd, 1), (38, .putfield 127, 3), (41, .aload_n 0, 1), (42, .getfield 127, 3), (45, .ireturn, 1)]
theorem ro_Mod_drive : rw_Mod_drive.all (fun r => decide (decode prog_13_method_55_code r.1 = .ok r.2)) = true := by decide +kernel
theorem d_Mod_drive_0 : decode prog_13_method_55_code 0 = .ok (.aload_n 0, 1) := am_row (r := (0, .aload_n 0, 1)) ro_Mod_drive 0 rfl
theorem d_Mod_drive_1 : decode prog_13_method_55_code 1 = .ok (.iconst 0, 1) := am_row (r := (1, .iconst 0, 1)) ro_Mod_drive 1 rfl
theorem d_Mod_drive_2 : decode prog_13_method_55_code 2 = .ok (.putfield 62, 3) := am_row (r := (2, .putfield 62, 3)) ro_Mod_drive 2 rfl
theorem d_Mod_drive_5 : decode prog_13_method_55_code 5 = .ok (.aload_n 0, 1) := am_row (r := (5, .aload_n 0, 1)) ro_Mod_drive 3 rfl
theorem d_Mod_drive_6 : decode prog_13_method_55_code 6 = .ok (.getfield 127, 3) := am_row (r := (6, .getfield 127, 3)) ro_Mod_drive 4 rfl
theorem d_Mod_drive_9 : decode prog_13_method_55_code 9 = .ok (.sipush 2000, 3) := am_row (r := (9, .sipush 2000, 3)) ro_Mod_drive 5 rfl
theorem d_Mod_drive_12 : decode prog_13_method_55_code 12 = .ok (.if_icmp .ne 9, 3) := am_row (r := (12, .if_icmp .ne 9, 3)) ro_Mod_drive 6 rfl
theorem d_Mod_drive_15 : decode prog_13_method_55_code 15 = .ok (.aload_n 0, 1) := am_row (r := (15, .aload_n 0, 1)) ro_Mod_drive 7 rfl
theorem d_Mod_drive_16 : decode prog_13_method_55_code 16 = .ok (.iconst 4, 1) := am_row (r := (16, .iconst 4, 1)) ro_Mod_drive 8 rfl
theorem d_Mod_drive_17 : decode prog_13_method_55_code 17 = .ok (.invokevirtual 75, 3) := am_row (r := (17, .invokevirtual 75, 3)) ro_Mod_drive 9 rfl
theorem d_Mod_drive_20 : decode prog_13_method_55_code 20 = .ok (.ireturn, 1) := am_row (r := (20, .ireturn, 1)) ro_Mod_drive 10 rfl
theorem d_Mod_drive_21 : decode prog_13_method_55_code 21 = .ok (.aload_n 0, 1) := am_row (r := (21, .aload_n 0, 1)) ro_Mod_drive 11 rfl
theorem d_Mod_drive_22 : decode prog_13_method_55_code 22 = .ok (.getfield 32, 3) := am_row (r := (22, .getfield 32, 3)) ro_Mod_drive 12 rfl
theorem d_Mod_drive_25 : decode prog_13_method_55_code 25 = .ok (.aload_n 0, 1) := am_row (r := (25, .aload_n 0, 1)) ro_Mod_drive 13 rfl
theorem d_Mod_drive_26 : decode prog_13_method_55_code 26 = .ok (.getfield 127, 3) := am_row (r := (26, .getfield 127, 3)) ro_Mod_drive 14 rfl
theorem d_Mod_drive_29 : decode prog_13_method_55_code 29 = .ok (.iload_n 1, 1) := am_row (r := (29, .iload_n 1, 1)) ro_Mod_drive 15 rfl
theorem d_Mod_drive_30 : decode prog_13_method_55_code 30 = .ok (.iastore, 1) := am_row (r := (30, .iastore, 1)) ro_Mod_drive 16 rfl
theorem d_Mod_drive_31 : decode prog_13_method_55_code 31 = .ok (.aload_n 0, 1) := am_row (r := (31, .aload_n 0, 1)) ro_Mod_drive 17 rfl
theorem d_Mod_drive_32 : decode prog_13_method_55_code 32 = .ok (.dup, 1) := am_row (r := (32, .dup, 1)) ro_Mod_drive 18 rfl
theorem d_Mod_drive_33 : decode prog_13_method_55_code 33 = .ok (.getfield 127, 3) := am_row (r := (33, .getfield 127, 3)) ro_Mod_drive 19 rfl
theorem d_Mod_drive_36 : decode prog_13_method_55_code 36 = .ok (.iconst 1, 1) := am_row (r := (36, .iconst 1, 1)) ro_Mod_drive 20 rfl
theorem d_Mod_drive_37 : decode prog_13_method_55_code 37 = .ok (.iadd, 1) := am_row (r := (37, .iadd, 1)) ro_Mod_drive 21 rfl
theorem d_Mod_drive_38 : decode prog_13_method_55_code 38 = .ok (.putfield 127, 3) := am_row (r := (38, .putfield 127, 3)) ro_Mod_drive 22 rfl
theorem d_Mod_drive_41 : decode prog_13_method_55_code 41 = .ok (.aload_n 0, 1) := am_row (r := (41, .aload_n 0, 1)) ro_Mod_drive 23 rfl
theorem d_Mod_drive_42 : decode prog_13_method_55_code 42 = .ok (.getfield 127, 3) := am_row (r := (42, .getfield 127, 3)) ro_Mod_drive 24 rfl
theorem d_Mod_drive_45 : decode prog_13_method_55_code 45 = .ok (.ireturn, 1) := am_row (r := (45, .ireturn, 1)) ro_Mod_drive 25 rfl
