abbrev y_Mod_halt : MethodName := ⟨"WheelDiscModel", "halt", "()I"⟩
theorem c_Mod_halt : Cond.code y_Mod_halt prog_13_method_56_code 2 (some .int) ∈ am_T := am_mem 1254 (by decide +kernel) rfl
def rw_Mod_halt : List (Nat × Instr × Nat) := [(0, .aload_n 0, 1), (1, .iconst 0, 1), (2, .putfield 62, 3), (5, .aload_n 0, 1), (6, .getfield 127, 3), (9, .istore_n 1, 1), (10, .aload_n 0, 1), (11, .iconst 0, 1), (12, .putfield 127, 3), (15, .iload_n 1, 1), (16, .ireturn, 1)]
theorem ro_Mod_halt : rw_Mod_halt.all (fun r => decide (decode prog_13_method_56_code r.1 = .ok r.2)) = true := by decide +kernel
theorem d_Mod_halt_0 : decode prog_13_method_56_code 0 = .ok (.aload_n 0, 1) := am_row (r := (0, .aload_n 0, 1)) ro_Mod_halt 0 rfl
theorem d_Mod_halt_1 : decode prog_13_method_56_code 1 = .ok (.iconst 0, 1) := am_row (r := (1, .iconst 0, 1)) ro_Mod_halt 1 rfl
theorem d_Mod_halt_2 : decode prog_13_method_56_code 2 = .ok (.putfield 62, 3) := am_row (r := (2, .putfield 62, 3)) ro_Mod_halt 2 rfl
theorem d_Mod_halt_5 : decode prog_13_method_56_code 5 = .ok (.aload_n 0, 1) := am_row (r := (5, .aload_n 0, 1)) ro_Mod_halt 3 rfl
theorem d_Mod_halt_6 : decode prog_13_method_56_code 6 = .ok (.getfield 127, 3) := am_row (r := (6, .getfield 127, 3)) ro_Mod_halt 4 rfl
theorem d_Mod_halt_9 : decode prog_13_method_56_code 9 = .ok (.istore_n 1, 1) := am_row (r := (9, .istore_n 1, 1)) ro_Mod_halt 5 rfl
theorem d_Mod_halt_10 : decode prog_13_method_56_code 10 = .ok (.aload_n 0, 1) := am_row (r := (10, .aload_n 0, 1)) ro_Mod_halt 6 rfl
theorem d_Mod_halt_11 : decode prog_13_method_56_code 11 = .ok (.iconst 0, 1) := am_row (r := (11, .iconst 0, 1)) ro_Mod_halt 7 rfl
theorem d_Mod_halt_12 : decode prog_13_method_56_code 12 = .ok (.putfield 127, 3) := am_row (r := (12, .putfield 127, 3)) ro_Mod_halt 8 rfl
theorem d_Mod_halt_15 : decode prog_13_method_56_code 15 = .ok (.iload_n 1, 1) := am_row (r := (15, .iload_n 1, 1)) ro_Mod_halt 9 rfl
theorem d_Mod_halt_16 : decode prog_13_method_56_code 16 = .ok (.ireturn, 1) := am_row (r := (16, .ireturn, 1)) ro_Mod_halt 10 rfl
abbrev y_Mod_follow : MethodName := ⟨"WheelDiscModel", "follow", "(I)I"⟩
theorem c_Mod_follow : Cond.code y_Mod_follow prog_13_method_57_code 6 (some .int) ∈ am_T := am_mem 1262 (by decide +kernel) rfl
def rw_Mod_follow : List (Nat × Instr × Nat) := [(0, .aload_n 0, 1), (1, .invokevirtual 109, 3), (4, .aload_n 0, 1), (5, .iconst (-1), 1), (6, .putfield 195, 3), (9, .iconst 0, 1), (10, .istore_n 2, 1), (11, .iconst 0, 1), (12, .istore_n 3, 1), (13, .iload_n 3, 1), (14, .iload_n 1, 1), (15, .if_icmp .gt 189, 3), (18, .iconst 0, 1), (19, .istore_n 2, 1), (20, .iconst 0, 1), (21, .istore 4, 2), (23, .iload 4, 2), (25, .aload_n 0, 1), (26, .invokevirtual 93, 3), (29, .if_icmp .ge 120, 3), (32, .iload_n 3, 1), (33, .ifCond .eq 52, 3), (36, .aload_n 0, 1), (37, .getfield 50, 3), (40, .iload 4, 2), (42, .baload, 1), (43, .ifCond .ne 42, 3), (46, .aload_n 0, 1), (47, .getfield 50, 3), (50, .iload 4, 2), (52, .iconst 1, 1), (53, .iadd, 1), (54, .aload_n 0, 1), (55, .invokevirtual 93, 3), (58, .irem, 1), (59, .baload, 1), (60, .ifCond .ne 25, 3), (63, .aload_n 0, 1), (64, .getfield 50, 3), (67, .iload 4, 2), (69, .aload_n 0, 1), (70, .invokevirtual 93, 3), (73, .iadd, 1), (74, .iconst 1, 1), (75, .isub, 1), (76, .aload_n 0, 1), (77, .invokevirtual 93, 3), (80, .irem, 1), (81, .baload, 1), (82, .ifCond .eq 7, 3), (85, .iconst 1, 1), (86, .goto 4, 3), (89, .iconst 0, 1), (90, .istore 5, 2), (92, .aload_n 0, 1), (93, .getfield 53, 3), (96, .iload 4, 2), (98, .iload 5, 2), (100, .ifCond .eq 23, 3), (103, .aload_n 0, 1), (104, .getfield 38, 3), (107, .iload 4, 2), (109, .iaload, 1), (110, .aload_n 0, 1), (111, .getfield 32, 3), (114, .iload_n 3, 1), (115, .iaload, 1), (116, .if_icmp .ne 7, 3), (119, .iconst 1, 1), (120, .goto 4, 3), (123, .iconst 0, 1), (124, .bastore, 1), (125, .iload_n 2, 1), (126, .aload_n 0, 1), (127, .getfield 53, 3), (130, .iload 4, 2), (132, .baload, 1), (133, .ifCond .eq 7, 3), (136, .iconst 1, 1), (137, .goto 4, 3), (140, .iconst 0, 1), (141, .iadd, 1), (142, .istore_n 2, 1), (143, .iinc 4 1, 3), (146, .goto (-123), 3), (149, .iconst 0, 1), (150, .istore 4, 2), (152, .iload 4, 2), (154, .aload_n 0, 1), (155, .invokevirtual 93, 3), (158, .if_icmp .ge 23, 3), (161, .aload_n 0, 1), (162, .getfield 50, 3), (165, .iload 4, 2), (167, .aload_n 0, 1), (168, .getfield 53, 3), (171, .iload 4, 2), (173, .baload, 1), (174, .bastore, 1), (175, .iinc 4 1, 3), (178, .goto (-26), 3), (181, .iload_n 2, 1), (182, .ifCond .ne 16, 3), (185, .aload_n 0, 1), (186, .getfield 195, 3), (189, .iconst (-1), 1), (190, .if_icmp .ne 8, 3), (193, .aload_n 0, 1), (194, .iload_n 3, 1), (195, .putfield 195, 3), (198, .iinc 3 1, 3), (201, .goto (-188), 3), (204, .iload_n 2, 1), (205, .ireturn, 1)]
theorem ro_Mod_follow : rw_Mod_follow.all (fun r => decide (decode prog_13_method_57_code r.1 = .ok r.2)) = true := by decide +kernel
theorem d_Mod_follow_0 : decode prog_13_method_57_code 0 = .ok (.aload_n 0, 1) := am_row (r := (0, .aload_n 0, 1)) ro_Mod_follow 0 rfl
theorem d_Mod_follow_1 : decode prog_13_method_57_code 1 = .ok (.invokevirtual 109, 3) := am_row (r := (1, .invokevirtual 109, 3)) ro_Mod_follow 1 rfl
theorem d_Mod_follow_4 : decode prog_13_method_57_code 4 = .ok (.aload_n 0, 1) := am_row (r := (4, .aload_n 0, 1)) ro_Mod_follow 2 rfl
theorem d_Mod_follow_5 : decode prog_13_method_57_code 5 = .ok (.iconst (-1), 1) := am_row (r := (5, .iconst (-1), 1)) ro_Mod_follow 3 rfl
theorem d_Mod_follow_6 : decode prog_13_method_57_code 6 = .ok (.putfield 195, 3) := am_row (r := (6, .putfield 195, 3)) ro_Mod_follow 4 rfl
theorem d_Mod_follow_9 : decode prog_13_method_57_code 9 = .ok (.iconst 0, 1) := am_row (r := (9, .iconst 0, 1)) ro_Mod_follow 5 rfl
theorem d_Mod_follow_10 : decode prog_13_method_57_code 10 = .ok (.istore_n 2, 1) := am_row (r := (10, .istore_n 2, 1)) ro_Mod_follow 6 rfl
theorem d_Mod_follow_11 : decode prog_13_method_57_code 11 = .ok (.iconst 0, 1) := am_row (r := (11, .iconst 0, 1)) ro_Mod_follow 7 rfl
theorem d_Mod_follow_12 : decode prog_13_method_57_code 12 = .ok (.istore_n 3, 1) := am_row (r := (12, .istore_n 3, 1)) ro_Mod_follow 8 rfl
theorem d_Mod_follow_13 : decode prog_13_method_57_code 13 = .ok (.iload_n 3, 1) := am_row (r := (13, .iload_n 3, 1)) ro_Mod_follow 9 rfl
theorem d_Mod_follow_14 : decode prog_13_method_57_code 14 = .ok (.iload_n 1, 1) := am_row (r := (14, .iload_n 1, 1)) ro_Mod_follow 10 rfl
theorem d_Mod_follow_15 : decode prog_13_method_57_code 15 = .ok (.if_icmp .gt 189, 3) := am_row (r := (15, .if_icmp .gt 189, 3)) ro_Mod_follow 11 rfl
theorem d_Mod_follow_18 : decode prog_13_method_57_code 18 = .ok (.iconst 0, 1) := am_row (r := (18, .iconst 0, 1)) ro_Mod_follow 12 rfl
theorem d_Mod_follow_19 : decode prog_13_method_57_code 19 = .ok (.istore_n 2, 1) := am_row (r := (19, .istore_n 2, 1)) ro_Mod_follow 13 rfl
theorem d_Mod_follow_20 : decode prog_13_method_57_code 20 = .ok (.iconst 0, 1) := am_row (r := (20, .iconst 0, 1)) ro_Mod_follow 14 rfl
theorem d_Mod_follow_21 : decode prog_13_method_57_code 21 = .ok (.istore 4, 2) := am_row (r := (21, .istore 4, 2)) ro_Mod_follow 15 rfl
theorem d_Mod_follow_23 : decode prog_13_method_57_code 23 = .ok (.iload 4, 2) := am_row (r := (23, .iload 4, 2)) ro_Mod_follow 16 rfl
theorem d_Mod_follow_25 : decode prog_13_method_57_code 25 = .ok (.aload_n 0, 1) := am_row (r := (25, .aload_n 0, 1)) ro_Mod_follow 17 rfl
theorem d_Mod_follow_26 : decode prog_13_method_57_code 26 = .ok (.invokevirtual 93, 3) := am_row (r := (26, .invokevirtual 93, 3)) ro_Mod_follow 18 rfl
theorem d_Mod_follow_29 : decode prog_13_method_57_code 29 = .ok (.if_icmp .ge 120, 3) := am_row (r := (29, .if_icmp .ge 120, 3)) ro_Mod_follow 19 rfl
theorem d_Mod_follow_32 : decode prog_13_method_57_code 32 = .ok (.iload_n 3, 1) := am_row (r := (32, .iload_n 3, 1)) ro_Mod_follow 20 rfl
theorem d_Mod_follow_33 : decode prog_13_method_57_code 33 = .ok (.ifCond .eq 52, 3) := am_row (r := (33, .ifCond .eq 52, 3)) ro_Mod_follow 21 rfl
theorem d_Mod_follow_36 : decode prog_13_method_57_code 36 = .ok (.aload_n 0, 1) := am_row (r := (36, .aload_n 0, 1)) ro_Mod_follow 22 rfl
theorem d_Mod_follow_37 : decode prog_13_method_57_code 37 = .ok (.getfield 50, 3) := am_row (r := (37, .getfield 50, 3)) ro_Mod_follow 23 rfl
theorem d_Mod_follow_40 : decode prog_13_method_57_code 40 = .ok (.iload 4, 2) := am_row (r := (40, .iload 4, 2)) ro_Mod_follow 24 rfl
theorem d_Mod_follow_42 : decode prog_13_method_57_code 42 = .ok (.baload, 1) := am_row (r := (42, .baload, 1)) ro_Mod_follow 25 rfl
theorem d_Mod_follow_43 : decode prog_13_method_57_code 43 = .ok (.ifCond .ne 42, 3) := am_row (r := (43, .ifCond .ne 42, 3)) ro_Mod_follow 26 rfl
theorem d_Mod_follow_46 : decode prog_13_method_57_code 46 = .ok (.aload_n 0, 1) := am_row (r := (46, .aload_n 0, 1)) ro_Mod_follow 27 rfl
theorem d_Mod_follow_47 : decode prog_13_method_57_code 47 = .ok (.getfield 50, 3) := am_row (r := (47, .getfield 50, 3)) ro_Mod_follow 28 rfl
theorem d_Mod_follow_50 : decode prog_13_method_57_code 50 = .ok (.iload 4, 2) := am_row (r := (50, .iload 4, 2)) ro_Mod_follow 29 rfl
theorem d_Mod_follow_52 : decode prog_13_method_57_code 52 = .ok (.iconst 1, 1) := am_row (r := (52, .iconst 1, 1)) ro_Mod_follow 30 rfl
theorem d_Mod_follow_53 : decode prog_13_method_57_code 53 = .ok (.iadd, 1) := am_row (r := (53, .iadd, 1)) ro_Mod_follow 31 rfl
theorem d_Mod_follow_54 : decode prog_13_method_57_code 54 = .ok (.aload_n 0, 1) := am_row (r := (54, .aload_n 0, 1)) ro_Mod_follow 32 rfl
theorem d_Mod_follow_55 : decode prog_13_method_57_code 55 = .ok (.invokevirtual 93, 3) := am_row (r := (55, .invokevirtual 93, 3)) ro_Mod_follow 33 rfl
theorem d_Mod_follow_58 : decode prog_13_method_57_code 58 = .ok (.irem, 1) := am_row (r := (58, .irem, 1)) ro_Mod_follow 34 rfl
theorem d_Mod_follow_59 : decode prog_13_method_57_code 59 = .ok (.baload, 1) := am_row (r := (59, .baload, 1)) ro_Mod_follow 35 rfl
theorem d_Mod_follow_60 : decode prog_13_method_57_code 60 = .ok (.ifCond .ne 25, 3) := am_row (r := (60, .ifCond .ne 25, 3)) ro_Mod_follow 36 rfl
theorem d_Mod_follow_63 : decode prog_13_method_57_code 63 = .ok (.aload_n 0, 1) := am_row (r := (63, .aload_n 0, 1)) ro_Mod_follow 37 rfl
theorem d_Mod_follow_64 : decode prog_13_method_57_code 64 = .ok (.getfield 50, 3) := am_row (r := (64, .getfield 50, 3)) ro_Mod_follow 38 rfl
theorem d_Mod_follow_67 : decode prog_13_method_57_code 67 = .ok (.iload 4, 2) := am_row (r := (67, .iload 4, 2)) ro_Mod_follow 39 rfl
theorem d_Mod_follow_69 : decode prog_13_method_57_code 69 = .ok (.aload_n 0, 1) := am_row (r := (69, .aload_n 0, 1)) ro_Mod_follow 40 rfl
theorem d_Mod_follow_70 : decode prog_13_method_57_code 70 = .ok (.invokevirtual 93, 3) := am_row (r := (70, .invokevirtual 93, 3)) ro_Mod_follow 41 rfl
theorem d_Mod_follow_73 : decode prog_13_method_57_code 73 = .ok (.iadd, 1) := am_row (r := (73, .iadd, 1)) ro_Mod_follow 42 rfl
theorem d_Mod_follow_74 : decode prog_13_method_57_code 74 = .ok (.iconst 1, 1) := am_row (r := (74, .iconst 1, 1)) ro_Mod_follow 43 rfl
theorem d_Mod_follow_75 : decode prog_13_method_57_code 75 = .ok (.isub, 1) := am_row (r := (75, .isub, 1)) ro_Mod_follow 44 rfl
theorem d_Mod_follow_76 : decode prog_13_method_57_code 76 = .ok (.aload_n 0, 1) := am_row (r := (76, .aload_n 0, 1)) ro_Mod_follow 45 rfl
theorem d_Mod_follow_77 : decode prog_13_method_57_code 77 = .ok (.invokevirtual 93, 3) := am_row (r := (77, .invokevirtual 93, 3)) ro_Mod_follow 46 rfl
theorem d_Mod_follow_80 : decode prog_13_method_57_code 80 = .ok (.irem, 1) := am_row (r := (80, .irem, 1)) ro_Mod_follow 47 rfl
theorem d_Mod_follow_81 : decode prog_13_method_57_code 81 = .ok (.baload, 1) := am_row (r := (81, .baload, 1)) ro_Mod_follow 48 rfl
theorem d_Mod_follow_82 : decode prog_13_method_57_code 82 = .ok (.ifCond .eq 7, 3) := am_row (r := (82, .ifCond .eq 7, 3)) ro_Mod_follow 49 rfl
theorem d_Mod_follow_85 : decode prog_13_method_57_code 85 = .ok (.iconst 1, 1) := am_row (r := (85, .iconst 1, 1)) ro_Mod_follow 50 rfl
theorem d_Mod_follow_86 : decode prog_13_method_57_code 86 = .ok (.goto 4, 3) := am_row (r := (86, .goto 4, 3)) ro_Mod_follow 51 rfl
theorem d_Mod_follow_89 : decode prog_13_method_57_code 89 = .ok (.iconst 0, 1) := am_row (r := (89, .iconst 0, 1)) ro_Mod_follow 52 rfl
theorem d_Mod_follow_90 : decode prog_13_method_57_code 90 = .ok (.istore 5, 2) := am_row (r := (90, .istore 5, 2)) ro_Mod_follow 53 rfl
theorem d_Mod_follow_92 : decode prog_13_method_57_code 92 = .ok (.aload_n 0, 1) := am_row (r := (92, .aload_n 0, 1)) ro_Mod_follow 54 rfl
theorem d_Mod_follow_93 : decode prog_13_method_57_code 93 = .ok (.getfield 53, 3) := am_row (r := (93, .getfield 53, 3)) ro_Mod_follow 55 rfl
theorem d_Mod_follow_96 : decode prog_13_method_57_code 96 = .ok (.iload 4, 2) := am_row (r := (96, .iload 4, 2)) ro_Mod_follow 56 rfl
theorem d_Mod_follow_98 : decode prog_13_method_57_code 98 = .ok (.iload 5, 2) := am_row (r := (98, .iload 5, 2)) ro_Mod_follow 57 rfl
theorem d_Mod_follow_100 : decode prog_13_method_57_code 100 = .ok (.ifCond .eq 23, 3) := am_row (r := (100, .ifCond .eq 23, 3)) ro_Mod_follow 58 rfl
theorem d_Mod_follow_103 : decode prog_13_method_57_code 103 = .ok (.aload_n 0, 1) := am_row (r := (103, .aload_n 0, 1)) ro_Mod_follow 59 rfl
theorem d_Mod_follow_104 : decode prog_13_method_57_code 104 = .ok (.getfield 38, 3) := am_row (r := (104, .getfield 38, 3)) ro_Mod_follow 60 rfl
theorem d_Mod_follow_107 : decode prog_13_method_57_code 107 = .ok (.iload 4, 2) := am_row (r := (107, .iload 4, 2)) ro_Mod_follow 61 rfl
theorem d_Mod_follow_109 : decode prog_13_method_57_code 109 = .ok (.iaload, 1) := am_row (r := (109, .iaload, 1)) ro_Mod_follow 62 rfl
theorem d_Mod_follow_110 : decode prog_13_method_57_code 110 = .ok (.aload_n 0, 1) := am_row (r := (110, .aload_n 0, 1)) ro_Mod_follow 63 rfl
theorem d_Mod_follow_111 : decode prog_13_method_57_code 111 = .ok (.getfield 32, 3) := am_row (r := (111, .getfield 32, 3)) ro_Mod_follow 64 rfl
theorem d_Mod_follow_114 : decode prog_13_method_57_code 114 = .ok (.iload_n 3, 1) := am_row (r := (114, .iload_n 3, 1)) ro_Mod_follow 65 rfl
theorem d_Mod_follow_115 : decode prog_13_method_57_code 115 = .ok (.iaload, 1) := am_row (r := (115, .iaload, 1)) ro_Mod_follow 66 rfl
theorem d_Mod_follow_116 : decode prog_13_method_57_code 116 = .ok (.if_icmp .ne 7, 3) := am_row (r := (116, .if_icmp .ne 7, 3)) ro_Mod_follow 67 rfl
theorem d_Mod_follow_119 : decode prog_13_method_57_code 119 = .ok (.iconst 1, 1) := am_row (r := (119, .iconst 1, 1)) ro_Mod_follow 68 rfl
theorem d_Mod_follow_120 : decode prog_13_method_57_code 120 = .ok (.goto 4, 3) := am_row (r := (120, .goto 4, 3)) ro_Mod_follow 69 rfl
theorem d_Mod_follow_123 : decode prog_13_method_57_code 123 = .ok (.iconst 0, 1) := am_row (r := (123, .iconst 0, 1)) ro_Mod_follow 70 rfl
theorem d_Mod_follow_124 : decode prog_13_method_57_code 124 = .ok (.bastore, 1) := am_row (r := (124, .bastore, 1)) ro_Mod_follow 71 rfl
theorem d_Mod_follow_125 : decode prog_13_method_57_code 125 = .ok (.iload_n 2, 1) := am_row (r := (125, .iload_n 2, 1)) ro_Mod_follow 72 rfl
theorem d_Mod_follow_126 : decode prog_13_method_57_code 126 = .ok (.aload_n 0, 1) := am_row (r := (126, .aload_n 0, 1)) ro_Mod_follow 73 rfl
theorem d_Mod_follow_127 : decode prog_13_method_57_code 127 = .ok (.getfield 53, 3) := am_row (r := (127, .getfield 53, 3)) ro_Mod_follow 74 rfl
theorem d_Mod_follow_130 : decode prog_13_method_57_code 130 = .ok (.iload 4, 2) := am_row (r := (130, .iload 4, 2)) ro_Mod_follow 75 rfl
theorem d_Mod_follow_132 : decode prog_13_method_57_code 132 = .ok (.baload, 1) := am_row (r := (132, .baload, 1)) ro_Mod_follow 76 rfl
theorem d_Mod_follow_133 : decode prog_13_method_57_code 133 = .ok (.ifCond .eq 7, 3) := am_row (r := (133, .ifCond .eq 7, 3)) ro_Mod_follow 77 rfl
theorem d_Mod_follow_136 : decode prog_13_method_57_code 136 = .ok (.iconst 1, 1) := am_row (r := (136, .iconst 1, 1)) ro_Mod_follow 78 rfl
theorem d_Mod_follow_137 : decode prog_13_method_57_code 137 = .ok (.goto 4, 3) := am_row (r := (137, .goto 4, 3)) ro_Mod_follow 79 rfl
theorem d_Mod_follow_140 : decode prog_13_method_57_code 140 = .ok (.iconst 0, 1) := am_row (r := (140, .iconst 0, 1)) ro_Mod_follow 80 rfl
theorem d_Mod_follow_141 : decode prog_13_method_57_code 141 = .ok (.iadd, 1) := am_row (r := (141, .iadd, 1)) ro_Mod_follow 81 rfl
theorem d_Mod_follow_142 : decode prog_13_method_57_code 142 = .ok (.istore_n 2, 1) := am_row (r := (142, .istore_n 2, 1)) ro_Mod_follow 82 rfl
theorem d_Mod_follow_143 : decode prog_13_method_57_code 143 = .ok (.iinc 4 1, 3) := am_row (r := (143, .iinc 4 1, 3)) ro_Mod_follow 83 rfl
theorem d_Mod_follow_146 : decode prog_13_method_57_code 146 = .ok (.goto (-123), 3) := am_row (r := (146, .goto (-123), 3)) ro_Mod_follow 84 rfl
theorem d_Mod_follow_149 : decode prog_13_method_57_code 149 = .ok (.iconst 0, 1) := am_row (r := (149, .iconst 0, 1)) ro_Mod_follow 85 rfl
theorem d_Mod_follow_150 : decode prog_13_method_57_code 150 = .ok (.istore 4, 2) := am_row (r := (150, .istore 4, 2)) ro_Mod_follow 86 rfl
theorem d_Mod_follow_152 : decode prog_13_method_57_code 152 = .ok (.iload 4, 2) := am_row (r := (152, .iload 4, 2)) ro_Mod_follow 87 rfl
theorem d_Mod_follow_154 : decode prog_13_method_57_code 154 = .ok (.aload_n 0, 1) := am_row (r := (154, .aload_n 0, 1)) ro_Mod_follow 88 rfl
theorem d_Mod_follow_155 : decode prog_13_method_57_code 155 = .ok (.invokevirtual 93, 3) := am_row (r := (155, .invokevirtual 93, 3)) ro_Mod_follow 89 rfl
theorem d_Mod_follow_158 : decode prog_13_method_57_code 158 = .ok (.if_icmp .ge 23, 3) := am_row (r := (158, .if_icmp .ge 23, 3)) ro_Mod_follow 90 rfl
theorem d_Mod_follow_161 : decode prog_13_method_57_code 161 = .ok (.aload_n 0, 1) := am_row (r := (161, .aload_n 0, 1)) ro_Mod_follow 91 rfl
theorem d_Mod_follow_162 : decode prog_13_method_57_code 162 = .ok (.getfield 50, 3) := am_row (r := (162, .getfield 50, 3)) ro_Mod_follow 92 rfl
theorem d_Mod_follow_165 : decode prog_13_method_57_code 165 = .ok (.iload 4, 2) := am_row (r := (165, .iload 4, 2)) ro_Mod_follow 93 rfl
theorem d_Mod_follow_167 : decode prog_13_method_57_code 167 = .ok (.aload_n 0, 1) := am_row (r := (167, .aload_n 0, 1)) ro_Mod_follow 94 rfl
theorem d_Mod_follow_168 : decode prog_13_method_57_code 168 = .ok (.getfield 53, 3) := am_row (r := (168, .getfield 53, 3)) ro_Mod_follow 95 rfl
theorem d_Mod_follow_171 : decode prog_13_method_57_code 171 = .ok (.iload 4, 2) := am_row (r := (171, .iload 4, 2)) ro_Mod_follow 96 rfl
theorem d_Mod_follow_173 : decode prog_13_method_57_code 173 = .ok (.baload, 1) := am_row (r := (173, .baload, 1)) ro_Mod_follow 97 rfl
theorem d_Mod_follow_174 : decode prog_13_method_57_code 174 = .ok (.bastore, 1) := am_row (r := (174, .bastore, 1)) ro_Mod_follow 98 rfl
theorem d_Mod_follow_175 : decode prog_13_method_57_code 175 = .ok (.iinc 4 1, 3) := am_row (r := (175, .iinc 4 1, 3)) ro_Mod_follow 99 rfl
theorem d_Mod_follow_178 : decode prog_13_method_57_code 178 = .ok (.goto (-26), 3) := am_row (r := (178, .goto (-26), 3)) ro_Mod_follow 100 rfl
theorem d_Mod_follow_181 : decode prog_13_method_57_code 181 = .ok (.iload_n 2, 1) := am_row (r := (181, .iload_n 2, 1)) ro_Mod_follow 101 rfl
theorem d_Mod_follow_182 : decode prog_13_method_57_code 182 = .ok (.ifCond .ne 16, 3) := am_row (r := (182, .ifCond .ne 16, 3)) ro_Mod_follow 102 rfl
theorem d_Mod_follow_185 : decode prog_13_method_57_code 185 = .ok (.aload_n 0, 1) := am_row (r := (185, .aload_n 0, 1)) ro_Mod_follow 103 rfl
theorem d_Mod_follow_186 : decode prog_13_method_57_code 186 = .ok (.getfield 195, 3) := am_row (r := (186, .getfield 195, 3)) ro_Mod_follow 104 rfl
theorem d_Mod_follow_189 : decode prog_13_method_57_code 189 = .ok (.iconst (-1), 1) := am_row (r := (189, .iconst (-1), 1)) ro_Mod_follow 105 rfl
theorem d_Mod_follow_190 : decode prog_13_method_57_code 190 = .ok (.if_icmp .ne 8, 3) := am_row (r := (190, .if_icmp .ne 8, 3)) ro_Mod_follow 106 rfl
theorem d_Mod_follow_193 : decode prog_13_method_57_code 193 = .ok (.aload_n 0, 1) := am_row (r := (193, .aload_n 0, 1)) ro_Mod_follow 107 rfl
theorem d_Mod_follow_194 : decode prog_13_method_57_code 194 = .ok (.iload_n 3, 1) := am_row (r := (194, .iload_n 3, 1)) ro_Mod_follow 108 rfl
theorem d_Mod_follow_195 : decode prog_13_method_57_code 195 = .ok (.putfield 195, 3) := am_row (r := (195, .putfield 195, 3)) ro_Mod_follow 109 rfl
theorem d_Mod_follow_198 : decode prog_13_method_57_code 198 = .ok (.iinc 3 1, 3) := am_row (r := (198, .iinc 3 1, 3)) ro_Mod_follow 110 rfl
theorem d_Mod_follow_201 : decode prog_13_method_57_code 201 = .ok (.goto (-188), 3) := am_row (r := (201, .goto (-188), 3)) ro_Mod_follow 111 rfl
theorem d_Mod_follow_204 : decode prog_13_method_57_code 204 = .ok (.iload_n 2, 1) := am_row (r := (204, .iload_n 2, 1)) ro_Mod_follow 112 rfl
theorem d_Mod_follow_205 : decode prog_13_method_57_code 205 = .ok (.ireturn, 1) := am_row (r := (205, .ireturn, 1)) ro_Mod_follow 113 rfl
abbrev y_Mod_slip : MethodName := ⟨"WheelDiscModel", "slip", "()I"⟩
theorem c_Mod_slip : Cond.code y_Mod_slip prog_13_method_59_code 1 (some .int) ∈ am_T := am_mem 1258 (by decide +kernel) rfl
def rw_Mod_slip : List (Nat × Instr × Nat) := [(0, .aload_n 0, 1), (1, .iconst 0, 1), (2, .putfield 62, 3), (5, .aload_n 0, 1), (6, .aload_n 0, 1), (7, .getfield 127, 3), (10, .iconst 1, 1), (11, .isub, 1), (12, .invokevirtual 198, 3), (15, .pop, 1), (16, .aload_n 0, 1), (17, .getfield 195, 3), (20, .ireturn, 1)]
theorem ro_Mod_slip : rw_Mod_slip.all (fun r => decide (decode prog_13_method_59_code r.1 = .ok r.2)) = true := by decide +kernel
theorem d_Mod_slip_0 : decode prog_13_method_59_code 0 = .ok (.aload_n 0, 1) := am_row (r := (0, .aload_n 0, 1)) ro_Mod_slip 0 rfl
theorem d_Mod_slip_1 : decode prog_13_method_59_code 1 = .ok (.iconst 0, 1) := am_row (r := (1, .iconst 0, 1)) ro_Mod_slip 1 rfl
theorem d_Mod_slip_2 : decode prog_13_method_59_code 2 = .ok (.putfield 62, 3) := am_row (r := (2, .putfield 62, 3)) ro_Mod_slip 2 rfl
theorem d_Mod_slip_5 : decode prog_13_method_59_code 5 = .ok (.aload_n 0, 1) := am_row (r := (5, .aload_n 0, 1)) ro_Mod_slip 3 rfl
theorem d_Mod_slip_6 : decode prog_13_method_59_code 6 = .ok (.aload_n 0, 1) := am_row (r := (6, .aload_n 0, 1)) ro_Mod_slip 4 rfl
theorem d_Mod_slip_7 : decode prog_13_method_59_code 7 = .ok (.getfield 127, 3) := am_row (r := (7, .getfield 127, 3)) ro_Mod_slip 5 rfl
theorem d_Mod_slip_10 : decode prog_13_method_59_code 10 = .ok (.iconst 1, 1) := am_row (r := (10, .iconst 1, 1)) ro_Mod_slip 6 rfl
theorem d_Mod_slip_11 : decode prog_13_method_59_code 11 = .ok (.isub, 1) := am_row (r := (11, .isub, 1)) ro_Mod_slip 7 rfl
theorem d_Mod_slip_12 : decode prog_13_method_59_code 12 = .ok (.invokevirtual 198, 3) := am_row (r := (12, .invokevirtual 198, 3)) ro_Mod_slip 8 rfl
theorem d_Mod_slip_15 : decode prog_13_method_59_code 15 = .ok (.pop, 1) := am_row (r := (15, .pop, 1)) ro_Mod_slip 9 rfl
theorem d_Mod_slip_16 : decode prog_13_method_59_code 16 = .ok (.aload_n 0, 1) := am_row (r := (16, .aload_n 0, 1)) ro_Mod_slip 10 rfl
theorem d_Mod_slip_17 : decode prog_13_method_59_code 17 = .ok (.getfield 195, 3) := am_row (r := (17, .getfield 195, 3)) ro_Mod_slip 11 rfl
theorem d_Mod_slip_20 : decode prog_13_method_59_code 20 = .ok (.ireturn, 1) := am_row (r := (20, .ireturn, 1)) ro_Mod_slip 12 rfl
abbrev y_Mod_stands : MethodName := ⟨"WheelDiscModel", "stands", "(I)I"⟩
theorem c_Mod_stands : Cond.code y_Mod_stands prog_13_method_60_code 2 (some .int) ∈ am_T := am_mem 1266 (by decide +kernel) rfl
def rw_Mod_stands : List (Nat × Instr × Nat) := [(0, .aload_n 0, 1), (1, .iconst 0, 1), (2, .putfield 62, 3), (5, .iload_n 1, 1), (6, .ifCond .lt 11, 3), (9, .iload_n 1, 1), (10, .aload_n 0, 1), (11, .getfield 127, 3), (14, .if_icmp .lt 11, 3), (17, .aload_n 0, 1), (18, .iconst 1, 1), (19, .invokevirtual 75, 3), (22, .goto 8, 3), (25, .aload_n 0, 1), (26, .iload_n 1, 1), (27, .invokevirtual 198, 3), (30, .ireturn, 1)]
theorem ro_Mod_stands : rw_Mod_stands.all (fun r => decide (decode prog_13_method_60_code r.1 = .ok r.2)) = true := by decide +kernel
theorem d_Mod_stands_0 : decode prog_13_method_60_code 0 = .ok (.aload_n 0, 1) := am_row (r := (0, .aload_n 0, 1)) ro_Mod_stands 0 rfl
theorem d_Mod_stands_1 : decode prog_13_method_60_code 1 = .ok (.iconst 0, 1) := am_row (r := (1, .iconst 0, 1)) ro_Mod_stands 1 rfl
theorem d_Mod_stands_2 : decode prog_13_method_60_code 2 = .ok (.putfield 62, 3) := am_row (r := (2, .putfield 62, 3)) ro_Mod_stands 2 rfl
theorem d_Mod_stands_5 : decode prog_13_method_60_code 5 = .ok (.iload_n 1, 1) := am_row (r := (5, .iload_n 1, 1)) ro_Mod_stands 3 rfl
theorem d_Mod_stands_6 : decode prog_13_method_60_code 6 = .ok (.ifCond .lt 11, 3) := am_row (r := (6, .ifCond .lt 11, 3)) ro_Mod_stands 4 rfl
theorem d_Mod_stands_9 : decode prog_13_method_60_code 9 = .ok (.iload_n 1, 1) := am_row (r := (9, .iload_n 1, 1)) ro_Mod_stands 5 rfl
theorem d_Mod_stands_10 : decode prog_13_method_60_code 10 = .ok (.aload_n 0, 1) := am_row (r := (10, .aload_n 0, 1)) ro_Mod_stands 6 rfl
theorem d_Mod_stands_11 : decode prog_13_method_60_code 11 = .ok (.getfield 127, 3) := am_row (r := (11, .getfield 127, 3)) ro_Mod_stands 7 rfl
theorem d_Mod_stands_14 : decode prog_13_method_60_code 14 = .ok (.if_icmp .lt 11, 3) := am_row (r := (14, .if_icmp .lt 11, 3)) ro_Mod_stands 8 rfl
theorem d_Mod_stands_17 : decode prog_13_method_60_code 17 = .ok (.aload_n 0, 1) := am_row (r := (17, .aload_n 0, 1)) ro_Mod_stands 9 rfl
theorem d_Mod_stands_18 : decode prog_13_method_60_code 18 = .ok (.iconst 1, 1) := am_row (r := (18, .iconst 1, 1)) ro_Mod_stands 10 rfl
theorem d_Mod_stands_19 : decode prog_13_method_60_code 19 = .ok (.invokevirtual 75, 3) := am_row (r := (19, .invokevirtual 75, 3)) ro_Mod_stands 11 rfl
theorem d_Mod_stands_22 : decode prog_13_method_60_code 22 = .ok (.goto 8, 3) := am_row (r := (22, .goto 8, 3)) ro_Mod_stands 12 rfl
theorem d_Mod_stands_25 : decode prog_13_method_60_code 25 = .ok (.aload_n 0, 1) := am_row (r := (25, .aload_n 0, 1)) ro_Mod_stands 13 rfl
theorem d_Mod_stands_26 : decode prog_13_method_60_code 26 = .ok (.iload_n 1, 1) := am_row (r := (26, .iload_n 1, 1)) ro_Mod_stands 14 rfl
theorem d_Mod_stands_27 : decode prog_13_method_60_code 27 = .ok (.invokevirtual 198, 3) := am_row (r := (27, .invokevirtual 198, 3)) ro_Mod_stands 15 rfl
theorem d_Mod_stands_30 : decode prog_13_method_60_code 30 = .ok (.ireturn, 1) := am_row (r := (30, .ireturn, 1)) ro_Mod_stands 16 rfl
abbrev y_Mod_leastStand : MethodName := ⟨"WheelDiscModel", "leastStand", "()I"⟩
theorem c_Mod_leastStand : Cond.code y_Mod_leastStand prog_13_method_58_code 2 (some .int) ∈ am_T := am_mem 1274 (by decide +kernel) rfl
def rw_Mod_leastStand : List (Nat × Instr × Nat) := [(0, .iconst 0, 1), (1, .istore_n 1, 1), (2, .iload_n 1, 1), (3, .aload_n 0, 1), (4, .invokevirtual 93, 3), (7, .if_icmp .ge 20, 3), (10, .aload_n 0, 1), (11, .getfield 50, 3), (14, .iload_n 1, 1), (15, .baload, 1), (16, .ifCond .eq 5, 3), (19, .iload_n 1, 1), (20, .ireturn, 1), (21, .iinc 1 1, 3), (24, .goto (-22), 3), (27, .iconst (-1), 1), (28, .ireturn, 1)]
theorem ro_Mod_leastStand : rw_Mod_leastStand.all (fun r => decide (decode prog_13_method_58_code r.1 = .ok r.2)) = true := by decide +kernel
theorem d_Mod_leastStand_0 : decode prog_13_method_58_code 0 = .ok (.iconst 0, 1) := am_row (r := (0, .iconst 0, 1)) ro_Mod_leastStand 0 rfl
theorem d_Mod_leastStand_1 : decode prog_13_method_58_code 1 = .ok (.istore_n 1, 1) := am_row (r := (1, .istore_n 1, 1)) ro_Mod_leastStand 1 rfl
theorem d_Mod_leastStand_2 : decode prog_13_method_58_code 2 = .ok (.iload_n 1, 1) := am_row (r := (2, .iload_n 1, 1)) ro_Mod_leastStand 2 rfl
theorem d_Mod_leastStand_3 : decode prog_13_method_58_code 3 = .ok (.aload_n 0, 1) := am_row (r := (3, .aload_n 0, 1)) ro_Mod_leastStand 3 rfl
theorem d_Mod_leastStand_4 : decode prog_13_method_58_code 4 = .ok (.invokevirtual 93, 3) := am_row (r := (4, .invokevirtual 93, 3)) ro_Mod_leastStand 4 rfl
theorem d_Mod_leastStand_7 : decode prog_13_method_58_code 7 = .ok (.if_icmp .ge 20, 3) := am_row (r := (7, .if_icmp .ge 20, 3)) ro_Mod_leastStand 5 rfl
theorem d_Mod_leastStand_10 : decode prog_13_method_58_code 10 = .ok (.aload_n 0, 1) := am_row (r := (10, .aload_n 0, 1)) ro_Mod_leastStand 6 rfl
theorem d_Mod_leastStand_11 : decode prog_13_method_58_code 11 = .ok (.getfield 50, 3) := am_row (r := (11, .getfield 50, 3)) ro_Mod_leastStand 7 rfl
theorem d_Mod_leastStand_14 : decode prog_13_method_58_code 14 = .ok (.iload_n 1, 1) := am_row (r := (14, .iload_n 1, 1)) ro_Mod_leastStand 8 rfl
theorem d_Mod_leastStand_15 : decode prog_13_method_58_code 15 = .ok (.baload, 1) := am_row (r := (15, .baload, 1)) ro_Mod_leastStand 9 rfl
theorem d_Mod_leastStand_16 : decode prog_13_method_58_code 16 = .ok (.ifCond .eq 5, 3) := am_row (r := (16, .ifCond .eq 5, 3)) ro_Mod_leastStand 10 rfl
theorem d_Mod_leastStand_19 : decode prog_13_method_58_code 19 = .ok (.iload_n 1, 1) := am_row (r := (19, .iload_n 1, 1)) ro_Mod_leastStand 11 rfl
theorem d_Mod_leastStand_20 : decode prog_13_method_58_code 20 = .ok (.ireturn, 1) := am_row (r := (20, .ireturn, 1)) ro_Mod_leastStand 12 rfl
theorem d_Mod_leastStand_21 : decode prog_13_method_58_code 21 = .ok (.iinc 1 1, 3) := am_row (r := (21, .iinc 1 1, 3)) ro_Mod_leastStand 13 rfl
theorem d_Mod_leastStand_24 : decode prog_13_method_58_code 24 = .ok (.goto (-22), 3) := am_row (r := (24, .goto (-22), 3)) ro_Mod_leastStand 14 rfl
theorem d_Mod_leastStand_27 : decode prog_13_method_58_code 27 = .ok (.iconst (-1), 1) := am_row (r := (27, .iconst (-1), 1)) ro_Mod_leastStand 15 rfl
theorem d_Mod_leastStand_28 : decode prog_13_method_58_code 28 = .ok (.ireturn, 1) := am_row (r := (28, .ireturn, 1)) ro_Mod_leastStand 16 rfl
abbrev y_Mod_stand : MethodName := ⟨"WheelDiscModel", "stand", "(I)I"⟩
theorem c_Mod_stand : Cond.code y_Mod_stand prog_13_method_61_code 2 (some .int) ∈ am_T := am_mem 1270 (by decide +kernel) rfl
def rw_Mod_stand : List (Nat × Instr × Nat) := [(0, .aload_n 0, 1), (1, .iconst 0, 1), (2, .putfield 62, 3), (5, .iload_n 1, 1), (6, .ifCond .lt 19, 3), (9, .iload_n 1, 1), (10, .aload_n 0, 1), (11, .getfield 127, 3), (14, .if_icmp .ge 11, 3), (17, .aload_n 0, 1), (18, .iload_n 1, 1), (19, .invokevirtual 198, 3), (22, .ifCond .ne 9, 3), (25, .aload_n 0, 1), (26, .iconst 1, 1), (27, .invokevirtual 75, 3), (30, .ireturn, 1), (31, .aload_n 0, 1), (32, .invokevirtual 201, 3), (35, .ireturn, 1)]
theorem ro_Mod_stand : rw_Mod_stand.all (fun r => decide (decode prog_13_method_61_code r.1 = .ok r.2)) = true := by decide +kernel
theorem d_Mod_stand_0 : decode prog_13_method_61_code 0 = .ok (.aload_n 0, 1) := am_row (r := (0, .aload_n 0, 1)) ro_Mod_stand 0 rfl
theorem d_Mod_stand_1 : decode prog_13_method_61_code 1 = .ok (.iconst 0, 1) := am_row (r := (1, .iconst 0, 1)) ro_Mod_stand 1 rfl
theorem d_Mod_stand_2 : decode prog_13_method_61_code 2 = .ok (.putfield 62, 3) := am_row (r := (2, .putfield 62, 3)) ro_Mod_stand 2 rfl
theorem d_Mod_stand_5 : decode prog_13_method_61_code 5 = .ok (.iload_n 1, 1) := am_row (r := (5, .iload_n 1, 1)) ro_Mod_stand 3 rfl
theorem d_Mod_stand_6 : decode prog_13_method_61_code 6 = .ok (.ifCond .lt 19, 3) := am_row (r := (6, .ifCond .lt 19, 3)) ro_Mod_stand 4 rfl
theorem d_Mod_stand_9 : decode prog_13_method_61_code 9 = .ok (.iload_n 1, 1) := am_row (r := (9, .iload_n 1, 1)) ro_Mod_stand 5 rfl
theorem d_Mod_stand_10 : decode prog_13_method_61_code 10 = .ok (.aload_n 0, 1) := am_row (r := (10, .aload_n 0, 1)) ro_Mod_stand 6 rfl
theorem d_Mod_stand_11 : decode prog_13_method_61_code 11 = .ok (.getfield 127, 3) := am_row (r := (11, .getfield 127, 3)) ro_Mod_stand 7 rfl
theorem d_Mod_stand_14 : decode prog_13_method_61_code 14 = .ok (.if_icmp .ge 11, 3) := am_row (r := (14, .if_icmp .ge 11, 3)) ro_Mod_stand 8 rfl
theorem d_Mod_stand_17 : decode prog_13_method_61_code 17 = .ok (.aload_n 0, 1) := am_row (r := (17, .aload_n 0, 1)) ro_Mod_stand 9 rfl
theorem d_Mod_stand_18 : decode prog_13_method_61_code 18 = .ok (.iload_n 1, 1) := am_row (r := (18, .iload_n 1, 1)) ro_Mod_stand 10 rfl
theorem d_Mod_stand_19 : decode prog_13_method_61_code 19 = .ok (.invokevirtual 198, 3) := am_row (r := (19, .invokevirtual 198, 3)) ro_Mod_stand 11 rfl
theorem d_Mod_stand_22 : decode prog_13_method_61_code 22 = .ok (.ifCond .ne 9, 3) := am_row (r := (22, .ifCond .ne 9, 3)) ro_Mod_stand 12 rfl
theorem d_Mod_stand_25 : decode prog_13_method_61_code 25 = .ok (.aload_n 0, 1) := am_row (r := (25, .aload_n 0, 1)) ro_Mod_stand 13 rfl
theorem d_Mod_stand_26 : decode prog_13_method_61_code 26 = .ok (.iconst 1, 1) := am_row (r := (26, .iconst 1, 1)) ro_Mod_stand 14 rfl
theorem d_Mod_stand_27 : decode prog_13_method_61_code 27 = .ok (.invokevirtual 75, 3) := am_row (r := (27, .invokevirtual 75, 3)) ro_Mod_stand 15 rfl
theorem d_Mod_stand_30 : decode prog_13_method_61_code 30 = .ok (.ireturn, 1) := am_row (r := (30, .ireturn, 1)) ro_Mod_stand 16 rfl
theorem d_Mod_stand_31 : decode prog_13_method_61_code 31 = .ok (.aload_n 0, 1) := am_row (r := (31, .aload_n 0, 1)) ro_Mod_stand 17 rfl
theorem d_Mod_stand_32 : decode prog_13_method_61_code 32 = .ok (.invokevirtual 201, 3) := am_row (r := (32, .invokevirtual 201, 3)) ro_Mod_stand 18 rfl
theorem d_Mod_stand_35 : decode prog_13_method_61_code 35 = .ok (.ireturn, 1) := am_row (r := (35, .ireturn, 1)) ro_Mod_stand 19 rfl
abbrev y_Mod_mend : MethodName := ⟨"WheelDiscModel", "mend", "()I"⟩
theorem c_Mod_mend : Cond.code y_Mod_mend prog_13_method_62_code 9 (some .int) ∈ am_T := am_mem 1278 (by decide +kernel) rfl
def rw_Mod_mend : List (Nat × Instr × Nat) := [(0, .aload_n 0, 1), (1, .iconst 0, 1), (2, .putfield 62, 3), (5, .aload_n 0, 1), (6, .aload_n 0, 1), (7, .getfield 127, 3), (10, .iconst 1, 1), (11, .isub, 1), (12, .invokevirtual 198, 3), (15, .pop, 1), (16, .aload_n 0, 1), (17, .getfield 195, 3), (20, .iconst (-1), 1), (21, .if_icmp .ne 5, 3), (24, .iconst (-1), 1), (25, .ireturn, 1), (26, .aload_n 0, 1), (27, .getfield 195, 3), (30, .istore_n 1, 1), (31, .iconst 0, 1), (32, .istore_n 2, 1), (33, .iload_n 1, 1), (34, .ifCond .le 16, 3), (37, .aload_n 0, 1), (38, .iload_n 1, 1), (39, .iconst 1, 1), (40, .isub, 1), (41, .invokevirtual 198, 3), (44, .pop, 1), (45, .aload_n 0, 1), (46, .invokevirtual 201, 3), (49, .istore_n 2, 1), (50, .iconst (-1), 1), (51, .istore_n 3, 1), (52, .bipush 99, 2), (54, .istore 4, 2), (56, .iconst 0, 1), (57, .istore 5, 2), (59, .iconst 0, 1), (60, .istore 6, 2), (62, .iload 6, 2), (64, .aload_n 0, 1), (65, .invokevirtual 93, 3), (68, .if_icmp .ge 103, 3), (71, .aload_n 0, 1), (72, .getfield 38, 3), (75, .iload 6, 2), (77, .iaload, 1), (78, .aload_n 0, 1), (79, .getfield 32, 3), (82, .iload_n 1, 1), (83, .iaload, 1), (84, .ixor, 1), (85, .invokestatic 119, 3), (88, .istore 7, 2), (90, .iload 6, 2), (92, .iload_n 2, 1), (93, .if_icmp .ge 10, 3), (96, .iload_n 2, 1), (97, .iload 6, 2), (99, .isub, 1), (100, .goto 7, 3), (103, .iload 6, 2), (105, .iload_n 2, 1), (106, .isub, 1), (107, .istore 8, 2), (109, .aload_n 0, 1), (110, .invokevirtual 93, 3), (113, .iload 8, 2), (115, .isub, 1), (116, .iload 8, 2), (118, .if_icmp .ge 12, 3), (121, .aload_n 0, 1), (122, .invokevirtual 93, 3), (125, .iload 8, 2), (127, .isub, 1), (128, .istore 8, 2), (130, .iload 7, 2), (132, .iload 4, 2), (134, .if_icmp .gt 31, 3), (137, .iload 7, 2), (139, .iload 4, 2), (141, .if_icmp .ne 13, 3), (144, .iload 8, 2), (146, .iload 5, 2), (148, .if_icmp .lt 6, 3), (151, .goto 14, 3), (154, .iload 6, 2), (156, .istore_n 3, 1), (157, .iload 7, 2), (159, .istore 4, 2), (161, .iload 8, 2), (163, .istore 5, 2), (165, .iinc 6 1, 3), (168, .goto (-106), 3), (171, .iload_n 3, 1), (172, .ireturn, 1)]
theorem ro_Mod_mend : rw_Mod_mend.all (fun r => decide (decode prog_13_method_62_code r.1 = .ok r.2)) = true := by decide +kernel
theorem d_Mod_mend_0 : decode prog_13_method_62_code 0 = .ok (.aload_n 0, 1) := am_row (r := (0, .aload_n 0, 1)) ro_Mod_mend 0 rfl
theorem d_Mod_mend_1 : decode prog_13_method_62_code 1 = .ok (.iconst 0, 1) := am_row (r := (1, .iconst 0, 1)) ro_Mod_mend 1 rfl
theorem d_Mod_mend_2 : decode prog_13_method_62_code 2 = .ok (.putfield 62, 3) := am_row (r := (2, .putfield 62, 3)) ro_Mod_mend 2 rfl
theorem d_Mod_mend_5 : decode prog_13_method_62_code 5 = .ok (.aload_n 0, 1) := am_row (r := (5, .aload_n 0, 1)) ro_Mod_mend 3 rfl
theorem d_Mod_mend_6 : decode prog_13_method_62_code 6 = .ok (.aload_n 0, 1) := am_row (r := (6, .aload_n 0, 1)) ro_Mod_mend 4 rfl
theorem d_Mod_mend_7 : decode prog_13_method_62_code 7 = .ok (.getfield 127, 3) := am_row (r := (7, .getfield 127, 3)) ro_Mod_mend 5 rfl
theorem d_Mod_mend_10 : decode prog_13_method_62_code 10 = .ok (.iconst 1, 1) := am_row (r := (10, .iconst 1, 1)) ro_Mod_mend 6 rfl
theorem d_Mod_mend_11 : decode prog_13_method_62_code 11 = .ok (.isub, 1) := am_row (r := (11, .isub, 1)) ro_Mod_mend 7 rfl
theorem d_Mod_mend_12 : decode prog_13_method_62_code 12 = .ok (.invokevirtual 198, 3) := am_row (r := (12, .invokevirtual 198, 3)) ro_Mod_mend 8 rfl
theorem d_Mod_mend_15 : decode prog_13_method_62_code 15 = .ok (.pop, 1) := am_row (r := (15, .pop, 1)) ro_Mod_mend 9 rfl
theorem d_Mod_mend_16 : decode prog_13_method_62_code 16 = .ok (.aload_n 0, 1) := am_row (r := (16, .aload_n 0, 1)) ro_Mod_mend 10 rfl
theorem d_Mod_mend_17 : decode prog_13_method_62_code 17 = .ok (.getfield 195, 3) := am_row (r := (17, .getfield 195, 3)) ro_Mod_mend 11 rfl
theorem d_Mod_mend_20 : decode prog_13_method_62_code 20 = .ok (.iconst (-1), 1) := am_row (r := (20, .iconst (-1), 1)) ro_Mod_mend 12 rfl
theorem d_Mod_mend_21 : decode prog_13_method_62_code 21 = .ok (.if_icmp .ne 5, 3) := am_row (r := (21, .if_icmp .ne 5, 3)) ro_Mod_mend 13 rfl
theorem d_Mod_mend_24 : decode prog_13_method_62_code 24 = .ok (.iconst (-1), 1) := am_row (r := (24, .iconst (-1), 1)) ro_Mod_mend 14 rfl
theorem d_Mod_mend_25 : decode prog_13_method_62_code 25 = .ok (.ireturn, 1) := am_row (r := (25, .ireturn, 1)) ro_Mod_mend 15 rfl
theorem d_Mod_mend_26 : decode prog_13_method_62_code 26 = .ok (.aload_n 0, 1) := am_row (r := (26, .aload_n 0, 1)) ro_Mod_mend 16 rfl
theorem d_Mod_mend_27 : decode prog_13_method_62_code 27 = .ok (.getfield 195, 3) := am_row (r := (27, .getfield 195, 3)) ro_Mod_mend 17 rfl
theorem d_Mod_mend_30 : decode prog_13_method_62_code 30 = .ok (.istore_n 1, 1) := am_row (r := (30, .istore_n 1, 1)) ro_Mod_mend 18 rfl
theorem d_Mod_mend_31 : decode prog_13_method_62_code 31 = .ok (.iconst 0, 1) := am_row (r := (31, .iconst 0, 1)) ro_Mod_mend 19 rfl
theorem d_Mod_mend_32 : decode prog_13_method_62_code 32 = .ok (.istore_n 2, 1) := am_row (r := (32, .istore_n 2, 1)) ro_Mod_mend 20 rfl
theorem d_Mod_mend_33 : decode prog_13_method_62_code 33 = .ok (.iload_n 1, 1) := am_row (r := (33, .iload_n 1, 1)) ro_Mod_mend 21 rfl
theorem d_Mod_mend_34 : decode prog_13_method_62_code 34 = .ok (.ifCond .le 16, 3) := am_row (r := (34, .ifCond .le 16, 3)) ro_Mod_mend 22 rfl
theorem d_Mod_mend_37 : decode prog_13_method_62_code 37 = .ok (.aload_n 0, 1) := am_row (r := (37, .aload_n 0, 1)) ro_Mod_mend 23 rfl
theorem d_Mod_mend_38 : decode prog_13_method_62_code 38 = .ok (.iload_n 1, 1) := am_row (r := (38, .iload_n 1, 1)) ro_Mod_mend 24 rfl
theorem d_Mod_mend_39 : decode prog_13_method_62_code 39 = .ok (.iconst 1, 1) := am_row (r := (39, .iconst 1, 1)) ro_Mod_mend 25 rfl
theorem d_Mod_mend_40 : decode prog_13_method_62_code 40 = .ok (.isub, 1) := am_row (r := (40, .isub, 1)) ro_Mod_mend 26 rfl
theorem d_Mod_mend_41 : decode prog_13_method_62_code 41 = .ok (.invokevirtual 198, 3) := am_row (r := (41, .invokevirtual 198, 3)) ro_Mod_mend 27 rfl
theorem d_Mod_mend_44 : decode prog_13_method_62_code 44 = .ok (.pop, 1) := am_row (r := (44, .pop, 1)) ro_Mod_mend 28 rfl
theorem d_Mod_mend_45 : decode prog_13_method_62_code 45 = .ok (.aload_n 0, 1) := am_row (r := (45, .aload_n 0, 1)) ro_Mod_mend 29 rfl
theorem d_Mod_mend_46 : decode prog_13_method_62_code 46 = .ok (.invokevirtual 201, 3) := am_row (r := (46, .invokevirtual 201, 3)) ro_Mod_mend 30 rfl
theorem d_Mod_mend_49 : decode prog_13_method_62_code 49 = .ok (.istore_n 2, 1) := am_row (r := (49, .istore_n 2, 1)) ro_Mod_mend 31 rfl
theorem d_Mod_mend_50 : decode prog_13_method_62_code 50 = .ok (.iconst (-1), 1) := am_row (r := (50, .iconst (-1), 1)) ro_Mod_mend 32 rfl
theorem d_Mod_mend_51 : decode prog_13_method_62_code 51 = .ok (.istore_n 3, 1) := am_row (r := (51, .istore_n 3, 1)) ro_Mod_mend 33 rfl
theorem d_Mod_mend_52 : decode prog_13_method_62_code 52 = .ok (.bipush 99, 2) := am_row (r := (52, .bipush 99, 2)) ro_Mod_mend 34 rfl
theorem d_Mod_mend_54 : decode prog_13_method_62_code 54 = .ok (.istore 4, 2) := am_row (r := (54, .istore 4, 2)) ro_Mod_mend 35 rfl
theorem d_Mod_mend_56 : decode prog_13_method_62_code 56 = .ok (.iconst 0, 1) := am_row (r := (56, .iconst 0, 1)) ro_Mod_mend 36 rfl
theorem d_Mod_mend_57 : decode prog_13_method_62_code 57 = .ok (.istore 5, 2) := am_row (r := (57, .istore 5, 2)) ro_Mod_mend 37 rfl
theorem d_Mod_mend_59 : decode prog_13_method_62_code 59 = .ok (.iconst 0, 1) := am_row (r := (59, .iconst 0, 1)) ro_Mod_mend 38 rfl
theorem d_Mod_mend_60 : decode prog_13_method_62_code 60 = .ok (.istore 6, 2) := am_row (r := (60, .istore 6, 2)) ro_Mod_mend 39 rfl
theorem d_Mod_mend_62 : decode prog_13_method_62_code 62 = .ok (.iload 6, 2) := am_row (r := (62, .iload 6, 2)) ro_Mod_mend 40 rfl
theorem d_Mod_mend_64 : decode prog_13_method_62_code 64 = .ok (.aload_n 0, 1) := am_row (r := (64, .aload_n 0, 1)) ro_Mod_mend 41 rfl
theorem d_Mod_mend_65 : decode prog_13_method_62_code 65 = .ok (.invokevirtual 93, 3) := am_row (r := (65, .invokevirtual 93, 3)) ro_Mod_mend 42 rfl
theorem d_Mod_mend_68 : decode prog_13_method_62_code 68 = .ok (.if_icmp .ge 103, 3) := am_row (r := (68, .if_icmp .ge 103, 3)) ro_Mod_mend 43 rfl
theorem d_Mod_mend_71 : decode prog_13_method_62_code 71 = .ok (.aload_n 0, 1) := am_row (r := (71, .aload_n 0, 1)) ro_Mod_mend 44 rfl
theorem d_Mod_mend_72 : decode prog_13_method_62_code 72 = .ok (.getfield 38, 3) := am_row (r := (72, .getfield 38, 3)) ro_Mod_mend 45 rfl
theorem d_Mod_mend_75 : decode prog_13_method_62_code 75 = .ok (.iload 6, 2) := am_row (r := (75, .iload 6, 2)) ro_Mod_mend 46 rfl
theorem d_Mod_mend_77 : decode prog_13_method_62_code 77 = .ok (.iaload, 1) := am_row (r := (77, .iaload, 1)) ro_Mod_mend 47 rfl
theorem d_Mod_mend_78 : decode prog_13_method_62_code 78 = .ok (.aload_n 0, 1) := am_row (r := (78, .aload_n 0, 1)) ro_Mod_mend 48 rfl
theorem d_Mod_mend_79 : decode prog_13_method_62_code 79 = .ok (.getfield 32, 3) := am_row (r := (79, .getfield 32, 3)) ro_Mod_mend 49 rfl
theorem d_Mod_mend_82 : decode prog_13_method_62_code 82 = .ok (.iload_n 1, 1) := am_row (r := (82, .iload_n 1, 1)) ro_Mod_mend 50 rfl
theorem d_Mod_mend_83 : decode prog_13_method_62_code 83 = .ok (.iaload, 1) := am_row (r := (83, .iaload, 1)) ro_Mod_mend 51 rfl
theorem d_Mod_mend_84 : decode prog_13_method_62_code 84 = .ok (.ixor, 1) := am_row (r := (84, .ixor, 1)) ro_Mod_mend 52 rfl
theorem d_Mod_mend_85 : decode prog_13_method_62_code 85 = .ok (.invokestatic 119, 3) := am_row (r := (85, .invokestatic 119, 3)) ro_Mod_mend 53 rfl
theorem d_Mod_mend_88 : decode prog_13_method_62_code 88 = .ok (.istore 7, 2) := am_row (r := (88, .istore 7, 2)) ro_Mod_mend 54 rfl
theorem d_Mod_mend_90 : decode prog_13_method_62_code 90 = .ok (.iload 6, 2) := am_row (r := (90, .iload 6, 2)) ro_Mod_mend 55 rfl
theorem d_Mod_mend_92 : decode prog_13_method_62_code 92 = .ok (.iload_n 2, 1) := am_row (r := (92, .iload_n 2, 1)) ro_Mod_mend 56 rfl
theorem d_Mod_mend_93 : decode prog_13_method_62_code 93 = .ok (.if_icmp .ge 10, 3) := am_row (r := (93, .if_icmp .ge 10, 3)) ro_Mod_mend 57 rfl
theorem d_Mod_mend_96 : decode prog_13_method_62_code 96 = .ok (.iload_n 2, 1) := am_row (r := (96, .iload_n 2, 1)) ro_Mod_mend 58 rfl
theorem d_Mod_mend_97 : decode prog_13_method_62_code 97 = .ok (.iload 6, 2) := am_row (r := (97, .iload 6, 2)) ro_Mod_mend 59 rfl
theorem d_Mod_mend_99 : decode prog_13_method_62_code 99 = .ok (.isub, 1) := am_row (r := (99, .isub, 1)) ro_Mod_mend 60 rfl
theorem d_Mod_mend_100 : decode prog_13_method_62_code 100 = .ok (.goto 7, 3) := am_row (r := (100, .goto 7, 3)) ro_Mod_mend 61 rfl
theorem d_Mod_mend_103 : decode prog_13_method_62_code 103 = .ok (.iload 6, 2) := am_row (r := (103, .iload 6, 2)) ro_Mod_mend 62 rfl
theorem d_Mod_mend_105 : decode prog_13_method_62_code 105 = .ok (.iload_n 2, 1) := am_row (r := (105, .iload_n 2, 1)) ro_Mod_mend 63 rfl
theorem d_Mod_mend_106 : decode prog_13_method_62_code 106 = .ok (.isub, 1) := am_row (r := (106, .isub, 1)) ro_Mod_mend 64 rfl
theorem d_Mod_mend_107 : decode prog_13_method_62_code 107 = .ok (.istore 8, 2) := am_row (r := (107, .istore 8, 2)) ro_Mod_mend 65 rfl
theorem d_Mod_mend_109 : decode prog_13_method_62_code 109 = .ok (.aload_n 0, 1) := am_row (r := (109, .aload_n 0, 1)) ro_Mod_mend 66 rfl
theorem d_Mod_mend_110 : decode prog_13_method_62_code 110 = .ok (.invokevirtual 93, 3) := am_row (r := (110, .invokevirtual 93, 3)) ro_Mod_mend 67 rfl
theorem d_Mod_mend_113 : decode prog_13_method_62_code 113 = .ok (.iload 8, 2) := am_row (r := (113, .iload 8, 2)) ro_Mod_mend 68 rfl
theorem d_Mod_mend_115 : decode prog_13_method_62_code 115 = .ok (.isub, 1) := am_row (r := (115, .isub, 1)) ro_Mod_mend 69 rfl
theorem d_Mod_mend_116 : decode prog_13_method_62_code 116 = .ok (.iload 8, 2) := am_row (r := (116, .iload 8, 2)) ro_Mod_mend 70 rfl
theorem d_Mod_mend_118 : decode prog_13_method_62_code 118 = .ok (.if_icmp .ge 12, 3) := am_row (r := (118, .if_icmp .ge 12, 3)) ro_Mod_mend 71 rfl
theorem d_Mod_mend_121 : decode prog_13_method_62_code 121 = .ok (.aload_n 0, 1) := am_row (r := (121, .aload_n 0, 1)) ro_Mod_mend 72 rfl
theorem d_Mod_mend_122 : decode prog_13_method_62_code 122 = .ok (.invokevirtual 93, 3) := am_row (r := (122, .invokevirtual 93, 3)) ro_Mod_mend 73 rfl
theorem d_Mod_mend_125 : decode prog_13_method_62_code 125 = .ok (.iload 8, 2) := am_row (r := (125, .iload 8, 2)) ro_Mod_mend 74 rfl
theorem d_Mod_mend_127 : decode prog_13_method_62_code 127 = .ok (.isub, 1) := am_row (r := (127, .isub, 1)) ro_Mod_mend 75 rfl
theorem d_Mod_mend_128 : decode prog_13_method_62_code 128 = .ok (.istore 8, 2) := am_row (r := (128, .istore 8, 2)) ro_Mod_mend 76 rfl
theorem d_Mod_mend_130 : decode prog_13_method_62_code 130 = .ok (.iload 7, 2) := am_row (r := (130, .iload 7, 2)) ro_Mod_mend 77 rfl
theorem d_Mod_mend_132 : decode prog_13_method_62_code 132 = .ok (.iload 4, 2) := am_row (r := (132, .iload 4, 2)) ro_Mod_mend 78 rfl
theorem d_Mod_mend_134 : decode prog_13_method_62_code 134 = .ok (.if_icmp .gt 31, 3) := am_row (r := (134, .if_icmp .gt 31, 3)) ro_Mod_mend 79 rfl
theorem d_Mod_mend_137 : decode prog_13_method_62_code 137 = .ok (.iload 7, 2) := am_row (r := (137, .iload 7, 2)) ro_Mod_mend 80 rfl
theorem d_Mod_mend_139 : decode prog_13_method_62_code 139 = .ok (.iload 4, 2) := am_row (r := (139, .iload 4, 2)) ro_Mod_mend 81 rfl
theorem d_Mod_mend_141 : decode prog_13_method_62_code 141 = .ok (.if_icmp .ne 13, 3) := am_row (r := (141, .if_icmp .ne 13, 3)) ro_Mod_mend 82 rfl
theorem d_Mod_mend_144 : decode prog_13_method_62_code 144 = .ok (.iload 8, 2) := am_row (r := (144, .iload 8, 2)) ro_Mod_mend 83 rfl
theorem d_Mod_mend_146 : decode prog_13_method_62_code 146 = .ok (.iload 5, 2) := am_row (r := (146, .iload 5, 2)) ro_Mod_mend 84 rfl
theorem d_Mod_mend_148 : decode prog_13_method_62_code 148 = .ok (.if_icmp .lt 6, 3) := am_row (r := (148, .if_icmp .lt 6, 3)) ro_Mod_mend 85 rfl
theorem d_Mod_mend_151 : decode prog_13_method_62_code 151 = .ok (.goto 14, 3) := am_row (r := (151, .goto 14, 3)) ro_Mod_mend 86 rfl
theorem d_Mod_mend_154 : decode prog_13_method_62_code 154 = .ok (.iload 6, 2) := am_row (r := (154, .iload 6, 2)) ro_Mod_mend 87 rfl
theorem d_Mod_mend_156 : decode prog_13_method_62_code 156 = .ok (.istore_n 3, 1) := am_row (r := (156, .istore_n 3, 1)) ro_Mod_mend 88 rfl
theorem d_Mod_mend_157 : decode prog_13_method_62_code 157 = .ok (.iload 7, 2) := am_row (r := (157, .iload 7, 2)) ro_Mod_mend 89 rfl
theorem d_Mod_mend_159 : decode prog_13_method_62_code 159 = .ok (.istore 4, 2) := am_row (r := (159, .istore 4, 2)) ro_Mod_mend 90 rfl
theorem d_Mod_mend_161 : decode prog_13_method_62_code 161 = .ok (.iload 8, 2) := am_row (r := (161, .iload 8, 2)) ro_Mod_mend 91 rfl
theorem d_Mod_mend_163 : decode prog_13_method_62_code 163 = .ok (.istore 5, 2) := am_row (r := (163, .istore 5, 2)) ro_Mod_mend 92 rfl
theorem d_Mod_mend_165 : decode prog_13_method_62_code 165 = .ok (.iinc 6 1, 3) := am_row (r := (165, .iinc 6 1, 3)) ro_Mod_mend 93 rfl
theorem d_Mod_mend_168 : decode prog_13_method_62_code 168 = .ok (.goto (-106), 3) := am_row (r := (168, .goto (-106), 3)) ro_Mod_mend 94 rfl
theorem d_Mod_mend_171 : decode prog_13_method_62_code 171 = .ok (.iload_n 3, 1) := am_row (r := (171, .iload_n 3, 1)) ro_Mod_mend 95 rfl
theorem d_Mod_mend_172 : decode prog_13_method_62_code 172 = .ok (.ireturn, 1) := am_row (r := (172, .ireturn, 1)) ro_Mod_mend 96 rfl
abbrev y_Mod_tell : MethodName := ⟨"WheelDiscModel", "tell", "(I)I"⟩
theorem c_Mod_tell : Cond.code y_Mod_tell prog_13_method_63_code 2 (some .int) ∈ am_T := am_mem 1282 (by decide +kernel) rfl
def rw_Mod_tell : List (Nat × Instr × Nat) := [(0, .aload_n 0, 1), (1, .iconst 0, 1), (2, .putfield 62, 3), (5, .aload_n 0, 1), (6, .getfield 130, 3), (9, .sipush 512, 3), (12, .if_icmp .ne 9, 3), (15, .aload_n 0, 1), (16, .iconst 4, 1), (17, .invokevirtual 75, 3), (20, .ireturn, 1), (21, .aload_n 0, 1), (22, .getfield 35, 3), (25, .aload_n 0, 1), (26, .getfield 130, 3), (29, .iload_n 1, 1), (30, .iastore, 1), (31, .aload_n 0, 1), (32, .dup, 1), (33, .getfield 130, 3), (36, .iconst 1, 1), (37, .iadd, 1), (38, .putfield 130, 3), (41, .aload_n 0, 1), (42, .getfield 130, 3), (45, .ireturn, 1)]
theorem ro_Mod_tell : rw_Mod_tell.all (fun r => decide (decode prog_13_method_63_code r.1 = .ok r.2)) = true := by decide +kernel
theorem d_Mod_tell_0 : decode prog_13_method_63_code 0 = .ok (.aload_n 0, 1) := am_row (r := (0, .aload_n 0, 1)) ro_Mod_tell 0 rfl
theorem d_Mod_tell_1 : decode prog_13_method_63_code 1 = .ok (.iconst 0, 1) := am_row (r := (1, .iconst 0, 1)) ro_Mod_tell 1 rfl
theorem d_Mod_tell_2 : decode prog_13_method_63_code 2 = .ok (.putfield 62, 3) := am_row (r := (2, .putfield 62, 3)) ro_Mod_tell 2 rfl
theorem d_Mod_tell_5 : decode prog_13_method_63_code 5 = .ok (.aload_n 0, 1) := am_row (r := (5, .aload_n 0, 1)) ro_Mod_tell 3 rfl
theorem d_Mod_tell_6 : decode prog_13_method_63_code 6 = .ok (.getfield 130, 3) := am_row (r := (6, .getfield 130, 3)) ro_Mod_tell 4 rfl
theorem d_Mod_tell_9 : decode prog_13_method_63_code 9 = .ok (.sipush 512, 3) := am_row (r := (9, .sipush 512, 3)) ro_Mod_tell 5 rfl
theorem d_Mod_tell_12 : decode prog_13_method_63_code 12 = .ok (.if_icmp .ne 9, 3) := am_row (r := (12, .if_icmp .ne 9, 3)) ro_Mod_tell 6 rfl
theorem d_Mod_tell_15 : decode prog_13_method_63_code 15 = .ok (.aload_n 0, 1) := am_row (r := (15, .aload_n 0, 1)) ro_Mod_tell 7 rfl
theorem d_Mod_tell_16 : decode prog_13_method_63_code 16 = .ok (.iconst 4, 1) := am_row (r := (16, .iconst 4, 1)) ro_Mod_tell 8 rfl
theorem d_Mod_tell_17 : decode prog_13_method_63_code 17 = .ok (.invokevirtual 75, 3) := am_row (r := (17, .invokevirtual 75, 3)) ro_Mod_tell 9 rfl
theorem d_Mod_tell_20 : decode prog_13_method_63_code 20 = .ok (.ireturn, 1) := am_row (r := (20, .ireturn, 1)) ro_Mod_tell 10 rfl
theorem d_Mod_tell_21 : decode prog_13_method_63_code 21 = .ok (.aload_n 0, 1) := am_row (r := (21, .aload_n 0, 1)) ro_Mod_tell 11 rfl
theorem d_Mod_tell_22 : decode prog_13_method_63_code 22 = .ok (.getfield 35, 3) := am_row (r := (22, .getfield 35, 3)) ro_Mod_tell 12 rfl
theorem d_Mod_tell_25 : decode prog_13_method_63_code 25 = .ok (.aload_n 0, 1) := am_row (r := (25, .aload_n 0, 1)) ro_Mod_tell 13 rfl
theorem d_Mod_tell_26 : decode prog_13_method_63_code 26 = .ok (.getfield 130, 3) := am_row (r := (26, .getfield 130, 3)) ro_Mod_tell 14 rfl
theorem d_Mod_tell_29 : decode prog_13_method_63_code 29 = .ok (.iload_n 1, 1) := am_row (r := (29, .iload_n 1, 1)) ro_Mod_tell 15 rfl
theorem d_Mod_tell_30 : decode prog_13_method_63_code 30 = .ok (.iastore, 1) := am_row (r := (30, .iastore, 1)) ro_Mod_tell 16 rfl
theorem d_Mod_tell_31 : decode prog_13_method_63_code 31 = .ok (.aload_n 0, 1) := am_row (r := (31, .aload_n 0, 1)) ro_Mod_tell 17 rfl
theorem d_Mod_tell_32 : decode prog_13_method_63_code 32 = .ok (.dup, 1) := am_row (r := (32, .dup, 1)) ro_Mod_tell 18 rfl
theorem d_Mod_tell_33 : decode prog_13_method_63_code 33 = .ok (.getfield 130, 3) := am_row (r := (33, .getfield 130, 3)) ro_Mod_tell 19 rfl
theorem d_Mod_tell_36 : decode prog_13_method_63_code 36 = .ok (.iconst 1, 1) := am_row (r := (36, .iconst 1, 1)) ro_Mod_tell 20 rfl
theorem d_Mod_tell_37 : decode prog_13_method_63_code 37 = .ok (.iadd, 1) := am_row (r := (37, .iadd, 1)) ro_Mod_tell 21 rfl
theorem d_Mod_tell_38 : decode prog_13_method_63_code 38 = .ok (.putfield 130, 3) := am_row (r := (38, .putfield 130, 3)) ro_Mod_tell 22 rfl
theorem d_Mod_tell_41 : decode prog_13_method_63_code 41 = .ok (.aload_n 0, 1) := am_row (r := (41, .aload_n 0, 1)) ro_Mod_tell 23 rfl
theorem d_Mod_tell_42 : decode prog_13_method_63_code 42 = .ok (.getfield 130, 3) := am_row (r := (42, .getfield 130, 3)) ro_Mod_tell 24 rfl
theorem d_Mod_tell_45 : decode prog_13_method_63_code 45 = .ok (.ireturn, 1) := am_row (r := (45, .ireturn, 1)) ro_Mod_tell 25 rfl
abbrev y_Mod_forge : MethodName := ⟨"WheelDiscModel", "forge", "(II)Z"⟩
theorem c_Mod_forge : Cond.code y_Mod_forge prog_13_method_64_code 3 (some .boolean) ∈ am_T := am_mem 1286 (by decide +kernel) rfl
def rw_Mod_forge : List (Nat × Instr × Nat) := [(0, .aload_n 0, 1), (1, .iconst 0, 1), (2, .putfield 62, 3), (5, .iload_n 1, 1), (6, .ifCond .lt 21, 3), (9, .iload_n 1, 1), (10, .aload_n 0, 1), (11, .getfield 130, 3), (14, .if_icmp .ge 13, 3), (17, .iload_n 2, 1), (18, .ifCond .lt 9, 3), (21, .iload_n 2, 1), (22, .bipush 31, 2), (24, .if_icmp .le 11, 3), (27, .aload_n 0, 1), (28, .iconst 1, 1), (29, .invokevirtual 75, 3), (32, .pop, 1), (33, .iconst 0, 1), (34, .ireturn, 1), (35, .aload_n 0, 1), (36, .getfield 35, 3), (39, .iload_n 1, 1), (40, .dup2, 1), (41, .iaload, 1), (42, .iconst 1, 1), (43, .iload_n 2, 1), (44, .ishl, 1), (45, .ixor, 1), (46, .iastore, 1), (47, .iconst 1, 1), (48, .ireturn, 1)]
theorem ro_Mod_forge : rw_Mod_forge.all (fun r => decide (decode prog_13_method_64_code r.1 = .ok r.2)) = true := by decide +kernel
theorem d_Mod_forge_0 : decode prog_13_method_64_code 0 = .ok (.aload_n 0, 1) := am_row (r := (0, .aload_n 0, 1)) ro_Mod_forge 0 rfl
theorem d_Mod_forge_1 : decode prog_13_method_64_code 1 = .ok (.iconst 0, 1) := am_row (r := (1, .iconst 0, 1)) ro_Mod_forge 1 rfl
theorem d_Mod_forge_2 : decode prog_13_method_64_code 2 = .ok (.putfield 62, 3) := am_row (r := (2, .putfield 62, 3)) ro_Mod_forge 2 rfl
theorem d_Mod_forge_5 : decode prog_13_method_64_code 5 = .ok (.iload_n 1, 1) := am_row (r := (5, .iload_n 1, 1)) ro_Mod_forge 3 rfl
theorem d_Mod_forge_6 : decode prog_13_method_64_code 6 = .ok (.ifCond .lt 21, 3) := am_row (r := (6, .ifCond .lt 21, 3)) ro_Mod_forge 4 rfl
theorem d_Mod_forge_9 : decode prog_13_method_64_code 9 = .ok (.iload_n 1, 1) := am_row (r := (9, .iload_n 1, 1)) ro_Mod_forge 5 rfl
theorem d_Mod_forge_10 : decode prog_13_method_64_code 10 = .ok (.aload_n 0, 1) := am_row (r := (10, .aload_n 0, 1)) ro_Mod_forge 6 rfl
theorem d_Mod_forge_11 : decode prog_13_method_64_code 11 = .ok (.getfield 130, 3) := am_row (r := (11, .getfield 130, 3)) ro_Mod_forge 7 rfl
theorem d_Mod_forge_14 : decode prog_13_method_64_code 14 = .ok (.if_icmp .ge 13, 3) := am_row (r := (14, .if_icmp .ge 13, 3)) ro_Mod_forge 8 rfl
theorem d_Mod_forge_17 : decode prog_13_method_64_code 17 = .ok (.iload_n 2, 1) := am_row (r := (17, .iload_n 2, 1)) ro_Mod_forge 9 rfl
theorem d_Mod_forge_18 : decode prog_13_method_64_code 18 = .ok (.ifCond .lt 9, 3) := am_row (r := (18, .ifCond .lt 9, 3)) ro_Mod_forge 10 rfl
theorem d_Mod_forge_21 : decode prog_13_method_64_code 21 = .ok (.iload_n 2, 1) := am_row (r := (21, .iload_n 2, 1)) ro_Mod_forge 11 rfl
theorem d_Mod_forge_22 : decode prog_13_method_64_code 22 = .ok (.bipush 31, 2) := am_row (r := (22, .bipush 31, 2)) ro_Mod_forge 12 rfl
theorem d_Mod_forge_24 : decode prog_13_method_64_code 24 = .ok (.if_icmp .le 11, 3) := am_row (r := (24, .if_icmp .le 11, 3)) ro_Mod_forge 13 rfl
theorem d_Mod_forge_27 : decode prog_13_method_64_code 27 = .ok (.aload_n 0, 1) := am_row (r := (27, .aload_n 0, 1)) ro_Mod_forge 14 rfl
theorem d_Mod_forge_28 : decode prog_13_method_64_code 28 = .ok (.iconst 1, 1) := am_row (r := (28, .iconst 1, 1)) ro_Mod_forge 15 rfl
theorem d_Mod_forge_29 : decode prog_13_method_64_code 29 = .ok (.invokevirtual 75, 3) := am_row (r := (29, .invokevirtual 75, 3)) ro_Mod_forge 16 rfl
theorem d_Mod_forge_32 : decode prog_13_method_64_code 32 = .ok (.pop, 1) := am_row (r := (32, .pop, 1)) ro_Mod_forge 17 rfl
theorem d_Mod_forge_33 : decode prog_13_method_64_code 33 = .ok (.iconst 0, 1) := am_row (r := (33, .iconst 0, 1)) ro_Mod_forge 18 rfl
theorem d_Mod_forge_34 : decode prog_13_method_64_code 34 = .ok (.ireturn, 1) := am_row (r := (34, .ireturn, 1)) ro_Mod_forge 19 rfl
theorem d_Mod_forge_35 : decode prog_13_method_64_code 35 = .ok (.aload_n 0, 1) := am_row (r := (35, .aload_n 0, 1)) ro_Mod_forge 20 rfl
theorem d_Mod_forge_36 : decode prog_13_method_64_code 36 = .ok (.getfield 35, 3) := am_row (r := (36, .getfield 35, 3)) ro_Mod_forge 21 rfl
theorem d_Mod_forge_39 : decode prog_13_method_64_code 39 = .ok (.iload_n 1, 1) := am_row (r := (39, .iload_n 1, 1)) ro_Mod_forge 22 rfl
theorem d_Mod_forge_40 : decode prog_13_method_64_code 40 = .ok (.dup2, 1) := am_row (r := (40, .dup2, 1)) ro_Mod_forge 23 rfl
theorem d_Mod_forge_41 : decode prog_13_method_64_code 41 = .ok (.iaload, 1) := am_row (r := (41, .iaload, 1)) ro_Mod_forge 24 rfl
theorem d_Mod_forge_42 : decode prog_13_method_64_code 42 = .ok (.iconst 1, 1) := am_row (r := (42, .iconst 1, 1)) ro_Mod_forge 25 rfl
theorem d_Mod_forge_43 : decode prog_13_method_64_code 43 = .ok (.iload_n 2, 1) := am_row (r := (43, .iload_n 2, 1)) ro_Mod_forge 26 rfl
theorem d_Mod_forge_44 : decode prog_13_method_64_code 44 = .ok (.ishl, 1) := am_row (r := (44, .ishl, 1)) ro_Mod_forge 27 rfl
theorem d_Mod_forge_45 : decode prog_13_method_64_code 45 = .ok (.ixor, 1) := am_row (r := (45, .ixor, 1)) ro_Mod_forge 28 rfl
theorem d_Mod_forge_46 : decode prog_13_method_64_code 46 = .ok (.iastore, 1) := am_row (r := (46, .iastore, 1)) ro_Mod_forge 29 rfl
theorem d_Mod_forge_47 : decode prog_13_method_64_code 47 = .ok (.iconst 1, 1) := am_row (r := (47, .iconst 1, 1)) ro_Mod_forge 30 rfl
theorem d_Mod_forge_48 : decode prog_13_method_64_code 48 = .ok (.ireturn, 1) := am_row (r := (48, .ireturn, 1)) ro_Mod_forge 31 rfl
abbrev y_Mod_check : MethodName := ⟨"WheelDiscModel", "check", "(I)I"⟩
theorem c_Mod_check : Cond.code y_Mod_check prog_13_method_65_code 4 (some .int) ∈ am_T := am_mem 1290 (by decide +kernel) rfl
def rw_Mod_check : List (Nat × Instr × Nat) := [(0, .aload_n 0, 1), (1, .iconst 0, 1), (2, .putfield 62, 3), (5, .iload_n 1, 1), (6, .iconst 1, 1), (7, .if_icmp .lt 8, 3), (10, .iload_n 1, 1), (11, .iconst 2, 1), (12, .if_icmp .le 9, 3), (15, .aload_n 0, 1), (16, .iconst 1, 1), (17, .invokevirtual 75, 3), (20, .ireturn, 1), (21, .aload_n 0, 1), (22, .getfield 130, 3), (25, .ifCond .ne 9, 3), (28, .aload_n 0, 1), (29, .iconst 2, 1), (30, .invokevirtual 75, 3), (33, .ireturn, 1), (34, .iconst 0, 1), (35, .istore_n 2, 1), (36, .iload_n 2, 1), (37, .aload_n 0, 1), (38, .getfield 130, 3), (41, .if_icmp .ge 86, 3), (44, .iconst 0, 1), (45, .istore_n 3, 1), (46, .iload_n 3, 1), (47, .iload_n 2, 1), (48, .if_icmp .ge 26, 3), (51, .aload_n 0, 1), (52, .getfield 35, 3), (55, .iload_n 3, 1), (56, .iaload, 1), (57, .aload_n 0, 1), (58, .getfield 35, 3), (61, .iload_n 2, 1), (62, .iaload, 1), (63, .if_icmp .ne 5, 3), (66, .iload_n 2, 1), (67, .ireturn, 1), (68, .iinc 3 1, 3), (71, .goto (-25), 3), (74, .iload_n 1, 1), (75, .iconst 2, 1), (76, .if_icmp .ne 45, 3), (79, .aload_n 0, 1), (80, .getfield 130, 3), (83, .iconst 1, 1), (84, .if_icmp .eq 35, 3), (87, .aload_n 0, 1), (88, .getfield 35, 3), (91, .iload_n 2, 1), (92, .iaload, 1), (93, .aload_n 0, 1), (94, .getfield 35, 3), (97, .iload_n 2, 1), (98, .aload_n 0, 1), (99, .getfield 130, 3), (102, .iadd, 1), (103, .iconst 1, 1), (104, .isub, 1), (105, .aload_n 0, 1), (106, .getfield 130, 3), (109, .irem, 1), (110, .iaload, 1), (111, .ixor, 1), (112, .invokestatic 119, 3), (115, .iconst 1, 1), (116, .if_icmp .eq 5, 3), (119, .iload_n 2, 1), (120, .ireturn, 1), (121, .iinc 2 1, 3), (124, .goto (-88), 3), (127, .iconst (-1), 1), (128, .ireturn, 1)]
theorem ro_Mod_check : rw_Mod_check.all (fun r => decide (decode prog_13_method_65_code r.1 = .ok r.2)) = true := by decide +kernel
theorem d_Mod_check_0 : decode prog_13_method_65_code 0 = .ok (.aload_n 0, 1) := am_row (r := (0, .aload_n 0, 1)) ro_Mod_check 0 rfl
theorem d_Mod_check_1 : decode prog_13_method_65_code 1 = .ok (.iconst 0, 1) := am_row (r := (1, .iconst 0, 1)) ro_Mod_check 1 rfl
theorem d_Mod_check_2 : decode prog_13_method_65_code 2 = .ok (.putfield 62, 3) := am_row (r := (2, .putfield 62, 3)) ro_Mod_check 2 rfl
theorem d_Mod_check_5 : decode prog_13_method_65_code 5 = .ok (.iload_n 1, 1) := am_row (r := (5, .iload_n 1, 1)) ro_Mod_check 3 rfl
theorem d_Mod_check_6 : decode prog_13_method_65_code 6 = .ok (.iconst 1, 1) := am_row (r := (6, .iconst 1, 1)) ro_Mod_check 4 rfl
theorem d_Mod_check_7 : decode prog_13_method_65_code 7 = .ok (.if_icmp .lt 8, 3) := am_row (r := (7, .if_icmp .lt 8, 3)) ro_Mod_check 5 rfl
theorem d_Mod_check_10 : decode prog_13_method_65_code 10 = .ok (.iload_n 1, 1) := am_row (r := (10, .iload_n 1, 1)) ro_Mod_check 6 rfl
theorem d_Mod_check_11 : decode prog_13_method_65_code 11 = .ok (.iconst 2, 1) := am_row (r := (11, .iconst 2, 1)) ro_Mod_check 7 rfl
theorem d_Mod_check_12 : decode prog_13_method_65_code 12 = .ok (.if_icmp .le 9, 3) := am_row (r := (12, .if_icmp .le 9, 3)) ro_Mod_check 8 rfl
theorem d_Mod_check_15 : decode prog_13_method_65_code 15 = .ok (.aload_n 0, 1) := am_row (r := (15, .aload_n 0, 1)) ro_Mod_check 9 rfl
theorem d_Mod_check_16 : decode prog_13_method_65_code 16 = .ok (.iconst 1, 1) := am_row (r := (16, .iconst 1, 1)) ro_Mod_check 10 rfl
theorem d_Mod_check_17 : decode prog_13_method_65_code 17 = .ok (.invokevirtual 75, 3) := am_row (r := (17, .invokevirtual 75, 3)) ro_Mod_check 11 rfl
theorem d_Mod_check_20 : decode prog_13_method_65_code 20 = .ok (.ireturn, 1) := am_row (r := (20, .ireturn, 1)) ro_Mod_check 12 rfl
theorem d_Mod_check_21 : decode prog_13_method_65_code 21 = .ok (.aload_n 0, 1) := am_row (r := (21, .aload_n 0, 1)) ro_Mod_check 13 rfl
theorem d_Mod_check_22 : decode prog_13_method_65_code 22 = .ok (.getfield 130, 3) := am_row (r := (22, .getfield 130, 3)) ro_Mod_check 14 rfl
theorem d_Mod_check_25 : decode prog_13_method_65_code 25 = .ok (.ifCond .ne 9, 3) := am_row (r := (25, .ifCond .ne 9, 3)) ro_Mod_check 15 rfl
theorem d_Mod_check_28 : decode prog_13_method_65_code 28 = .ok (.aload_n 0, 1) := am_row (r := (28, .aload_n 0, 1)) ro_Mod_check 16 rfl
theorem d_Mod_check_29 : decode prog_13_method_65_code 29 = .ok (.iconst 2, 1) := am_row (r := (29, .iconst 2, 1)) ro_Mod_check 17 rfl
theorem d_Mod_check_30 : decode prog_13_method_65_code 30 = .ok (.invokevirtual 75, 3) := am_row (r := (30, .invokevirtual 75, 3)) ro_Mod_check 18 rfl
theorem d_Mod_check_33 : decode prog_13_method_65_code 33 = .ok (.ireturn, 1) := am_row (r := (33, .ireturn, 1)) ro_Mod_check 19 rfl
theorem d_Mod_check_34 : decode prog_13_method_65_code 34 = .ok (.iconst 0, 1) := am_row (r := (34, .iconst 0, 1)) ro_Mod_check 20 rfl
theorem d_Mod_check_35 : decode prog_13_method_65_code 35 = .ok (.istore_n 2, 1) := am_row (r := (35, .istore_n 2, 1)) ro_Mod_check 21 rfl
theorem d_Mod_check_36 : decode prog_13_method_65_code 36 = .ok (.iload_n 2, 1) := am_row (r := (36, .iload_n 2, 1)) ro_Mod_check 22 rfl
theorem d_Mod_check_37 : decode prog_13_method_65_code 37 = .ok (.aload_n 0, 1) := am_row (r := (37, .aload_n 0, 1)) ro_Mod_check 23 rfl
theorem d_Mod_check_38 : decode prog_13_method_65_code 38 = .ok (.getfield 130, 3) := am_row (r := (38, .getfield 130, 3)) ro_Mod_check 24 rfl
theorem d_Mod_check_41 : decode prog_13_method_65_code 41 = .ok (.if_icmp .ge 86, 3) := am_row (r := (41, .if_icmp .ge 86, 3)) ro_Mod_check 25 rfl
theorem d_Mod_check_44 : decode prog_13_method_65_code 44 = .ok (.iconst 0, 1) := am_row (r := (44, .iconst 0, 1)) ro_Mod_check 26 rfl
theorem d_Mod_check_45 : decode prog_13_method_65_code 45 = .ok (.istore_n 3, 1) := am_row (r := (45, .istore_n 3, 1)) ro_Mod_check 27 rfl
theorem d_Mod_check_46 : decode prog_13_method_65_code 46 = .ok (.iload_n 3, 1) := am_row (r := (46, .iload_n 3, 1)) ro_Mod_check 28 rfl
theorem d_Mod_check_47 : decode prog_13_method_65_code 47 = .ok (.iload_n 2, 1) := am_row (r := (47, .iload_n 2, 1)) ro_Mod_check 29 rfl
theorem d_Mod_check_48 : decode prog_13_method_65_code 48 = .ok (.if_icmp .ge 26, 3) := am_row (r := (48, .if_icmp .ge 26, 3)) ro_Mod_check 30 rfl
theorem d_Mod_check_51 : decode prog_13_method_65_code 51 = .ok (.aload_n 0, 1) := am_row (r := (51, .aload_n 0, 1)) ro_Mod_check 31 rfl
theorem d_Mod_check_52 : decode prog_13_method_65_code 52 = .ok (.getfield 35, 3) := am_row (r := (52, .getfield 35, 3)) ro_Mod_check 32 rfl
theorem d_Mod_check_55 : decode prog_13_method_65_code 55 = .ok (.iload_n 3, 1) := am_row (r := (55, .iload_n 3, 1)) ro_Mod_check 33 rfl
theorem d_Mod_check_56 : decode prog_13_method_65_code 56 = .ok (.iaload, 1) := am_row (r := (56, .iaload, 1)) ro_Mod_check 34 rfl
theorem d_Mod_check_57 : decode prog_13_method_65_code 57 = .ok (.aload_n 0, 1) := am_row (r := (57, .aload_n 0, 1)) ro_Mod_check 35 rfl
theorem d_Mod_check_58 : decode prog_13_method_65_code 58 = .ok (.getfield 35, 3) := am_row (r := (58, .getfield 35, 3)) ro_Mod_check 36 rfl
theorem d_Mod_check_61 : decode prog_13_method_65_code 61 = .ok (.iload_n 2, 1) := am_row (r := (61, .iload_n 2, 1)) ro_Mod_check 37 rfl
theorem d_Mod_check_62 : decode prog_13_method_65_code 62 = .ok (.iaload, 1) := am_row (r := (62, .iaload, 1)) ro_Mod_check 38 rfl
theorem d_Mod_check_63 : decode prog_13_method_65_code 63 = .ok (.if_icmp .ne 5, 3) := am_row (r := (63, .if_icmp .ne 5, 3)) ro_Mod_check 39 rfl
theorem d_Mod_check_66 : decode prog_13_method_65_code 66 = .ok (.iload_n 2, 1) := am_row (r := (66, .iload_n 2, 1)) ro_Mod_check 40 rfl
theorem d_Mod_check_67 : decode prog_13_method_65_code 67 = .ok (.ireturn, 1) := am_row (r := (67, .ireturn, 1)) ro_Mod_check 41 rfl
theorem d_Mod_check_68 : decode prog_13_method_65_code 68 = .ok (.iinc 3 1, 3) := am_row (r := (68, .iinc 3 1, 3)) ro_Mod_check 42 rfl
theorem d_Mod_check_71 : decode prog_13_method_65_code 71 = .ok (.goto (-25), 3) := am_row (r := (71, .goto (-25), 3)) ro_Mod_check 43 rfl
theorem d_Mod_check_74 : decode prog_13_method_65_code 74 = .ok (.iload_n 1, 1) := am_row (r := (74, .iload_n 1, 1)) ro_Mod_check 44 rfl
theorem d_Mod_check_75 : decode prog_13_method_65_code 75 = .ok (.iconst 2, 1) := am_row (r := (75, .iconst 2, 1)) ro_Mod_check 45 rfl
theorem d_Mod_check_76 : decode prog_13_method_65_code 76 = .ok (.if_icmp .ne 45, 3) := am_row (r := (76, .if_icmp .ne 45, 3)) ro_Mod_check 46 rfl
theorem d_Mod_check_79 : decode prog_13_method_65_code 79 = .ok (.aload_n 0, 1) := am_row (r := (79, .aload_n 0, 1)) ro_Mod_check 47 rfl
theorem d_Mod_check_80 : decode prog_13_method_65_code 80 = .ok (.getfield 130, 3) := am_row (r := (80, .getfield 130, 3)) ro_Mod_check 48 rfl
theorem d_Mod_check_83 : decode prog_13_method_65_code 83 = .ok (.iconst 1, 1) := am_row (r := (83, .iconst 1, 1)) ro_Mod_check 49 rfl
theorem d_Mod_check_84 : decode prog_13_method_65_code 84 = .ok (.if_icmp .eq 35, 3) := am_row (r := (84, .if_icmp .eq 35, 3)) ro_Mod_check 50 rfl
theorem d_Mod_check_87 : decode prog_13_method_65_code 87 = .ok (.aload_n 0, 1) := am_row (r := (87, .aload_n 0, 1)) ro_Mod_check 51 rfl
theorem d_Mod_check_88 : decode prog_13_method_65_code 88 = .ok (.getfield 35, 3) := am_row (r := (88, .getfield 35, 3)) ro_Mod_check 52 rfl
theorem d_Mod_check_91 : decode prog_13_method_65_code 91 = .ok (.iload_n 2, 1) := am_row (r := (91, .iload_n 2, 1)) ro_Mod_check 53 rfl
theorem d_Mod_check_92 : decode prog_13_method_65_code 92 = .ok (.iaload, 1) := am_row (r := (92, .iaload, 1)) ro_Mod_check 54 rfl
theorem d_Mod_check_93 : decode prog_13_method_65_code 93 = .ok (.aload_n 0, 1) := am_row (r := (93, .aload_n 0, 1)) ro_Mod_check 55 rfl
theorem d_Mod_check_94 : decode prog_13_method_65_code 94 = .ok (.getfield 35, 3) := am_row (r := (94, .getfield 35, 3)) ro_Mod_check 56 rfl
theorem d_Mod_check_97 : decode prog_13_method_65_code 97 = .ok (.iload_n 2, 1) := am_row (r := (97, .iload_n 2, 1)) ro_Mod_check 57 rfl
theorem d_Mod_check_98 : decode prog_13_method_65_code 98 = .ok (.aload_n 0, 1) := am_row (r := (98, .aload_n 0, 1)) ro_Mod_check 58 rfl
theorem d_Mod_check_99 : decode prog_13_method_65_code 99 = .ok (.getfield 130, 3) := am_row (r := (99, .getfield 130, 3)) ro_Mod_check 59 rfl
theorem d_Mod_check_102 : decode prog_13_method_65_code 102 = .ok (.iadd, 1) := am_row (r := (102, .iadd, 1)) ro_Mod_check 60 rfl
theorem d_Mod_check_103 : decode prog_13_method_65_code 103 = .ok (.iconst 1, 1) := am_row (r := (103, .iconst 1, 1)) ro_Mod_check 61 rfl
theorem d_Mod_check_104 : decode prog_13_method_65_code 104 = .ok (.isub, 1) := am_row (r := (104, .isub, 1)) ro_Mod_check 62 rfl
theorem d_Mod_check_105 : decode prog_13_method_65_code 105 = .ok (.aload_n 0, 1) := am_row (r := (105, .aload_n 0, 1)) ro_Mod_check 63 rfl
theorem d_Mod_check_106 : decode prog_13_method_65_code 106 = .ok (.getfield 130, 3) := am_row (r := (106, .getfield 130, 3)) ro_Mod_check 64 rfl
theorem d_Mod_check_109 : decode prog_13_method_65_code 109 = .ok (.irem, 1) := am_row (r := (109, .irem, 1)) ro_Mod_check 65 rfl
theorem d_Mod_check_110 : decode prog_13_method_65_code 110 = .ok (.iaload, 1) := am_row (r := (110, .iaload, 1)) ro_Mod_check 66 rfl
theorem d_Mod_check_111 : decode prog_13_method_65_code 111 = .ok (.ixor, 1) := am_row (r := (111, .ixor, 1)) ro_Mod_check 67 rfl
theorem d_Mod_check_112 : decode prog_13_method_65_code 112 = .ok (.invokestatic 119, 3) := am_row (r := (112, .invokestatic 119, 3)) ro_Mod_check 68 rfl
theorem d_Mod_check_115 : decode prog_13_method_65_code 115 = .ok (.iconst 1, 1) := am_row (r := (115, .iconst 1, 1)) ro_Mod_check 69 rfl
theorem d_Mod_check_116 : decode prog_13_method_65_code 116 = .ok (.if_icmp .eq 5, 3) := am_row (r := (116, .if_icmp .eq 5, 3)) ro_Mod_check 70 rfl
theorem d_Mod_check_119 : decode prog_13_method_65_code 119 = .ok (.iload_n 2, 1) := am_row (r := (119, .iload_n 2, 1)) ro_Mod_check 71 rfl
theorem d_Mod_check_120 : decode prog_13_method_65_code 120 = .ok (.ireturn, 1) := am_row (r := (120, .ireturn, 1)) ro_Mod_check 72 rfl
theorem d_Mod_check_121 : decode prog_13_method_65_code 121 = .ok (.iinc 2 1, 3) := am_row (r := (121, .iinc 2 1, 3)) ro_Mod_check 73 rfl
theorem d_Mod_check_124 : decode prog_13_method_65_code 124 = .ok (.goto (-88), 3) := am_row (r := (124, .goto (-88), 3)) ro_Mod_check 74 rfl
theorem d_Mod_check_127 : decode prog_13_method_65_code 127 = .ok (.iconst (-1), 1) := am_row (r := (127, .iconst (-1), 1)) ro_Mod_check 75 rfl
theorem d_Mod_check_128 : decode prog_13_method_65_code 128 = .ok (.ireturn, 1) := am_row (r := (128, .ireturn, 1)) ro_Mod_check 76 rfl
abbrev y_Mod_clear : MethodName := ⟨"WheelDiscModel", "clear", "()I"⟩
theorem c_Mod_clear : Cond.code y_Mod_clear prog_13_method_66_code 2 (some .int) ∈ am_T := am_mem 1294 (by decide +kernel) rfl
def rw_Mod_clear : List (Nat × Instr × Nat) := [(0, .aload_n 0, 1), (1, .iconst 0, 1), (2, .putfield 62, 3), (5, .aload_n 0, 1), (6, .getfield 130, 3), (9, .istore_n 1, 1), (10, .aload_n 0, 1), (11, .iconst 0, 1), (12, .putfield 130, 3), (15, .iload_n 1, 1), (16, .ireturn, 1)]
theorem ro_Mod_clear : rw_Mod_clear.all (fun r => decide (decode prog_13_method_66_code r.1 = .ok r.2)) = true := by decide +kernel
theorem d_Mod_clear_0 : decode prog_13_method_66_code 0 = .ok (.aload_n 0, 1) := am_row (r := (0, .aload_n 0, 1)) ro_Mod_clear 0 rfl
theorem d_Mod_clear_1 : decode prog_13_method_66_code 1 = .ok (.iconst 0, 1) := am_row (r := (1, .iconst 0, 1)) ro_Mod_clear 1 rfl
theorem d_Mod_clear_2 : decode prog_13_method_66_code 2 = .ok (.putfield 62, 3) := am_row (r := (2, .putfield 62, 3)) ro_Mod_clear 2 rfl
theorem d_Mod_clear_5 : decode prog_13_method_66_code 5 = .ok (.aload_n 0, 1) := am_row (r := (5, .aload_n 0, 1)) ro_Mod_clear 3 rfl
theorem d_Mod_clear_6 : decode prog_13_method_66_code 6 = .ok (.getfield 130, 3) := am_row (r := (6, .getfield 130, 3)) ro_Mod_clear 4 rfl
theorem d_Mod_clear_9 : decode prog_13_method_66_code 9 = .ok (.istore_n 1, 1) := am_row (r := (9, .istore_n 1, 1)) ro_Mod_clear 5 rfl
theorem d_Mod_clear_10 : decode prog_13_method_66_code 10 = .ok (.aload_n 0, 1) := am_row (r := (10, .aload_n 0, 1)) ro_Mod_clear 6 rfl
theorem d_Mod_clear_11 : decode prog_13_method_66_code 11 = .ok (.iconst 0, 1) := am_row (r := (11, .iconst 0, 1)) ro_Mod_clear 7 rfl
theorem d_Mod_clear_12 : decode prog_13_method_66_code 12 = .ok (.putfield 130, 3) := am_row (r := (12, .putfield 130, 3)) ro_Mod_clear 8 rfl
theorem d_Mod_clear_15 : decode prog_13_method_66_code 15 = .ok (.iload_n 1, 1) := am_row (r := (15, .iload_n 1, 1)) ro_Mod_clear 9 rfl
theorem d_Mod_clear_16 : decode prog_13_method_66_code 16 = .ok (.ireturn, 1) := am_row (r := (16, .ireturn, 1)) ro_Mod_clear 10 rfl
abbrev y_Mod_fault : MethodName := ⟨"WheelDiscModel", "fault", "()I"⟩
theorem c_Mod_fault : Cond.code y_Mod_fault prog_13_method_67_code 1 (some .int) ∈ am_T := am_mem 1298 (by decide +kernel) rfl
def rw_Mod_fault : List (Nat × Instr × Nat) := [(0, .aload_n 0, 1), (1, .getfield 62, 3), (4, .ireturn, 1)]
theorem ro_Mod_fault : rw_Mod_fault.all (fun r => decide (decode prog_13_method_67_code r.1 = .ok r.2)) = true := by decide +kernel
theorem d_Mod_fault_0 : decode prog_13_method_67_code 0 = .ok (.aload_n 0, 1) := am_row (r := (0, .aload_n 0, 1)) ro_Mod_fault 0 rfl
theorem d_Mod_fault_1 : decode prog_13_method_67_code 1 = .ok (.getfield 62, 3) := am_row (r := (1, .getfield 62, 3)) ro_Mod_fault 1 rfl
theorem d_Mod_fault_4 : decode prog_13_method_67_code 4 = .ok (.ireturn, 1) := am_row (r := (4, .ireturn, 1)) ro_Mod_fault 2 rfl
