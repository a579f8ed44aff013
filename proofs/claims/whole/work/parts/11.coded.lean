abbrev y_Search_lightsAtEnd : MethodName := ⟨"WheelDisc$Search", "lightsAtEnd", "(I)I"⟩
theorem c_Search_lightsAtEnd : Cond.code y_Search_lightsAtEnd prog_9_method_8_code 3 (some .int) ∈ am_T := am_mem 789 (by decide +kernel) rfl
def rw_Search_lightsAtEnd : List (Nat × Instr × Nat) := [(0, .iconst 0, 1), (1, .istore_n 2, 1), (2, .iload_n 2, 1), (3, .aload_n 0, 1), (4, .getfield 9, 3), (7, .if_icmp .ge 17, 3), (10, .iload_n 1, 1), (11, .iload_n 2, 1), (12, .ishr, 1), (13, .iconst 1, 1), (14, .iand, 1), (15, .ifCond .eq 9, 3), (18, .iinc 2 1, 3), (21, .goto (-19), 3), (24, .iload_n 2, 1), (25, .ireturn, 1)]
theorem ro_Search_lightsAtEnd : rw_Search_lightsAtEnd.all (fun r => decide (decode prog_9_method_8_code r.1 = .ok r.2)) = true := by decide +kernel
theorem d_Search_lightsAtEnd_0 : decode prog_9_method_8_code 0 = .ok (.iconst 0, 1) := am_row (r := (0, .iconst 0, 1)) ro_Search_lightsAtEnd 0 rfl
theorem d_Search_lightsAtEnd_1 : decode prog_9_method_8_code 1 = .ok (.istore_n 2, 1) := am_row (r := (1, .istore_n 2, 1)) ro_Search_lightsAtEnd 1 rfl
theorem d_Search_lightsAtEnd_2 : decode prog_9_method_8_code 2 = .ok (.iload_n 2, 1) := am_row (r := (2, .iload_n 2, 1)) ro_Search_lightsAtEnd 2 rfl
theorem d_Search_lightsAtEnd_3 : decode prog_9_method_8_code 3 = .ok (.aload_n 0, 1) := am_row (r := (3, .aload_n 0, 1)) ro_Search_lightsAtEnd 3 rfl
theorem d_Search_lightsAtEnd_4 : decode prog_9_method_8_code 4 = .ok (.getfield 9, 3) := am_row (r := (4, .getfield 9, 3)) ro_Search_lightsAtEnd 4 rfl
theorem d_Search_lightsAtEnd_7 : decode prog_9_method_8_code 7 = .ok (.if_icmp .ge 17, 3) := am_row (r := (7, .if_icmp .ge 17, 3)) ro_Search_lightsAtEnd 5 rfl
theorem d_Search_lightsAtEnd_10 : decode prog_9_method_8_code 10 = .ok (.iload_n 1, 1) := am_row (r := (10, .iload_n 1, 1)) ro_Search_lightsAtEnd 6 rfl
theorem d_Search_lightsAtEnd_11 : decode prog_9_method_8_code 11 = .ok (.iload_n 2, 1) := am_row (r := (11, .iload_n 2, 1)) ro_Search_lightsAtEnd 7 rfl
theorem d_Search_lightsAtEnd_12 : decode prog_9_method_8_code 12 = .ok (.ishr, 1) := am_row (r := (12, .ishr, 1)) ro_Search_lightsAtEnd 8 rfl
theorem d_Search_lightsAtEnd_13 : decode prog_9_method_8_code 13 = .ok (.iconst 1, 1) := am_row (r := (13, .iconst 1, 1)) ro_Search_lightsAtEnd 9 rfl
theorem d_Search_lightsAtEnd_14 : decode prog_9_method_8_code 14 = .ok (.iand, 1) := am_row (r := (14, .iand, 1)) ro_Search_lightsAtEnd 10 rfl
theorem d_Search_lightsAtEnd_15 : decode prog_9_method_8_code 15 = .ok (.ifCond .eq 9, 3) := am_row (r := (15, .ifCond .eq 9, 3)) ro_Search_lightsAtEnd 11 rfl
theorem d_Search_lightsAtEnd_18 : decode prog_9_method_8_code 18 = .ok (.iinc 2 1, 3) := am_row (r := (18, .iinc 2 1, 3)) ro_Search_lightsAtEnd 12 rfl
theorem d_Search_lightsAtEnd_21 : decode prog_9_method_8_code 21 = .ok (.goto (-19), 3) := am_row (r := (21, .goto (-19), 3)) ro_Search_lightsAtEnd 13 rfl
theorem d_Search_lightsAtEnd_24 : decode prog_9_method_8_code 24 = .ok (.iload_n 2, 1) := am_row (r := (24, .iload_n 2, 1)) ro_Search_lightsAtEnd 14 rfl
theorem d_Search_lightsAtEnd_25 : decode prog_9_method_8_code 25 = .ok (.ireturn, 1) := am_row (r := (25, .ireturn, 1)) ro_Search_lightsAtEnd 15 rfl
abbrev y_Search_repeated : MethodName := ⟨"WheelDisc$Search", "repeated", "(II)I"⟩
theorem c_Search_repeated : Cond.code y_Search_repeated prog_9_method_9_code 5 (some .int) ∈ am_T := am_mem 793 (by decide +kernel) rfl
def rw_Search_repeated : List (Nat × Instr × Nat) := [(0, .iload_n 1, 1), (1, .istore_n 3, 1), (2, .iload_n 2, 1), (3, .istore 4, 2), (5, .iload 4, 2), (7, .aload_n 0, 1), (8, .getfield 9, 3), (11, .if_icmp .ge 21, 3), (14, .iload_n 3, 1), (15, .iconst 1, 1), (16, .ishl, 1), (17, .iload_n 3, 1), (18, .iload_n 2, 1), (19, .iconst 1, 1), (20, .isub, 1), (21, .ishr, 1), (22, .iconst 1, 1), (23, .iand, 1), (24, .ior, 1), (25, .istore_n 3, 1), (26, .iinc 4 1, 3), (29, .goto (-24), 3), (32, .iload_n 3, 1), (33, .ireturn, 1)]
theorem ro_Search_repeated : rw_Search_repeated.all (fun r => decide (decode prog_9_method_9_code r.1 = .ok r.2)) = true := by decide +kernel
theorem d_Search_repeated_0 : decode prog_9_method_9_code 0 = .ok (.iload_n 1, 1) := am_row (r := (0, .iload_n 1, 1)) ro_Search_repeated 0 rfl
theorem d_Search_repeated_1 : decode prog_9_method_9_code 1 = .ok (.istore_n 3, 1) := am_row (r := (1, .istore_n 3, 1)) ro_Search_repeated 1 rfl
theorem d_Search_repeated_2 : decode prog_9_method_9_code 2 = .ok (.iload_n 2, 1) := am_row (r := (2, .iload_n 2, 1)) ro_Search_repeated 2 rfl
theorem d_Search_repeated_3 : decode prog_9_method_9_code 3 = .ok (.istore 4, 2) := am_row (r := (3, .istore 4, 2)) ro_Search_repeated 3 rfl
theorem d_Search_repeated_5 : decode prog_9_method_9_code 5 = .ok (.iload 4, 2) := am_row (r := (5, .iload 4, 2)) ro_Search_repeated 4 rfl
theorem d_Search_repeated_7 : decode prog_9_method_9_code 7 = .ok (.aload_n 0, 1) := am_row (r := (7, .aload_n 0, 1)) ro_Search_repeated 5 rfl
theorem d_Search_repeated_8 : decode prog_9_method_9_code 8 = .ok (.getfield 9, 3) := am_row (r := (8, .getfield 9, 3)) ro_Search_repeated 6 rfl
theorem d_Search_repeated_11 : decode prog_9_method_9_code 11 = .ok (.if_icmp .ge 21, 3) := am_row (r := (11, .if_icmp .ge 21, 3)) ro_Search_repeated 7 rfl
theorem d_Search_repeated_14 : decode prog_9_method_9_code 14 = .ok (.iload_n 3, 1) := am_row (r := (14, .iload_n 3, 1)) ro_Search_repeated 8 rfl
theorem d_Search_repeated_15 : decode prog_9_method_9_code 15 = .ok (.iconst 1, 1) := am_row (r := (15, .iconst 1, 1)) ro_Search_repeated 9 rfl
theorem d_Search_repeated_16 : decode prog_9_method_9_code 16 = .ok (.ishl, 1) := am_row (r := (16, .ishl, 1)) ro_Search_repeated 10 rfl
theorem d_Search_repeated_17 : decode prog_9_method_9_code 17 = .ok (.iload_n 3, 1) := am_row (r := (17, .iload_n 3, 1)) ro_Search_repeated 11 rfl
theorem d_Search_repeated_18 : decode prog_9_method_9_code 18 = .ok (.iload_n 2, 1) := am_row (r := (18, .iload_n 2, 1)) ro_Search_repeated 12 rfl
theorem d_Search_repeated_19 : decode prog_9_method_9_code 19 = .ok (.iconst 1, 1) := am_row (r := (19, .iconst 1, 1)) ro_Search_repeated 13 rfl
theorem d_Search_repeated_20 : decode prog_9_method_9_code 20 = .ok (.isub, 1) := am_row (r := (20, .isub, 1)) ro_Search_repeated 14 rfl
theorem d_Search_repeated_21 : decode prog_9_method_9_code 21 = .ok (.ishr, 1) := am_row (r := (21, .ishr, 1)) ro_Search_repeated 15 rfl
theorem d_Search_repeated_22 : decode prog_9_method_9_code 22 = .ok (.iconst 1, 1) := am_row (r := (22, .iconst 1, 1)) ro_Search_repeated 16 rfl
theorem d_Search_repeated_23 : decode prog_9_method_9_code 23 = .ok (.iand, 1) := am_row (r := (23, .iand, 1)) ro_Search_repeated 17 rfl
theorem d_Search_repeated_24 : decode prog_9_method_9_code 24 = .ok (.ior, 1) := am_row (r := (24, .ior, 1)) ro_Search_repeated 18 rfl
theorem d_Search_repeated_25 : decode prog_9_method_9_code 25 = .ok (.istore_n 3, 1) := am_row (r := (25, .istore_n 3, 1)) ro_Search_repeated 19 rfl
theorem d_Search_repeated_26 : decode prog_9_method_9_code 26 = .ok (.iinc 4 1, 3) := am_row (r := (26, .iinc 4 1, 3)) ro_Search_repeated 20 rfl
theorem d_Search_repeated_29 : decode prog_9_method_9_code 29 = .ok (.goto (-24), 3) := am_row (r := (29, .goto (-24), 3)) ro_Search_repeated 21 rfl
theorem d_Search_repeated_32 : decode prog_9_method_9_code 32 = .ok (.iload_n 3, 1) := am_row (r := (32, .iload_n 3, 1)) ro_Search_repeated 22 rfl
theorem d_Search_repeated_33 : decode prog_9_method_9_code 33 = .ok (.ireturn, 1) := am_row (r := (33, .ireturn, 1)) ro_Search_repeated 23 rfl
abbrev y_Search_leastTurnedBehind : MethodName := ⟨"WheelDisc$Search", "leastTurnedBehind", "(I)I"⟩
theorem c_Search_leastTurnedBehind : Cond.code y_Search_leastTurnedBehind prog_9_method_7_code 6 (some .int) ∈ am_T := am_mem 785 (by decide +kernel) rfl
def rw_Search_leastTurnedBehind : List (Nat × Instr × Nat) := [(0, .iload_n 1, 1), (1, .istore_n 2, 1), (2, .iconst 0, 1), (3, .istore_n 3, 1), (4, .iload_n 3, 1), (5, .aload_n 0, 1), (6, .getfield 21, 3), (9, .if_icmp .ge 60, 3), (12, .aload_n 0, 1), (13, .iload_n 2, 1), (14, .invokevirtual 60, 3), (17, .istore 4, 2), (19, .aload_n 0, 1), (20, .getfield 9, 3), (23, .iload 4, 2), (25, .isub, 1), (26, .istore 5, 2), (28, .iload 5, 2), (30, .ifCond .gt 8, 3), (33, .aload_n 0, 1), (34, .getfield 21, 3), (37, .ireturn, 1), (38, .aload_n 0, 1), (39, .iload_n 2, 1), (40, .iload 4, 2), (42, .ishr, 1), (43, .iconst 1, 1), (44, .ior, 1), (45, .iload 5, 2), (47, .invokevirtual 63, 3), (50, .istore_n 2, 1), (51, .aload_n 0, 1), (52, .getfield 9, 3), (55, .iload 5, 2), (57, .irem, 1), (58, .ifCond .ne 5, 3), (61, .iload_n 2, 1), (62, .ireturn, 1), (63, .iinc 3 1, 3), (66, .goto (-62), 3), (69, .aload_n 0, 1), (70, .getfield 21, 3), (73, .ireturn, 1)]
theorem ro_Search_leastTurnedBehind : rw_Search_leastTurnedBehind.all (fun r => decide (decode prog_9_method_7_code r.1 = .ok r.2)) = true := by decide +kernel
theorem d_Search_leastTurnedBehind_0 : decode prog_9_method_7_code 0 = .ok (.iload_n 1, 1) := am_row (r := (0, .iload_n 1, 1)) ro_Search_leastTurnedBehind 0 rfl
theorem d_Search_leastTurnedBehind_1 : decode prog_9_method_7_code 1 = .ok (.istore_n 2, 1) := am_row (r := (1, .istore_n 2, 1)) ro_Search_leastTurnedBehind 1 rfl
theorem d_Search_leastTurnedBehind_2 : decode prog_9_method_7_code 2 = .ok (.iconst 0, 1) := am_row (r := (2, .iconst 0, 1)) ro_Search_leastTurnedBehind 2 rfl
theorem d_Search_leastTurnedBehind_3 : decode prog_9_method_7_code 3 = .ok (.istore_n 3, 1) := am_row (r := (3, .istore_n 3, 1)) ro_Search_leastTurnedBehind 3 rfl
theorem d_Search_leastTurnedBehind_4 : decode prog_9_method_7_code 4 = .ok (.iload_n 3, 1) := am_row (r := (4, .iload_n 3, 1)) ro_Search_leastTurnedBehind 4 rfl
theorem d_Search_leastTurnedBehind_5 : decode prog_9_method_7_code 5 = .ok (.aload_n 0, 1) := am_row (r := (5, .aload_n 0, 1)) ro_Search_leastTurnedBehind 5 rfl
theorem d_Search_leastTurnedBehind_6 : decode prog_9_method_7_code 6 = .ok (.getfield 21, 3) := am_row (r := (6, .getfield 21, 3)) ro_Search_leastTurnedBehind 6 rfl
theorem d_Search_leastTurnedBehind_9 : decode prog_9_method_7_code 9 = .ok (.if_icmp .ge 60, 3) := am_row (r := (9, .if_icmp .ge 60, 3)) ro_Search_leastTurnedBehind 7 rfl
theorem d_Search_leastTurnedBehind_12 : decode prog_9_method_7_code 12 = .ok (.aload_n 0, 1) := am_row (r := (12, .aload_n 0, 1)) ro_Search_leastTurnedBehind 8 rfl
theorem d_Search_leastTurnedBehind_13 : decode prog_9_method_7_code 13 = .ok (.iload_n 2, 1) := am_row (r := (13, .iload_n 2, 1)) ro_Search_leastTurnedBehind 9 rfl
theorem d_Search_leastTurnedBehind_14 : decode prog_9_method_7_code 14 = .ok (.invokevirtual 60, 3) := am_row (r := (14, .invokevirtual 60, 3)) ro_Search_leastTurnedBehind 10 rfl
theorem d_Search_leastTurnedBehind_17 : decode prog_9_method_7_code 17 = .ok (.istore 4, 2) := am_row (r := (17, .istore 4, 2)) ro_Search_leastTurnedBehind 11 rfl
theorem d_Search_leastTurnedBehind_19 : decode prog_9_method_7_code 19 = .ok (.aload_n 0, 1) := am_row (r := (19, .aload_n 0, 1)) ro_Search_leastTurnedBehind 12 rfl
theorem d_Search_leastTurnedBehind_20 : decode prog_9_method_7_code 20 = .ok (.getfield 9, 3) := am_row (r := (20, .getfield 9, 3)) ro_Search_leastTurnedBehind 13 rfl
theorem d_Search_leastTurnedBehind_23 : decode prog_9_method_7_code 23 = .ok (.iload 4, 2) := am_row (r := (23, .iload 4, 2)) ro_Search_leastTurnedBehind 14 rfl
theorem d_Search_leastTurnedBehind_25 : decode prog_9_method_7_code 25 = .ok (.isub, 1) := am_row (r := (25, .isub, 1)) ro_Search_leastTurnedBehind 15 rfl
theorem d_Search_leastTurnedBehind_26 : decode prog_9_method_7_code 26 = .ok (.istore 5, 2) := am_row (r := (26, .istore 5, 2)) ro_Search_leastTurnedBehind 16 rfl
theorem d_Search_leastTurnedBehind_28 : decode prog_9_method_7_code 28 = .ok (.iload 5, 2) := am_row (r := (28, .iload 5, 2)) ro_Search_leastTurnedBehind 17 rfl
theorem d_Search_leastTurnedBehind_30 : decode prog_9_method_7_code 30 = .ok (.ifCond .gt 8, 3) := am_row (r := (30, .ifCond .gt 8, 3)) ro_Search_leastTurnedBehind 18 rfl
theorem d_Search_leastTurnedBehind_33 : decode prog_9_method_7_code 33 = .ok (.aload_n 0, 1) := am_row (r := (33, .aload_n 0, 1)) ro_Search_leastTurnedBehind 19 rfl
theorem d_Search_leastTurnedBehind_34 : decode prog_9_method_7_code 34 = .ok (.getfield 21, 3) := am_row (r := (34, .getfield 21, 3)) ro_Search_leastTurnedBehind 20 rfl
theorem d_Search_leastTurnedBehind_37 : decode prog_9_method_7_code 37 = .ok (.ireturn, 1) := am_row (r := (37, .ireturn, 1)) ro_Search_leastTurnedBehind 21 rfl
theorem d_Search_leastTurnedBehind_38 : decode prog_9_method_7_code 38 = .ok (.aload_n 0, 1) := am_row (r := (38, .aload_n 0, 1)) ro_Search_leastTurnedBehind 22 rfl
theorem d_Search_leastTurnedBehind_39 : decode prog_9_method_7_code 39 = .ok (.iload_n 2, 1) := am_row (r := (39, .iload_n 2, 1)) ro_Search_leastTurnedBehind 23 rfl
theorem d_Search_leastTurnedBehind_40 : decode prog_9_method_7_code 40 = .ok (.iload 4, 2) := am_row (r := (40, .iload 4, 2)) ro_Search_leastTurnedBehind 24 rfl
theorem d_Search_leastTurnedBehind_42 : decode prog_9_method_7_code 42 = .ok (.ishr, 1) := am_row (r := (42, .ishr, 1)) ro_Search_leastTurnedBehind 25 rfl
theorem d_Search_leastTurnedBehind_43 : decode prog_9_method_7_code 43 = .ok (.iconst 1, 1) := am_row (r := (43, .iconst 1, 1)) ro_Search_leastTurnedBehind 26 rfl
theorem d_Search_leastTurnedBehind_44 : decode prog_9_method_7_code 44 = .ok (.ior, 1) := am_row (r := (44, .ior, 1)) ro_Search_leastTurnedBehind 27 rfl
theorem d_Search_leastTurnedBehind_45 : decode prog_9_method_7_code 45 = .ok (.iload 5, 2) := am_row (r := (45, .iload 5, 2)) ro_Search_leastTurnedBehind 28 rfl
theorem d_Search_leastTurnedBehind_47 : decode prog_9_method_7_code 47 = .ok (.invokevirtual 63, 3) := am_row (r := (47, .invokevirtual 63, 3)) ro_Search_leastTurnedBehind 29 rfl
theorem d_Search_leastTurnedBehind_50 : decode prog_9_method_7_code 50 = .ok (.istore_n 2, 1) := am_row (r := (50, .istore_n 2, 1)) ro_Search_leastTurnedBehind 30 rfl
theorem d_Search_leastTurnedBehind_51 : decode prog_9_method_7_code 51 = .ok (.aload_n 0, 1) := am_row (r := (51, .aload_n 0, 1)) ro_Search_leastTurnedBehind 31 rfl
theorem d_Search_leastTurnedBehind_52 : decode prog_9_method_7_code 52 = .ok (.getfield 9, 3) := am_row (r := (52, .getfield 9, 3)) ro_Search_leastTurnedBehind 32 rfl
theorem d_Search_leastTurnedBehind_55 : decode prog_9_method_7_code 55 = .ok (.iload 5, 2) := am_row (r := (55, .iload 5, 2)) ro_Search_leastTurnedBehind 33 rfl
theorem d_Search_leastTurnedBehind_57 : decode prog_9_method_7_code 57 = .ok (.irem, 1) := am_row (r := (57, .irem, 1)) ro_Search_leastTurnedBehind 34 rfl
theorem d_Search_leastTurnedBehind_58 : decode prog_9_method_7_code 58 = .ok (.ifCond .ne 5, 3) := am_row (r := (58, .ifCond .ne 5, 3)) ro_Search_leastTurnedBehind 35 rfl
theorem d_Search_leastTurnedBehind_61 : decode prog_9_method_7_code 61 = .ok (.iload_n 2, 1) := am_row (r := (61, .iload_n 2, 1)) ro_Search_leastTurnedBehind 36 rfl
theorem d_Search_leastTurnedBehind_62 : decode prog_9_method_7_code 62 = .ok (.ireturn, 1) := am_row (r := (62, .ireturn, 1)) ro_Search_leastTurnedBehind 37 rfl
theorem d_Search_leastTurnedBehind_63 : decode prog_9_method_7_code 63 = .ok (.iinc 3 1, 3) := am_row (r := (63, .iinc 3 1, 3)) ro_Search_leastTurnedBehind 38 rfl
theorem d_Search_leastTurnedBehind_66 : decode prog_9_method_7_code 66 = .ok (.goto (-62), 3) := am_row (r := (66, .goto (-62), 3)) ro_Search_leastTurnedBehind 39 rfl
theorem d_Search_leastTurnedBehind_69 : decode prog_9_method_7_code 69 = .ok (.aload_n 0, 1) := am_row (r := (69, .aload_n 0, 1)) ro_Search_leastTurnedBehind 40 rfl
theorem d_Search_leastTurnedBehind_70 : decode prog_9_method_7_code 70 = .ok (.getfield 21, 3) := am_row (r := (70, .getfield 21, 3)) ro_Search_leastTurnedBehind 41 rfl
theorem d_Search_leastTurnedBehind_73 : decode prog_9_method_7_code 73 = .ok (.ireturn, 1) := am_row (r := (73, .ireturn, 1)) ro_Search_leastTurnedBehind 42 rfl
abbrev y_Search_lightOf : MethodName := ⟨"WheelDisc$Search", "lightOf", "(II)Z"⟩
theorem c_Search_lightOf : Cond.code y_Search_lightOf prog_9_method_12_code 3 (some .boolean) ∈ am_T := am_mem 805 (by decide +kernel) rfl
def rw_Search_lightOf : List (Nat × Instr × Nat) := [(0, .iload_n 1, 1), (1, .aload_n 0, 1), (2, .getfield 9, 3), (5, .iconst 1, 1), (6, .isub, 1), (7, .iload_n 2, 1), (8, .isub, 1), (9, .ishr, 1), (10, .iconst 1, 1), (11, .iand, 1), (12, .ifCond .eq 7, 3), (15, .iconst 1, 1), (16, .goto 4, 3), (19, .iconst 0, 1), (20, .ireturn, 1)]
theorem ro_Search_lightOf : rw_Search_lightOf.all (fun r => decide (decode prog_9_method_12_code r.1 = .ok r.2)) = true := by decide +kernel
theorem d_Search_lightOf_0 : decode prog_9_method_12_code 0 = .ok (.iload_n 1, 1) := am_row (r := (0, .iload_n 1, 1)) ro_Search_lightOf 0 rfl
theorem d_Search_lightOf_1 : decode prog_9_method_12_code 1 = .ok (.aload_n 0, 1) := am_row (r := (1, .aload_n 0, 1)) ro_Search_lightOf 1 rfl
theorem d_Search_lightOf_2 : decode prog_9_method_12_code 2 = .ok (.getfield 9, 3) := am_row (r := (2, .getfield 9, 3)) ro_Search_lightOf 2 rfl
theorem d_Search_lightOf_5 : decode prog_9_method_12_code 5 = .ok (.iconst 1, 1) := am_row (r := (5, .iconst 1, 1)) ro_Search_lightOf 3 rfl
theorem d_Search_lightOf_6 : decode prog_9_method_12_code 6 = .ok (.isub, 1) := am_row (r := (6, .isub, 1)) ro_Search_lightOf 4 rfl
theorem d_Search_lightOf_7 : decode prog_9_method_12_code 7 = .ok (.iload_n 2, 1) := am_row (r := (7, .iload_n 2, 1)) ro_Search_lightOf 5 rfl
theorem d_Search_lightOf_8 : decode prog_9_method_12_code 8 = .ok (.isub, 1) := am_row (r := (8, .isub, 1)) ro_Search_lightOf 6 rfl
theorem d_Search_lightOf_9 : decode prog_9_method_12_code 9 = .ok (.ishr, 1) := am_row (r := (9, .ishr, 1)) ro_Search_lightOf 7 rfl
theorem d_Search_lightOf_10 : decode prog_9_method_12_code 10 = .ok (.iconst 1, 1) := am_row (r := (10, .iconst 1, 1)) ro_Search_lightOf 8 rfl
theorem d_Search_lightOf_11 : decode prog_9_method_12_code 11 = .ok (.iand, 1) := am_row (r := (11, .iand, 1)) ro_Search_lightOf 9 rfl
theorem d_Search_lightOf_12 : decode prog_9_method_12_code 12 = .ok (.ifCond .eq 7, 3) := am_row (r := (12, .ifCond .eq 7, 3)) ro_Search_lightOf 10 rfl
theorem d_Search_lightOf_15 : decode prog_9_method_12_code 15 = .ok (.iconst 1, 1) := am_row (r := (15, .iconst 1, 1)) ro_Search_lightOf 11 rfl
theorem d_Search_lightOf_16 : decode prog_9_method_12_code 16 = .ok (.goto 4, 3) := am_row (r := (16, .goto 4, 3)) ro_Search_lightOf 12 rfl
theorem d_Search_lightOf_19 : decode prog_9_method_12_code 19 = .ok (.iconst 0, 1) := am_row (r := (19, .iconst 0, 1)) ro_Search_lightOf 13 rfl
theorem d_Search_lightOf_20 : decode prog_9_method_12_code 20 = .ok (.ireturn, 1) := am_row (r := (20, .ireturn, 1)) ro_Search_lightOf 14 rfl
abbrev y_Search_wordOf : MethodName := ⟨"WheelDisc$Search", "wordOf", "(II)I"⟩
theorem c_Search_wordOf : Cond.code y_Search_wordOf prog_9_method_11_code 6 (some .int) ∈ am_T := am_mem 801 (by decide +kernel) rfl
def rw_Search_wordOf : List (Nat × Instr × Nat) := [(0, .iconst 0, 1), (1, .istore_n 3, 1), (2, .iload_n 2, 1), (3, .istore 4, 2), (5, .iconst 0, 1), (6, .istore 5, 2), (8, .iload 5, 2), (10, .aload_n 0, 1), (11, .getfield 15, 3), (14, .if_icmp .ge 56, 3), (17, .iload_n 3, 1), (18, .iconst 1, 1), (19, .ishl, 1), (20, .aload_n 0, 1), (21, .iload_n 1, 1), (22, .iload 4, 2), (24, .invokevirtual 74, 3), (27, .ifCond .eq 7, 3), (30, .iconst 1, 1), (31, .goto 4, 3), (34, .iconst 0, 1), (35, .ior, 1), (36, .istore_n 3, 1), (37, .iload 4, 2), (39, .aload_n 0, 1), (40, .getfield 18, 3), (43, .iadd, 1), (44, .istore 4, 2), (46, .iload 4, 2), (48, .aload_n 0, 1), (49, .getfield 9, 3), (52, .if_icmp .lt 12, 3), (55, .iload 4, 2), (57, .aload_n 0, 1), (58, .getfield 9, 3), (61, .isub, 1), (62, .istore 4, 2), (64, .iinc 5 1, 3), (67, .goto (-59), 3), (70, .iload_n 3, 1), (71, .ireturn, 1)]
theorem ro_Search_wordOf : rw_Search_wordOf.all (fun r => decide (decode prog_9_method_11_code r.1 = .ok r.2)) = true := by decide +kernel
theorem d_Search_wordOf_0 : decode prog_9_method_11_code 0 = .ok (.iconst 0, 1) := am_row (r := (0, .iconst 0, 1)) ro_Search_wordOf 0 rfl
theorem d_Search_wordOf_1 : decode prog_9_method_11_code 1 = .ok (.istore_n 3, 1) := am_row (r := (1, .istore_n 3, 1)) ro_Search_wordOf 1 rfl
theorem d_Search_wordOf_2 : decode prog_9_method_11_code 2 = .ok (.iload_n 2, 1) := am_row (r := (2, .iload_n 2, 1)) ro_Search_wordOf 2 rfl
theorem d_Search_wordOf_3 : decode prog_9_method_11_code 3 = .ok (.istore 4, 2) := am_row (r := (3, .istore 4, 2)) ro_Search_wordOf 3 rfl
theorem d_Search_wordOf_5 : decode prog_9_method_11_code 5 = .ok (.iconst 0, 1) := am_row (r := (5, .iconst 0, 1)) ro_Search_wordOf 4 rfl
theorem d_Search_wordOf_6 : decode prog_9_method_11_code 6 = .ok (.istore 5, 2) := am_row (r := (6, .istore 5, 2)) ro_Search_wordOf 5 rfl
theorem d_Search_wordOf_8 : decode prog_9_method_11_code 8 = .ok (.iload 5, 2) := am_row (r := (8, .iload 5, 2)) ro_Search_wordOf 6 rfl
theorem d_Search_wordOf_10 : decode prog_9_method_11_code 10 = .ok (.aload_n 0, 1) := am_row (r := (10, .aload_n 0, 1)) ro_Search_wordOf 7 rfl
theorem d_Search_wordOf_11 : decode prog_9_method_11_code 11 = .ok (.getfield 15, 3) := am_row (r := (11, .getfield 15, 3)) ro_Search_wordOf 8 rfl
theorem d_Search_wordOf_14 : decode prog_9_method_11_code 14 = .ok (.if_icmp .ge 56, 3) := am_row (r := (14, .if_icmp .ge 56, 3)) ro_Search_wordOf 9 rfl
theorem d_Search_wordOf_17 : decode prog_9_method_11_code 17 = .ok (.iload_n 3, 1) := am_row (r := (17, .iload_n 3, 1)) ro_Search_wordOf 10 rfl
theorem d_Search_wordOf_18 : decode prog_9_method_11_code 18 = .ok (.iconst 1, 1) := am_row (r := (18, .iconst 1, 1)) ro_Search_wordOf 11 rfl
theorem d_Search_wordOf_19 : decode prog_9_method_11_code 19 = .ok (.ishl, 1) := am_row (r := (19, .ishl, 1)) ro_Search_wordOf 12 rfl
theorem d_Search_wordOf_20 : decode prog_9_method_11_code 20 = .ok (.aload_n 0, 1) := am_row (r := (20, .aload_n 0, 1)) ro_Search_wordOf 13 rfl
theorem d_Search_wordOf_21 : decode prog_9_method_11_code 21 = .ok (.iload_n 1, 1) := am_row (r := (21, .iload_n 1, 1)) ro_Search_wordOf 14 rfl
theorem d_Search_wordOf_22 : decode prog_9_method_11_code 22 = .ok (.iload 4, 2) := am_row (r := (22, .iload 4, 2)) ro_Search_wordOf 15 rfl
theorem d_Search_wordOf_24 : decode prog_9_method_11_code 24 = .ok (.invokevirtual 74, 3) := am_row (r := (24, .invokevirtual 74, 3)) ro_Search_wordOf 16 rfl
theorem d_Search_wordOf_27 : decode prog_9_method_11_code 27 = .ok (.ifCond .eq 7, 3) := am_row (r := (27, .ifCond .eq 7, 3)) ro_Search_wordOf 17 rfl
theorem d_Search_wordOf_30 : decode prog_9_method_11_code 30 = .ok (.iconst 1, 1) := am_row (r := (30, .iconst 1, 1)) ro_Search_wordOf 18 rfl
theorem d_Search_wordOf_31 : decode prog_9_method_11_code 31 = .ok (.goto 4, 3) := am_row (r := (31, .goto 4, 3)) ro_Search_wordOf 19 rfl
theorem d_Search_wordOf_34 : decode prog_9_method_11_code 34 = .ok (.iconst 0, 1) := am_row (r := (34, .iconst 0, 1)) ro_Search_wordOf 20 rfl
theorem d_Search_wordOf_35 : decode prog_9_method_11_code 35 = .ok (.ior, 1) := am_row (r := (35, .ior, 1)) ro_Search_wordOf 21 rfl
theorem d_Search_wordOf_36 : decode prog_9_method_11_code 36 = .ok (.istore_n 3, 1) := am_row (r := (36, .istore_n 3, 1)) ro_Search_wordOf 22 rfl
theorem d_Search_wordOf_37 : decode prog_9_method_11_code 37 = .ok (.iload 4, 2) := am_row (r := (37, .iload 4, 2)) ro_Search_wordOf 23 rfl
theorem d_Search_wordOf_39 : decode prog_9_method_11_code 39 = .ok (.aload_n 0, 1) := am_row (r := (39, .aload_n 0, 1)) ro_Search_wordOf 24 rfl
theorem d_Search_wordOf_40 : decode prog_9_method_11_code 40 = .ok (.getfield 18, 3) := am_row (r := (40, .getfield 18, 3)) ro_Search_wordOf 25 rfl
theorem d_Search_wordOf_43 : decode prog_9_method_11_code 43 = .ok (.iadd, 1) := am_row (r := (43, .iadd, 1)) ro_Search_wordOf 26 rfl
theorem d_Search_wordOf_44 : decode prog_9_method_11_code 44 = .ok (.istore 4, 2) := am_row (r := (44, .istore 4, 2)) ro_Search_wordOf 27 rfl
theorem d_Search_wordOf_46 : decode prog_9_method_11_code 46 = .ok (.iload 4, 2) := am_row (r := (46, .iload 4, 2)) ro_Search_wordOf 28 rfl
theorem d_Search_wordOf_48 : decode prog_9_method_11_code 48 = .ok (.aload_n 0, 1) := am_row (r := (48, .aload_n 0, 1)) ro_Search_wordOf 29 rfl
theorem d_Search_wordOf_49 : decode prog_9_method_11_code 49 = .ok (.getfield 9, 3) := am_row (r := (49, .getfield 9, 3)) ro_Search_wordOf 30 rfl
theorem d_Search_wordOf_52 : decode prog_9_method_11_code 52 = .ok (.if_icmp .lt 12, 3) := am_row (r := (52, .if_icmp .lt 12, 3)) ro_Search_wordOf 31 rfl
theorem d_Search_wordOf_55 : decode prog_9_method_11_code 55 = .ok (.iload 4, 2) := am_row (r := (55, .iload 4, 2)) ro_Search_wordOf 32 rfl
theorem d_Search_wordOf_57 : decode prog_9_method_11_code 57 = .ok (.aload_n 0, 1) := am_row (r := (57, .aload_n 0, 1)) ro_Search_wordOf 33 rfl
theorem d_Search_wordOf_58 : decode prog_9_method_11_code 58 = .ok (.getfield 9, 3) := am_row (r := (58, .getfield 9, 3)) ro_Search_wordOf 34 rfl
theorem d_Search_wordOf_61 : decode prog_9_method_11_code 61 = .ok (.isub, 1) := am_row (r := (61, .isub, 1)) ro_Search_wordOf 35 rfl
theorem d_Search_wordOf_62 : decode prog_9_method_11_code 62 = .ok (.istore 4, 2) := am_row (r := (62, .istore 4, 2)) ro_Search_wordOf 36 rfl
theorem d_Search_wordOf_64 : decode prog_9_method_11_code 64 = .ok (.iinc 5 1, 3) := am_row (r := (64, .iinc 5 1, 3)) ro_Search_wordOf 37 rfl
theorem d_Search_wordOf_67 : decode prog_9_method_11_code 67 = .ok (.goto (-59), 3) := am_row (r := (67, .goto (-59), 3)) ro_Search_wordOf 38 rfl
theorem d_Search_wordOf_70 : decode prog_9_method_11_code 70 = .ok (.iload_n 3, 1) := am_row (r := (70, .iload_n 3, 1)) ro_Search_wordOf 39 rfl
theorem d_Search_wordOf_71 : decode prog_9_method_11_code 71 = .ok (.ireturn, 1) := am_row (r := (71, .ireturn, 1)) ro_Search_wordOf 40 rfl
abbrev y_Search_isSingle : MethodName := ⟨"WheelDisc$Search", "isSingle", "(I)Z"⟩
theorem c_Search_isSingle : Cond.code y_Search_isSingle prog_9_method_10_code 6 (some .boolean) ∈ am_T := am_mem 797 (by decide +kernel) rfl
def rw_Search_isSingle : List (Nat × Instr × Nat) := [(0, .iconst 0, 1), (1, .istore_n 2, 1), (2, .aload_n 0, 1), (3, .iload_n 1, 1), (4, .aload_n 0, 1), (5, .getfield 9, 3), (8, .iconst 1, 1), (9, .isub, 1), (10, .invokevirtual 66, 3), (13, .istore_n 3, 1), (14, .iconst 0, 1), (15, .istore 4, 2), (17, .iload 4, 2), (19, .aload_n 0, 1), (20, .getfield 9, 3), (23, .if_icmp .ge 50, 3), (26, .aload_n 0, 1), (27, .iload_n 1, 1), (28, .iload 4, 2), (30, .invokevirtual 66, 3), (33, .istore 5, 2), (35, .iload_n 2, 1), (36, .iload 5, 2), (38, .ishr, 1), (39, .iconst 1, 1), (40, .iand, 1), (41, .ifCond .ne 14, 3), (44, .iload 5, 2), (46, .iload_n 3, 1), (47, .ixor, 1), (48, .invokestatic 69, 3), (51, .iconst 1, 1), (52, .if_icmp .eq 5, 3), (55, .iconst 0, 1), (56, .ireturn, 1), (57, .iload_n 2, 1), (58, .iconst 1, 1), (59, .iload 5, 2), (61, .ishl, 1), (62, .ior, 1), (63, .istore_n 2, 1), (64, .iload 5, 2), (66, .istore_n 3, 1), (67, .iinc 4 1, 3), (70, .goto (-53), 3), (73, .iconst 1, 1), (74, .ireturn, 1)]
theorem ro_Search_isSingle : rw_Search_isSingle.all (fun r => decide (decode prog_9_method_10_code r.1 = .ok r.2)) = true := by decide +kernel
theorem d_Search_isSingle_0 : decode prog_9_method_10_code 0 = .ok (.iconst 0, 1) := am_row (r := (0, .iconst 0, 1)) ro_Search_isSingle 0 rfl
theorem d_Search_isSingle_1 : decode prog_9_method_10_code 1 = .ok (.istore_n 2, 1) := am_row (r := (1, .istore_n 2, 1)) ro_Search_isSingle 1 rfl
theorem d_Search_isSingle_2 : decode prog_9_method_10_code 2 = .ok (.aload_n 0, 1) := am_row (r := (2, .aload_n 0, 1)) ro_Search_isSingle 2 rfl
theorem d_Search_isSingle_3 : decode prog_9_method_10_code 3 = .ok (.iload_n 1, 1) := am_row (r := (3, .iload_n 1, 1)) ro_Search_isSingle 3 rfl
theorem d_Search_isSingle_4 : decode prog_9_method_10_code 4 = .ok (.aload_n 0, 1) := am_row (r := (4, .aload_n 0, 1)) ro_Search_isSingle 4 rfl
theorem d_Search_isSingle_5 : decode prog_9_method_10_code 5 = .ok (.getfield 9, 3) := am_row (r := (5, .getfield 9, 3)) ro_Search_isSingle 5 rfl
theorem d_Search_isSingle_8 : decode prog_9_method_10_code 8 = .ok (.iconst 1, 1) := am_row (r := (8, .iconst 1, 1)) ro_Search_isSingle 6 rfl
theorem d_Search_isSingle_9 : decode prog_9_method_10_code 9 = .ok (.isub, 1) := am_row (r := (9, .isub, 1)) ro_Search_isSingle 7 rfl
theorem d_Search_isSingle_10 : decode prog_9_method_10_code 10 = .ok (.invokevirtual 66, 3) := am_row (r := (10, .invokevirtual 66, 3)) ro_Search_isSingle 8 rfl
theorem d_Search_isSingle_13 : decode prog_9_method_10_code 13 = .ok (.istore_n 3, 1) := am_row (r := (13, .istore_n 3, 1)) ro_Search_isSingle 9 rfl
theorem d_Search_isSingle_14 : decode prog_9_method_10_code 14 = .ok (.iconst 0, 1) := am_row (r := (14, .iconst 0, 1)) ro_Search_isSingle 10 rfl
theorem d_Search_isSingle_15 : decode prog_9_method_10_code 15 = .ok (.istore 4, 2) := am_row (r := (15, .istore 4, 2)) ro_Search_isSingle 11 rfl
theorem d_Search_isSingle_17 : decode prog_9_method_10_code 17 = .ok (.iload 4, 2) := am_row (r := (17, .iload 4, 2)) ro_Search_isSingle 12 rfl
theorem d_Search_isSingle_19 : decode prog_9_method_10_code 19 = .ok (.aload_n 0, 1) := am_row (r := (19, .aload_n 0, 1)) ro_Search_isSingle 13 rfl
theorem d_Search_isSingle_20 : decode prog_9_method_10_code 20 = .ok (.getfield 9, 3) := am_row (r := (20, .getfield 9, 3)) ro_Search_isSingle 14 rfl
theorem d_Search_isSingle_23 : decode prog_9_method_10_code 23 = .ok (.if_icmp .ge 50, 3) := am_row (r := (23, .if_icmp .ge 50, 3)) ro_Search_isSingle 15 rfl
theorem d_Search_isSingle_26 : decode prog_9_method_10_code 26 = .ok (.aload_n 0, 1) := am_row (r := (26, .aload_n 0, 1)) ro_Search_isSingle 16 rfl
theorem d_Search_isSingle_27 : decode prog_9_method_10_code 27 = .ok (.iload_n 1, 1) := am_row (r := (27, .iload_n 1, 1)) ro_Search_isSingle 17 rfl
theorem d_Search_isSingle_28 : decode prog_9_method_10_code 28 = .ok (.iload 4, 2) := am_row (r := (28, .iload 4, 2)) ro_Search_isSingle 18 rfl
theorem d_Search_isSingle_30 : decode prog_9_method_10_code 30 = .ok (.invokevirtual 66, 3) := am_row (r := (30, .invokevirtual 66, 3)) ro_Search_isSingle 19 rfl
theorem d_Search_isSingle_33 : decode prog_9_method_10_code 33 = .ok (.istore 5, 2) := am_row (r := (33, .istore 5, 2)) ro_Search_isSingle 20 rfl
theorem d_Search_isSingle_35 : decode prog_9_method_10_code 35 = .ok (.iload_n 2, 1) := am_row (r := (35, .iload_n 2, 1)) ro_Search_isSingle 21 rfl
theorem d_Search_isSingle_36 : decode prog_9_method_10_code 36 = .ok (.iload 5, 2) := am_row (r := (36, .iload 5, 2)) ro_Search_isSingle 22 rfl
theorem d_Search_isSingle_38 : decode prog_9_method_10_code 38 = .ok (.ishr, 1) := am_row (r := (38, .ishr, 1)) ro_Search_isSingle 23 rfl
theorem d_Search_isSingle_39 : decode prog_9_method_10_code 39 = .ok (.iconst 1, 1) := am_row (r := (39, .iconst 1, 1)) ro_Search_isSingle 24 rfl
theorem d_Search_isSingle_40 : decode prog_9_method_10_code 40 = .ok (.iand, 1) := am_row (r := (40, .iand, 1)) ro_Search_isSingle 25 rfl
theorem d_Search_isSingle_41 : decode prog_9_method_10_code 41 = .ok (.ifCond .ne 14, 3) := am_row (r := (41, .ifCond .ne 14, 3)) ro_Search_isSingle 26 rfl
theorem d_Search_isSingle_44 : decode prog_9_method_10_code 44 = .ok (.iload 5, 2) := am_row (r := (44, .iload 5, 2)) ro_Search_isSingle 27 rfl
theorem d_Search_isSingle_46 : decode prog_9_method_10_code 46 = .ok (.iload_n 3, 1) := am_row (r := (46, .iload_n 3, 1)) ro_Search_isSingle 28 rfl
theorem d_Search_isSingle_47 : decode prog_9_method_10_code 47 = .ok (.ixor, 1) := am_row (r := (47, .ixor, 1)) ro_Search_isSingle 29 rfl
theorem d_Search_isSingle_48 : decode prog_9_method_10_code 48 = .ok (.invokestatic 69, 3) := am_row (r := (48, .invokestatic 69, 3)) ro_Search_isSingle 30 rfl
theorem d_Search_isSingle_51 : decode prog_9_method_10_code 51 = .ok (.iconst 1, 1) := am_row (r := (51, .iconst 1, 1)) ro_Search_isSingle 31 rfl
theorem d_Search_isSingle_52 : decode prog_9_method_10_code 52 = .ok (.if_icmp .eq 5, 3) := am_row (r := (52, .if_icmp .eq 5, 3)) ro_Search_isSingle 32 rfl
theorem d_Search_isSingle_55 : decode prog_9_method_10_code 55 = .ok (.iconst 0, 1) := am_row (r := (55, .iconst 0, 1)) ro_Search_isSingle 33 rfl
theorem d_Search_isSingle_56 : decode prog_9_method_10_code 56 = .ok (.ireturn, 1) := am_row (r := (56, .ireturn, 1)) ro_Search_isSingle 34 rfl
theorem d_Search_isSingle_57 : decode prog_9_method_10_code 57 = .ok (.iload_n 2, 1) := am_row (r := (57, .iload_n 2, 1)) ro_Search_isSingle 35 rfl
theorem d_Search_isSingle_58 : decode prog_9_method_10_code 58 = .ok (.iconst 1, 1) := am_row (r := (58, .iconst 1, 1)) ro_Search_isSingle 36 rfl
theorem d_Search_isSingle_59 : decode prog_9_method_10_code 59 = .ok (.iload 5, 2) := am_row (r := (59, .iload 5, 2)) ro_Search_isSingle 37 rfl
theorem d_Search_isSingle_61 : decode prog_9_method_10_code 61 = .ok (.ishl, 1) := am_row (r := (61, .ishl, 1)) ro_Search_isSingle 38 rfl
theorem d_Search_isSingle_62 : decode prog_9_method_10_code 62 = .ok (.ior, 1) := am_row (r := (62, .ior, 1)) ro_Search_isSingle 39 rfl
theorem d_Search_isSingle_63 : decode prog_9_method_10_code 63 = .ok (.istore_n 2, 1) := am_row (r := (63, .istore_n 2, 1)) ro_Search_isSingle 40 rfl
theorem d_Search_isSingle_64 : decode prog_9_method_10_code 64 = .ok (.iload 5, 2) := am_row (r := (64, .iload 5, 2)) ro_Search_isSingle 41 rfl
theorem d_Search_isSingle_66 : decode prog_9_method_10_code 66 = .ok (.istore_n 3, 1) := am_row (r := (66, .istore_n 3, 1)) ro_Search_isSingle 42 rfl
theorem d_Search_isSingle_67 : decode prog_9_method_10_code 67 = .ok (.iinc 4 1, 3) := am_row (r := (67, .iinc 4 1, 3)) ro_Search_isSingle 43 rfl
theorem d_Search_isSingle_70 : decode prog_9_method_10_code 70 = .ok (.goto (-53), 3) := am_row (r := (70, .goto (-53), 3)) ro_Search_isSingle 44 rfl
theorem d_Search_isSingle_73 : decode prog_9_method_10_code 73 = .ok (.iconst 1, 1) := am_row (r := (73, .iconst 1, 1)) ro_Search_isSingle 45 rfl
theorem d_Search_isSingle_74 : decode prog_9_method_10_code 74 = .ok (.ireturn, 1) := am_row (r := (74, .ireturn, 1)) ro_Search_isSingle 46 rfl
abbrev y_Search_advance : MethodName := ⟨"WheelDisc$Search", "advance", "(I)I"⟩
theorem c_Search_advance : Cond.code y_Search_advance prog_9_method_6_code 5 (some .int) ∈ am_T := am_mem 780 (by decide +kernel) rfl
def rw_Search_advance : List (Nat × Instr × Nat) := [(0, .aload_n 0, 1), (1, .dup, 1), (2, .getfield 33, 3), (5, .iload_n 1, 1), (6, .iadd, 1), (7, .putfield 33, 3), (10, .aload_n 0, 1), (11, .getfield 24, 3), (14, .iload_n 1, 1), (15, .iadd, 1), (16, .aload_n 0, 1), (17, .getfield 21, 3), (20, .invokestatic 46, 3), (23, .istore_n 2, 1), (24, .iconst 0, 1), (25, .istore_n 3, 1), (26, .iload_n 3, 1), (27, .iload_n 1, 1), (28, .if_icmp .ge 58, 3), (31, .aload_n 0, 1), (32, .getfield 27, 3), (35, .iload_n 2, 1), (36, .if_icmp .ge 50, 3), (39, .aload_n 0, 1), (40, .getfield 27, 3), (43, .istore 4, 2), (45, .aload_n 0, 1), (46, .aload_n 0, 1), (47, .iload 4, 2), (49, .invokevirtual 52, 3), (52, .putfield 27, 3), (55, .aload_n 0, 1), (56, .iload 4, 2), (58, .invokevirtual 56, 3), (61, .ifCond .eq 19, 3), (64, .aload_n 0, 1), (65, .iload 4, 2), (67, .putfield 30, 3), (70, .aload_n 0, 1), (71, .iload 4, 2), (73, .iconst 1, 1), (74, .iadd, 1), (75, .putfield 24, 3), (78, .iconst 1, 1), (79, .ireturn, 1), (80, .iinc 3 1, 3), (83, .goto (-57), 3), (86, .aload_n 0, 1), (87, .iload_n 2, 1), (88, .putfield 24, 3), (91, .aload_n 0, 1), (92, .aload_n 0, 1), (93, .getfield 24, 3), (96, .aload_n 0, 1), (97, .getfield 21, 3), (100, .if_icmp .ge 7, 3), (103, .iconst 1, 1), (104, .goto 4, 3), (107, .iconst 0, 1), (108, .putfield 36, 3), (111, .aload_n 0, 1), (112, .getfield 36, 3), (115, .ifCond .eq 8, 3), (118, .bipush (-2), 2), (120, .goto 4, 3), (123, .iconst 0, 1), (124, .ireturn, 1)]
theorem ro_Search_advance : rw_Search_advance.all (fun r => decide (decode prog_9_method_6_code r.1 = .ok r.2)) = true := by decide +kernel
theorem d_Search_advance_0 : decode prog_9_method_6_code 0 = .ok (.aload_n 0, 1) := am_row (r := (0, .aload_n 0, 1)) ro_Search_advance 0 rfl
theorem d_Search_advance_1 : decode prog_9_method_6_code 1 = .ok (.dup, 1) := am_row (r := (1, .dup, 1)) ro_Search_advance 1 rfl
theorem d_Search_advance_2 : decode prog_9_method_6_code 2 = .ok (.getfield 33, 3) := am_row (r := (2, .getfield 33, 3)) ro_Search_advance 2 rfl
theorem d_Search_advance_5 : decode prog_9_method_6_code 5 = .ok (.iload_n 1, 1) := am_row (r := (5, .iload_n 1, 1)) ro_Search_advance 3 rfl
theorem d_Search_advance_6 : decode prog_9_method_6_code 6 = .ok (.iadd, 1) := am_row (r := (6, .iadd, 1)) ro_Search_advance 4 rfl
theorem d_Search_advance_7 : decode prog_9_method_6_code 7 = .ok (.putfield 33, 3) := am_row (r := (7, .putfield 33, 3)) ro_Search_advance 5 rfl
theorem d_Search_advance_10 : decode prog_9_method_6_code 10 = .ok (.aload_n 0, 1) := am_row (r := (10, .aload_n 0, 1)) ro_Search_advance 6 rfl
theorem d_Search_advance_11 : decode prog_9_method_6_code 11 = .ok (.getfield 24, 3) := am_row (r := (11, .getfield 24, 3)) ro_Search_advance 7 rfl
theorem d_Search_advance_14 : decode prog_9_method_6_code 14 = .ok (.iload_n 1, 1) := am_row (r := (14, .iload_n 1, 1)) ro_Search_advance 8 rfl
theorem d_Search_advance_15 : decode prog_9_method_6_code 15 = .ok (.iadd, 1) := am_row (r := (15, .iadd, 1)) ro_Search_advance 9 rfl
theorem d_Search_advance_16 : decode prog_9_method_6_code 16 = .ok (.aload_n 0, 1) := am_row (r := (16, .aload_n 0, 1)) ro_Search_advance 10 rfl
theorem d_Search_advance_17 : decode prog_9_method_6_code 17 = .ok (.getfield 21, 3) := am_row (r := (17, .getfield 21, 3)) ro_Search_advance 11 rfl
theorem d_Search_advance_20 : decode prog_9_method_6_code 20 = .ok (.invokestatic 46, 3) := am_row (r := (20, .invokestatic 46, 3)) ro_Search_advance 12 rfl
theorem d_Search_advance_23 : decode prog_9_method_6_code 23 = .ok (.istore_n 2, 1) := am_row (r := (23, .istore_n 2, 1)) ro_Search_advance 13 rfl
theorem d_Search_advance_24 : decode prog_9_method_6_code 24 = .ok (.iconst 0, 1) := am_row (r := (24, .iconst 0, 1)) ro_Search_advance 14 rfl
theorem d_Search_advance_25 : decode prog_9_method_6_code 25 = .ok (.istore_n 3, 1) := am_row (r := (25, .istore_n 3, 1)) ro_Search_advance 15 rfl
theorem d_Search_advance_26 : decode prog_9_method_6_code 26 = .ok (.iload_n 3, 1) := am_row (r := (26, .iload_n 3, 1)) ro_Search_advance 16 rfl
theorem d_Search_advance_27 : decode prog_9_method_6_code 27 = .ok (.iload_n 1, 1) := am_row (r := (27, .iload_n 1, 1)) ro_Search_advance 17 rfl
theorem d_Search_advance_28 : decode prog_9_method_6_code 28 = .ok (.if_icmp .ge 58, 3) := am_row (r := (28, .if_icmp .ge 58, 3)) ro_Search_advance 18 rfl
theorem d_Search_advance_31 : decode prog_9_method_6_code 31 = .ok (.aload_n 0, 1) := am_row (r := (31, .aload_n 0, 1)) ro_Search_advance 19 rfl
theorem d_Search_advance_32 : decode prog_9_method_6_code 32 = .ok (.getfield 27, 3) := am_row (r := (32, .getfield 27, 3)) ro_Search_advance 20 rfl
theorem d_Search_advance_35 : decode prog_9_method_6_code 35 = .ok (.iload_n 2, 1) := am_row (r := (35, .iload_n 2, 1)) ro_Search_advance 21 rfl
theorem d_Search_advance_36 : decode prog_9_method_6_code 36 = .ok (.if_icmp .ge 50, 3) := am_row (r := (36, .if_icmp .ge 50, 3)) ro_Search_advance 22 rfl
theorem d_Search_advance_39 : decode prog_9_method_6_code 39 = .ok (.aload_n 0, 1) := am_row (r := (39, .aload_n 0, 1)) ro_Search_advance 23 rfl
theorem d_Search_advance_40 : decode prog_9_method_6_code 40 = .ok (.getfield 27, 3) := am_row (r := (40, .getfield 27, 3)) ro_Search_advance 24 rfl
theorem d_Search_advance_43 : decode prog_9_method_6_code 43 = .ok (.istore 4, 2) := am_row (r := (43, .istore 4, 2)) ro_Search_advance 25 rfl
theorem d_Search_advance_45 : decode prog_9_method_6_code 45 = .ok (.aload_n 0, 1) := am_row (r := (45, .aload_n 0, 1)) ro_Search_advance 26 rfl
theorem d_Search_advance_46 : decode prog_9_method_6_code 46 = .ok (.aload_n 0, 1) := am_row (r := (46, .aload_n 0, 1)) ro_Search_advance 27 rfl
theorem d_Search_advance_47 : decode prog_9_method_6_code 47 = .ok (.iload 4, 2) := am_row (r := (47, .iload 4, 2)) ro_Search_advance 28 rfl
theorem d_Search_advance_49 : decode prog_9_method_6_code 49 = .ok (.invokevirtual 52, 3) := am_row (r := (49, .invokevirtual 52, 3)) ro_Search_advance 29 rfl
theorem d_Search_advance_52 : decode prog_9_method_6_code 52 = .ok (.putfield 27, 3) := am_row (r := (52, .putfield 27, 3)) ro_Search_advance 30 rfl
theorem d_Search_advance_55 : decode prog_9_method_6_code 55 = .ok (.aload_n 0, 1) := am_row (r := (55, .aload_n 0, 1)) ro_Search_advance 31 rfl
theorem d_Search_advance_56 : decode prog_9_method_6_code 56 = .ok (.iload 4, 2) := am_row (r := (56, .iload 4, 2)) ro_Search_advance 32 rfl
theorem d_Search_advance_58 : decode prog_9_method_6_code 58 = .ok (.invokevirtual 56, 3) := am_row (r := (58, .invokevirtual 56, 3)) ro_Search_advance 33 rfl
theorem d_Search_advance_61 : decode prog_9_method_6_code 61 = .ok (.ifCond .eq 19, 3) := am_row (r := (61, .ifCond .eq 19, 3)) ro_Search_advance 34 rfl
theorem d_Search_advance_64 : decode prog_9_method_6_code 64 = .ok (.aload_n 0, 1) := am_row (r := (64, .aload_n 0, 1)) ro_Search_advance 35 rfl
theorem d_Search_advance_65 : decode prog_9_method_6_code 65 = .ok (.iload 4, 2) := am_row (r := (65, .iload 4, 2)) ro_Search_advance 36 rfl
theorem d_Search_advance_67 : decode prog_9_method_6_code 67 = .ok (.putfield 30, 3) := am_row (r := (67, .putfield 30, 3)) ro_Search_advance 37 rfl
theorem d_Search_advance_70 : decode prog_9_method_6_code 70 = .ok (.aload_n 0, 1) := am_row (r := (70, .aload_n 0, 1)) ro_Search_advance 38 rfl
theorem d_Search_advance_71 : decode prog_9_method_6_code 71 = .ok (.iload 4, 2) := am_row (r := (71, .iload 4, 2)) ro_Search_advance 39 rfl
theorem d_Search_advance_73 : decode prog_9_method_6_code 73 = .ok (.iconst 1, 1) := am_row (r := (73, .iconst 1, 1)) ro_Search_advance 40 rfl
theorem d_Search_advance_74 : decode prog_9_method_6_code 74 = .ok (.iadd, 1) := am_row (r := (74, .iadd, 1)) ro_Search_advance 41 rfl
theorem d_Search_advance_75 : decode prog_9_method_6_code 75 = .ok (.putfield 24, 3) := am_row (r := (75, .putfield 24, 3)) ro_Search_advance 42 rfl
theorem d_Search_advance_78 : decode prog_9_method_6_code 78 = .ok (.iconst 1, 1) := am_row (r := (78, .iconst 1, 1)) ro_Search_advance 43 rfl
theorem d_Search_advance_79 : decode prog_9_method_6_code 79 = .ok (.ireturn, 1) := am_row (r := (79, .ireturn, 1)) ro_Search_advance 44 rfl
theorem d_Search_advance_80 : decode prog_9_method_6_code 80 = .ok (.iinc 3 1, 3) := am_row (r := (80, .iinc 3 1, 3)) ro_Search_advance 45 rfl
theorem d_Search_advance_83 : decode prog_9_method_6_code 83 = .ok (.goto (-57), 3) := am_row (r := (83, .goto (-57), 3)) ro_Search_advance 46 rfl
theorem d_Search_advance_86 : decode prog_9_method_6_code 86 = .ok (.aload_n 0, 1) := am_row (r := (86, .aload_n 0, 1)) ro_Search_advance 47 rfl
theorem d_Search_advance_87 : decode prog_9_method_6_code 87 = .ok (.iload_n 2, 1) := am_row (r := (87, .iload_n 2, 1)) ro_Search_advance 48 rfl
theorem d_Search_advance_88 : decode prog_9_method_6_code 88 = .ok (.putfield 24, 3) := am_row (r := (88, .putfield 24, 3)) ro_Search_advance 49 rfl
theorem d_Search_advance_91 : decode prog_9_method_6_code 91 = .ok (.aload_n 0, 1) := am_row (r := (91, .aload_n 0, 1)) ro_Search_advance 50 rfl
theorem d_Search_advance_92 : decode prog_9_method_6_code 92 = .ok (.aload_n 0, 1) := am_row (r := (92, .aload_n 0, 1)) ro_Search_advance 51 rfl
theorem d_Search_advance_93 : decode prog_9_method_6_code 93 = .ok (.getfield 24, 3) := am_row (r := (93, .getfield 24, 3)) ro_Search_advance 52 rfl
theorem d_Search_advance_96 : decode prog_9_method_6_code 96 = .ok (.aload_n 0, 1) := am_row (r := (96, .aload_n 0, 1)) ro_Search_advance 53 rfl
theorem d_Search_advance_97 : decode prog_9_method_6_code 97 = .ok (.getfield 21, 3) := am_row (r := (97, .getfield 21, 3)) ro_Search_advance 54 rfl
theorem d_Search_advance_100 : decode prog_9_method_6_code 100 = .ok (.if_icmp .ge 7, 3) := am_row (r := (100, .if_icmp .ge 7, 3)) ro_Search_advance 55 rfl
theorem d_Search_advance_103 : decode prog_9_method_6_code 103 = .ok (.iconst 1, 1) := am_row (r := (103, .iconst 1, 1)) ro_Search_advance 56 rfl
theorem d_Search_advance_104 : decode prog_9_method_6_code 104 = .ok (.goto 4, 3) := am_row (r := (104, .goto 4, 3)) ro_Search_advance 57 rfl
theorem d_Search_advance_107 : decode prog_9_method_6_code 107 = .ok (.iconst 0, 1) := am_row (r := (107, .iconst 0, 1)) ro_Search_advance 58 rfl
theorem d_Search_advance_108 : decode prog_9_method_6_code 108 = .ok (.putfield 36, 3) := am_row (r := (108, .putfield 36, 3)) ro_Search_advance 59 rfl
theorem d_Search_advance_111 : decode prog_9_method_6_code 111 = .ok (.aload_n 0, 1) := am_row (r := (111, .aload_n 0, 1)) ro_Search_advance 60 rfl
theorem d_Search_advance_112 : decode prog_9_method_6_code 112 = .ok (.getfield 36, 3) := am_row (r := (112, .getfield 36, 3)) ro_Search_advance 61 rfl
theorem d_Search_advance_115 : decode prog_9_method_6_code 115 = .ok (.ifCond .eq 8, 3) := am_row (r := (115, .ifCond .eq 8, 3)) ro_Search_advance 62 rfl
theorem d_Search_advance_118 : decode prog_9_method_6_code 118 = .ok (.bipush (-2), 2) := am_row (r := (118, .bipush (-2), 2)) ro_Search_advance 63 rfl
theorem d_Search_advance_120 : decode prog_9_method_6_code 120 = .ok (.goto 4, 3) := am_row (r := (120, .goto 4, 3)) ro_Search_advance 64 rfl
theorem d_Search_advance_123 : decode prog_9_method_6_code 123 = .ok (.iconst 0, 1) := am_row (r := (123, .iconst 0, 1)) ro_Search_advance 65 rfl
theorem d_Search_advance_124 : decode prog_9_method_6_code 124 = .ok (.ireturn, 1) := am_row (r := (124, .ireturn, 1)) ro_Search_advance 66 rfl
abbrev y_Search_layFound : MethodName := ⟨"WheelDisc$Search", "layFound", "(LWheelDisc$Disc;)V"⟩
theorem c_Search_layFound : Cond.code y_Search_layFound prog_9_method_13_code 3 none ∈ am_T := am_mem 810 (by decide +kernel) rfl
def rw_Search_layFound : List (Nat × Instr × Nat) := [(0, .aload_n 1, 1), (1, .aload_n 0, 1), (2, .getfield 9, 3), (5, .invokevirtual 77, 3), (8, .aload_n 1, 1), (9, .invokevirtual 83, 3), (12, .pop, 1), (13, .iconst 0, 1), (14, .istore_n 2, 1), (15, .iload_n 2, 1), (16, .aload_n 0, 1), (17, .getfield 9, 3), (20, .if_icmp .ge 24, 3), (23, .aload_n 1, 1), (24, .iconst 0, 1), (25, .iload_n 2, 1), (26, .aload_n 0, 1), (27, .aload_n 0, 1), (28, .getfield 30, 3), (31, .iload_n 2, 1), (32, .invokevirtual 74, 3), (35, .invokevirtual 87, 3), (38, .iinc 2 1, 3), (41, .goto (-26), 3), (44, .iconst 0, 1), (45, .istore_n 2, 1), (46, .iload_n 2, 1), (47, .aload_n 0, 1), (48, .getfield 15, 3), (51, .if_icmp .ge 21, 3), (54, .aload_n 1, 1), (55, .iconst 0, 1), (56, .iload_n 2, 1), (57, .aload_n 0, 1), (58, .getfield 18, 3), (61, .imul, 1), (62, .invokevirtual 91, 3), (65, .pop, 1), (66, .iinc 2 1, 3), (69, .goto (-23), 3), (72, .return_, 1)]
theorem ro_Search_layFound : rw_Search_layFound.all (fun r => decide (decode prog_9_method_13_code r.1 = .ok r.2)) = true := by decide +kernel
theorem d_Search_layFound_0 : decode prog_9_method_13_code 0 = .ok (.aload_n 1, 1) := am_row (r := (0, .aload_n 1, 1)) ro_Search_layFound 0 rfl
theorem d_Search_layFound_1 : decode prog_9_method_13_code 1 = .ok (.aload_n 0, 1) := am_row (r := (1, .aload_n 0, 1)) ro_Search_layFound 1 rfl
theorem d_Search_layFound_2 : decode prog_9_method_13_code 2 = .ok (.getfield 9, 3) := am_row (r := (2, .getfield 9, 3)) ro_Search_layFound 2 rfl
theorem d_Search_layFound_5 : decode prog_9_method_13_code 5 = .ok (.invokevirtual 77, 3) := am_row (r := (5, .invokevirtual 77, 3)) ro_Search_layFound 3 rfl
theorem d_Search_layFound_8 : decode prog_9_method_13_code 8 = .ok (.aload_n 1, 1) := am_row (r := (8, .aload_n 1, 1)) ro_Search_layFound 4 rfl
theorem d_Search_layFound_9 : decode prog_9_method_13_code 9 = .ok (.invokevirtual 83, 3) := am_row (r := (9, .invokevirtual 83, 3)) ro_Search_layFound 5 rfl
theorem d_Search_layFound_12 : decode prog_9_method_13_code 12 = .ok (.pop, 1) := am_row (r := (12, .pop, 1)) ro_Search_layFound 6 rfl
theorem d_Search_layFound_13 : decode prog_9_method_13_code 13 = .ok (.iconst 0, 1) := am_row (r := (13, .iconst 0, 1)) ro_Search_layFound 7 rfl
theorem d_Search_layFound_14 : decode prog_9_method_13_code 14 = .ok (.istore_n 2, 1) := am_row (r := (14, .istore_n 2, 1)) ro_Search_layFound 8 rfl
theorem d_Search_layFound_15 : decode prog_9_method_13_code 15 = .ok (.iload_n 2, 1) := am_row (r := (15, .iload_n 2, 1)) ro_Search_layFound 9 rfl
theorem d_Search_layFound_16 : decode prog_9_method_13_code 16 = .ok (.aload_n 0, 1) := am_row (r := (16, .aload_n 0, 1)) ro_Search_layFound 10 rfl
theorem d_Search_layFound_17 : decode prog_9_method_13_code 17 = .ok (.getfield 9, 3) := am_row (r := (17, .getfield 9, 3)) ro_Search_layFound 11 rfl
theorem d_Search_layFound_20 : decode prog_9_method_13_code 20 = .ok (.if_icmp .ge 24, 3) := am_row (r := (20, .if_icmp .ge 24, 3)) ro_Search_layFound 12 rfl
theorem d_Search_layFound_23 : decode prog_9_method_13_code 23 = .ok (.aload_n 1, 1) := am_row (r := (23, .aload_n 1, 1)) ro_Search_layFound 13 rfl
theorem d_Search_layFound_24 : decode prog_9_method_13_code 24 = .ok (.iconst 0, 1) := am_row (r := (24, .iconst 0, 1)) ro_Search_layFound 14 rfl
theorem d_Search_layFound_25 : decode prog_9_method_13_code 25 = .ok (.iload_n 2, 1) := am_row (r := (25, .iload_n 2, 1)) ro_Search_layFound 15 rfl
theorem d_Search_layFound_26 : decode prog_9_method_13_code 26 = .ok (.aload_n 0, 1) := am_row (r := (26, .aload_n 0, 1)) ro_Search_layFound 16 rfl
theorem d_Search_layFound_27 : decode prog_9_method_13_code 27 = .ok (.aload_n 0, 1) := am_row (r := (27, .aload_n 0, 1)) ro_Search_layFound 17 rfl
theorem d_Search_layFound_28 : decode prog_9_method_13_code 28 = .ok (.getfield 30, 3) := am_row (r := (28, .getfield 30, 3)) ro_Search_layFound 18 rfl
theorem d_Search_layFound_31 : decode prog_9_method_13_code 31 = .ok (.iload_n 2, 1) := am_row (r := (31, .iload_n 2, 1)) ro_Search_layFound 19 rfl
theorem d_Search_layFound_32 : decode prog_9_method_13_code 32 = .ok (.invokevirtual 74, 3) := am_row (r := (32, .invokevirtual 74, 3)) ro_Search_layFound 20 rfl
theorem d_Search_layFound_35 : decode prog_9_method_13_code 35 = .ok (.invokevirtual 87, 3) := am_row (r := (35, .invokevirtual 87, 3)) ro_Search_layFound 21 rfl
theorem d_Search_layFound_38 : decode prog_9_method_13_code 38 = .ok (.iinc 2 1, 3) := am_row (r := (38, .iinc 2 1, 3)) ro_Search_layFound 22 rfl
theorem d_Search_layFound_41 : decode prog_9_method_13_code 41 = .ok (.goto (-26), 3) := am_row (r := (41, .goto (-26), 3)) ro_Search_layFound 23 rfl
theorem d_Search_layFound_44 : decode prog_9_method_13_code 44 = .ok (.iconst 0, 1) := am_row (r := (44, .iconst 0, 1)) ro_Search_layFound 24 rfl
theorem d_Search_layFound_45 : decode prog_9_method_13_code 45 = .ok (.istore_n 2, 1) := am_row (r := (45, .istore_n 2, 1)) ro_Search_layFound 25 rfl
theorem d_Search_layFound_46 : decode prog_9_method_13_code 46 = .ok (.iload_n 2, 1) := am_row (r := (46, .iload_n 2, 1)) ro_Search_layFound 26 rfl
theorem d_Search_layFound_47 : decode prog_9_method_13_code 47 = .ok (.aload_n 0, 1) := am_row (r := (47, .aload_n 0, 1)) ro_Search_layFound 27 rfl
theorem d_Search_layFound_48 : decode prog_9_method_13_code 48 = .ok (.getfield 15, 3) := am_row (r := (48, .getfield 15, 3)) ro_Search_layFound 28 rfl
theorem d_Search_layFound_51 : decode prog_9_method_13_code 51 = .ok (.if_icmp .ge 21, 3) := am_row (r := (51, .if_icmp .ge 21, 3)) ro_Search_layFound 29 rfl
theorem d_Search_layFound_54 : decode prog_9_method_13_code 54 = .ok (.aload_n 1, 1) := am_row (r := (54, .aload_n 1, 1)) ro_Search_layFound 30 rfl
theorem d_Search_layFound_55 : decode prog_9_method_13_code 55 = .ok (.iconst 0, 1) := am_row (r := (55, .iconst 0, 1)) ro_Search_layFound 31 rfl
theorem d_Search_layFound_56 : decode prog_9_method_13_code 56 = .ok (.iload_n 2, 1) := am_row (r := (56, .iload_n 2, 1)) ro_Search_layFound 32 rfl
theorem d_Search_layFound_57 : decode prog_9_method_13_code 57 = .ok (.aload_n 0, 1) := am_row (r := (57, .aload_n 0, 1)) ro_Search_layFound 33 rfl
theorem d_Search_layFound_58 : decode prog_9_method_13_code 58 = .ok (.getfield 18, 3) := am_row (r := (58, .getfield 18, 3)) ro_Search_layFound 34 rfl
theorem d_Search_layFound_61 : decode prog_9_method_13_code 61 = .ok (.imul, 1) := am_row (r := (61, .imul, 1)) ro_Search_layFound 35 rfl
theorem d_Search_layFound_62 : decode prog_9_method_13_code 62 = .ok (.invokevirtual 91, 3) := am_row (r := (62, .invokevirtual 91, 3)) ro_Search_layFound 36 rfl
theorem d_Search_layFound_65 : decode prog_9_method_13_code 65 = .ok (.pop, 1) := am_row (r := (65, .pop, 1)) ro_Search_layFound 37 rfl
theorem d_Search_layFound_66 : decode prog_9_method_13_code 66 = .ok (.iinc 2 1, 3) := am_row (r := (66, .iinc 2 1, 3)) ro_Search_layFound 38 rfl
theorem d_Search_layFound_69 : decode prog_9_method_13_code 69 = .ok (.goto (-23), 3) := am_row (r := (69, .goto (-23), 3)) ro_Search_layFound 39 rfl
theorem d_Search_layFound_72 : decode prog_9_method_13_code 72 = .ok (.return_, 1) := am_row (r := (72, .return_, 1)) ro_Search_layFound 40 rfl
abbrev y_WD_searchOn : MethodName := ⟨"WheelDisc", "searchOn", "(I)I"⟩
theorem c_WD_searchOn : Cond.code y_WD_searchOn prog_1_method_50_code 3 (some .int) ∈ am_T := am_mem 776 (by decide +kernel) rfl
def rw_WD_searchOn : List (Nat × Instr × Nat) := [(0, .aload_n 0, 1), (1, .getfield 50, 3), (4, .iload_n 1, 1), (5, .invokevirtual 328, 3), (8, .istore_n 2, 1), (9, .iload_n 2, 1), (10, .iconst 1, 1), (11, .if_icmp .ne 18, 3), (14, .aload_n 0, 1), (15, .invokevirtual 116, 3), (18, .aload_n 0, 1), (19, .getfield 50, 3), (22, .aload_n 0, 1), (23, .getfield 19, 3), (26, .invokevirtual 331, 3), (29, .iload_n 2, 1), (30, .ireturn, 1)]
theorem ro_WD_searchOn : rw_WD_searchOn.all (fun r => decide (decode prog_1_method_50_code r.1 = .ok r.2)) = true := by decide +kernel
theorem d_WD_searchOn_0 : decode prog_1_method_50_code 0 = .ok (.aload_n 0, 1) := am_row (r := (0, .aload_n 0, 1)) ro_WD_searchOn 0 rfl
theorem d_WD_searchOn_1 : decode prog_1_method_50_code 1 = .ok (.getfield 50, 3) := am_row (r := (1, .getfield 50, 3)) ro_WD_searchOn 1 rfl
theorem d_WD_searchOn_4 : decode prog_1_method_50_code 4 = .ok (.iload_n 1, 1) := am_row (r := (4, .iload_n 1, 1)) ro_WD_searchOn 2 rfl
theorem d_WD_searchOn_5 : decode prog_1_method_50_code 5 = .ok (.invokevirtual 328, 3) := am_row (r := (5, .invokevirtual 328, 3)) ro_WD_searchOn 3 rfl
theorem d_WD_searchOn_8 : decode prog_1_method_50_code 8 = .ok (.istore_n 2, 1) := am_row (r := (8, .istore_n 2, 1)) ro_WD_searchOn 4 rfl
theorem d_WD_searchOn_9 : decode prog_1_method_50_code 9 = .ok (.iload_n 2, 1) := am_row (r := (9, .iload_n 2, 1)) ro_WD_searchOn 5 rfl
theorem d_WD_searchOn_10 : decode prog_1_method_50_code 10 = .ok (.iconst 1, 1) := am_row (r := (10, .iconst 1, 1)) ro_WD_searchOn 6 rfl
theorem d_WD_searchOn_11 : decode prog_1_method_50_code 11 = .ok (.if_icmp .ne 18, 3) := am_row (r := (11, .if_icmp .ne 18, 3)) ro_WD_searchOn 7 rfl
theorem d_WD_searchOn_14 : decode prog_1_method_50_code 14 = .ok (.aload_n 0, 1) := am_row (r := (14, .aload_n 0, 1)) ro_WD_searchOn 8 rfl
theorem d_WD_searchOn_15 : decode prog_1_method_50_code 15 = .ok (.invokevirtual 116, 3) := am_row (r := (15, .invokevirtual 116, 3)) ro_WD_searchOn 9 rfl
theorem d_WD_searchOn_18 : decode prog_1_method_50_code 18 = .ok (.aload_n 0, 1) := am_row (r := (18, .aload_n 0, 1)) ro_WD_searchOn 10 rfl
theorem d_WD_searchOn_19 : decode prog_1_method_50_code 19 = .ok (.getfield 50, 3) := am_row (r := (19, .getfield 50, 3)) ro_WD_searchOn 11 rfl
theorem d_WD_searchOn_22 : decode prog_1_method_50_code 22 = .ok (.aload_n 0, 1) := am_row (r := (22, .aload_n 0, 1)) ro_WD_searchOn 12 rfl
theorem d_WD_searchOn_23 : decode prog_1_method_50_code 23 = .ok (.getfield 19, 3) := am_row (r := (23, .getfield 19, 3)) ro_WD_searchOn 13 rfl
theorem d_WD_searchOn_26 : decode prog_1_method_50_code 26 = .ok (.invokevirtual 331, 3) := am_row (r := (26, .invokevirtual 331, 3)) ro_WD_searchOn 14 rfl
theorem d_WD_searchOn_29 : decode prog_1_method_50_code 29 = .ok (.iload_n 2, 1) := am_row (r := (29, .iload_n 2, 1)) ro_WD_searchOn 15 rfl
theorem d_WD_searchOn_30 : decode prog_1_method_50_code 30 = .ok (.ireturn, 1) := am_row (r := (30, .ireturn, 1)) ro_WD_searchOn 16 rfl
abbrev y_WD_single : MethodName := ⟨"WheelDisc", "single", "(III)I"⟩
theorem c_WD_single : Cond.code y_WD_single prog_1_method_28_code 4 (some .int) ∈ am_T := am_mem 755 (by decide +kernel) rfl
def rw_WD_single : List (Nat × Instr × Nat) := [(0, .iload_n 1, 1), (1, .iload_n 2, 1), (2, .invokestatic 258, 3), (5, .ifCond .eq 10, 3), (8, .iload_n 3, 1), (9, .invokestatic 261, 3), (12, .ifCond .ne 9, 3), (15, .aload_n 0, 1), (16, .iconst 1, 1), (17, .invokevirtual 95, 3), (20, .ireturn, 1), (21, .aload_n 0, 1), (22, .getfield 50, 3), (25, .iload_n 3, 1), (26, .invokevirtual 264, 3), (29, .ifCond .ne 9, 3), (32, .aload_n 0, 1), (33, .iconst 4, 1), (34, .invokevirtual 95, 3), (37, .ireturn, 1), (38, .aload_n 0, 1), (39, .getfield 50, 3), (42, .iload_n 1, 1), (43, .iload_n 2, 1), (44, .invokevirtual 267, 3), (47, .aload_n 0, 1), (48, .aload_n 0, 1), (49, .iload_n 3, 1), (50, .invokevirtual 270, 3), (53, .invokevirtual 91, 3), (56, .ireturn, 1)]
theorem ro_WD_single : rw_WD_single.all (fun r => decide (decode prog_1_method_28_code r.1 = .ok r.2)) = true := by decide +kernel
theorem d_WD_single_0 : decode prog_1_method_28_code 0 = .ok (.iload_n 1, 1) := am_row (r := (0, .iload_n 1, 1)) ro_WD_single 0 rfl
theorem d_WD_single_1 : decode prog_1_method_28_code 1 = .ok (.iload_n 2, 1) := am_row (r := (1, .iload_n 2, 1)) ro_WD_single 1 rfl
theorem d_WD_single_2 : decode prog_1_method_28_code 2 = .ok (.invokestatic 258, 3) := am_row (r := (2, .invokestatic 258, 3)) ro_WD_single 2 rfl
theorem d_WD_single_5 : decode prog_1_method_28_code 5 = .ok (.ifCond .eq 10, 3) := am_row (r := (5, .ifCond .eq 10, 3)) ro_WD_single 3 rfl
theorem d_WD_single_8 : decode prog_1_method_28_code 8 = .ok (.iload_n 3, 1) := am_row (r := (8, .iload_n 3, 1)) ro_WD_single 4 rfl
theorem d_WD_single_9 : decode prog_1_method_28_code 9 = .ok (.invokestatic 261, 3) := am_row (r := (9, .invokestatic 261, 3)) ro_WD_single 5 rfl
theorem d_WD_single_12 : decode prog_1_method_28_code 12 = .ok (.ifCond .ne 9, 3) := am_row (r := (12, .ifCond .ne 9, 3)) ro_WD_single 6 rfl
theorem d_WD_single_15 : decode prog_1_method_28_code 15 = .ok (.aload_n 0, 1) := am_row (r := (15, .aload_n 0, 1)) ro_WD_single 7 rfl
theorem d_WD_single_16 : decode prog_1_method_28_code 16 = .ok (.iconst 1, 1) := am_row (r := (16, .iconst 1, 1)) ro_WD_single 8 rfl
theorem d_WD_single_17 : decode prog_1_method_28_code 17 = .ok (.invokevirtual 95, 3) := am_row (r := (17, .invokevirtual 95, 3)) ro_WD_single 9 rfl
theorem d_WD_single_20 : decode prog_1_method_28_code 20 = .ok (.ireturn, 1) := am_row (r := (20, .ireturn, 1)) ro_WD_single 10 rfl
theorem d_WD_single_21 : decode prog_1_method_28_code 21 = .ok (.aload_n 0, 1) := am_row (r := (21, .aload_n 0, 1)) ro_WD_single 11 rfl
theorem d_WD_single_22 : decode prog_1_method_28_code 22 = .ok (.getfield 50, 3) := am_row (r := (22, .getfield 50, 3)) ro_WD_single 12 rfl
theorem d_WD_single_25 : decode prog_1_method_28_code 25 = .ok (.iload_n 3, 1) := am_row (r := (25, .iload_n 3, 1)) ro_WD_single 13 rfl
theorem d_WD_single_26 : decode prog_1_method_28_code 26 = .ok (.invokevirtual 264, 3) := am_row (r := (26, .invokevirtual 264, 3)) ro_WD_single 14 rfl
theorem d_WD_single_29 : decode prog_1_method_28_code 29 = .ok (.ifCond .ne 9, 3) := am_row (r := (29, .ifCond .ne 9, 3)) ro_WD_single 15 rfl
theorem d_WD_single_32 : decode prog_1_method_28_code 32 = .ok (.aload_n 0, 1) := am_row (r := (32, .aload_n 0, 1)) ro_WD_single 16 rfl
theorem d_WD_single_33 : decode prog_1_method_28_code 33 = .ok (.iconst 4, 1) := am_row (r := (33, .iconst 4, 1)) ro_WD_single 17 rfl
theorem d_WD_single_34 : decode prog_1_method_28_code 34 = .ok (.invokevirtual 95, 3) := am_row (r := (34, .invokevirtual 95, 3)) ro_WD_single 18 rfl
theorem d_WD_single_37 : decode prog_1_method_28_code 37 = .ok (.ireturn, 1) := am_row (r := (37, .ireturn, 1)) ro_WD_single 19 rfl
theorem d_WD_single_38 : decode prog_1_method_28_code 38 = .ok (.aload_n 0, 1) := am_row (r := (38, .aload_n 0, 1)) ro_WD_single 20 rfl
theorem d_WD_single_39 : decode prog_1_method_28_code 39 = .ok (.getfield 50, 3) := am_row (r := (39, .getfield 50, 3)) ro_WD_single 21 rfl
theorem d_WD_single_42 : decode prog_1_method_28_code 42 = .ok (.iload_n 1, 1) := am_row (r := (42, .iload_n 1, 1)) ro_WD_single 22 rfl
theorem d_WD_single_43 : decode prog_1_method_28_code 43 = .ok (.iload_n 2, 1) := am_row (r := (43, .iload_n 2, 1)) ro_WD_single 23 rfl
theorem d_WD_single_44 : decode prog_1_method_28_code 44 = .ok (.invokevirtual 267, 3) := am_row (r := (44, .invokevirtual 267, 3)) ro_WD_single 24 rfl
theorem d_WD_single_47 : decode prog_1_method_28_code 47 = .ok (.aload_n 0, 1) := am_row (r := (47, .aload_n 0, 1)) ro_WD_single 25 rfl
theorem d_WD_single_48 : decode prog_1_method_28_code 48 = .ok (.aload_n 0, 1) := am_row (r := (48, .aload_n 0, 1)) ro_WD_single 26 rfl
theorem d_WD_single_49 : decode prog_1_method_28_code 49 = .ok (.iload_n 3, 1) := am_row (r := (49, .iload_n 3, 1)) ro_WD_single 27 rfl
theorem d_WD_single_50 : decode prog_1_method_28_code 50 = .ok (.invokevirtual 270, 3) := am_row (r := (50, .invokevirtual 270, 3)) ro_WD_single 28 rfl
theorem d_WD_single_53 : decode prog_1_method_28_code 53 = .ok (.invokevirtual 91, 3) := am_row (r := (53, .invokevirtual 91, 3)) ro_WD_single 29 rfl
theorem d_WD_single_56 : decode prog_1_method_28_code 56 = .ok (.ireturn, 1) := am_row (r := (56, .ireturn, 1)) ro_WD_single 30 rfl
abbrev y_WD_go : MethodName := ⟨"WheelDisc", "go", "(I)I"⟩
theorem c_WD_go : Cond.code y_WD_go prog_1_method_29_code 2 (some .int) ∈ am_T := am_mem 818 (by decide +kernel) rfl
def rw_WD_go : List (Nat × Instr × Nat) := [(0, .iload_n 1, 1), (1, .invokestatic 261, 3), (4, .ifCond .ne 9, 3), (7, .aload_n 0, 1), (8, .iconst 1, 1), (9, .invokevirtual 95, 3), (12, .ireturn, 1), (13, .aload_n 0, 1), (14, .getfield 50, 3), (17, .getfield 273, 3), (20, .ifCond .ne 9, 3), (23, .aload_n 0, 1), (24, .iconst 2, 1), (25, .invokevirtual 95, 3), (28, .ireturn, 1), (29, .aload_n 0, 1), (30, .getfield 50, 3), (33, .iload_n 1, 1), (34, .invokevirtual 264, 3), (37, .ifCond .ne 9, 3), (40, .aload_n 0, 1), (41, .iconst 4, 1), (42, .invokevirtual 95, 3), (45, .ireturn, 1), (46, .aload_n 0, 1), (47, .aload_n 0, 1), (48, .iload_n 1, 1), (49, .invokevirtual 270, 3), (52, .invokevirtual 91, 3), (55, .ireturn, 1)]
theorem ro_WD_go : rw_WD_go.all (fun r => decide (decode prog_1_method_29_code r.1 = .ok r.2)) = true := by decide +kernel
theorem d_WD_go_0 : decode prog_1_method_29_code 0 = .ok (.iload_n 1, 1) := am_row (r := (0, .iload_n 1, 1)) ro_WD_go 0 rfl
theorem d_WD_go_1 : decode prog_1_method_29_code 1 = .ok (.invokestatic 261, 3) := am_row (r := (1, .invokestatic 261, 3)) ro_WD_go 1 rfl
theorem d_WD_go_4 : decode prog_1_method_29_code 4 = .ok (.ifCond .ne 9, 3) := am_row (r := (4, .ifCond .ne 9, 3)) ro_WD_go 2 rfl
theorem d_WD_go_7 : decode prog_1_method_29_code 7 = .ok (.aload_n 0, 1) := am_row (r := (7, .aload_n 0, 1)) ro_WD_go 3 rfl
theorem d_WD_go_8 : decode prog_1_method_29_code 8 = .ok (.iconst 1, 1) := am_row (r := (8, .iconst 1, 1)) ro_WD_go 4 rfl
theorem d_WD_go_9 : decode prog_1_method_29_code 9 = .ok (.invokevirtual 95, 3) := am_row (r := (9, .invokevirtual 95, 3)) ro_WD_go 5 rfl
theorem d_WD_go_12 : decode prog_1_method_29_code 12 = .ok (.ireturn, 1) := am_row (r := (12, .ireturn, 1)) ro_WD_go 6 rfl
theorem d_WD_go_13 : decode prog_1_method_29_code 13 = .ok (.aload_n 0, 1) := am_row (r := (13, .aload_n 0, 1)) ro_WD_go 7 rfl
theorem d_WD_go_14 : decode prog_1_method_29_code 14 = .ok (.getfield 50, 3) := am_row (r := (14, .getfield 50, 3)) ro_WD_go 8 rfl
theorem d_WD_go_17 : decode prog_1_method_29_code 17 = .ok (.getfield 273, 3) := am_row (r := (17, .getfield 273, 3)) ro_WD_go 9 rfl
theorem d_WD_go_20 : decode prog_1_method_29_code 20 = .ok (.ifCond .ne 9, 3) := am_row (r := (20, .ifCond .ne 9, 3)) ro_WD_go 10 rfl
theorem d_WD_go_23 : decode prog_1_method_29_code 23 = .ok (.aload_n 0, 1) := am_row (r := (23, .aload_n 0, 1)) ro_WD_go 11 rfl
theorem d_WD_go_24 : decode prog_1_method_29_code 24 = .ok (.iconst 2, 1) := am_row (r := (24, .iconst 2, 1)) ro_WD_go 12 rfl
theorem d_WD_go_25 : decode prog_1_method_29_code 25 = .ok (.invokevirtual 95, 3) := am_row (r := (25, .invokevirtual 95, 3)) ro_WD_go 13 rfl
theorem d_WD_go_28 : decode prog_1_method_29_code 28 = .ok (.ireturn, 1) := am_row (r := (28, .ireturn, 1)) ro_WD_go 14 rfl
theorem d_WD_go_29 : decode prog_1_method_29_code 29 = .ok (.aload_n 0, 1) := am_row (r := (29, .aload_n 0, 1)) ro_WD_go 15 rfl
theorem d_WD_go_30 : decode prog_1_method_29_code 30 = .ok (.getfield 50, 3) := am_row (r := (30, .getfield 50, 3)) ro_WD_go 16 rfl
theorem d_WD_go_33 : decode prog_1_method_29_code 33 = .ok (.iload_n 1, 1) := am_row (r := (33, .iload_n 1, 1)) ro_WD_go 17 rfl
theorem d_WD_go_34 : decode prog_1_method_29_code 34 = .ok (.invokevirtual 264, 3) := am_row (r := (34, .invokevirtual 264, 3)) ro_WD_go 18 rfl
theorem d_WD_go_37 : decode prog_1_method_29_code 37 = .ok (.ifCond .ne 9, 3) := am_row (r := (37, .ifCond .ne 9, 3)) ro_WD_go 19 rfl
theorem d_WD_go_40 : decode prog_1_method_29_code 40 = .ok (.aload_n 0, 1) := am_row (r := (40, .aload_n 0, 1)) ro_WD_go 20 rfl
theorem d_WD_go_41 : decode prog_1_method_29_code 41 = .ok (.iconst 4, 1) := am_row (r := (41, .iconst 4, 1)) ro_WD_go 21 rfl
theorem d_WD_go_42 : decode prog_1_method_29_code 42 = .ok (.invokevirtual 95, 3) := am_row (r := (42, .invokevirtual 95, 3)) ro_WD_go 22 rfl
theorem d_WD_go_45 : decode prog_1_method_29_code 45 = .ok (.ireturn, 1) := am_row (r := (45, .ireturn, 1)) ro_WD_go 23 rfl
theorem d_WD_go_46 : decode prog_1_method_29_code 46 = .ok (.aload_n 0, 1) := am_row (r := (46, .aload_n 0, 1)) ro_WD_go 24 rfl
theorem d_WD_go_47 : decode prog_1_method_29_code 47 = .ok (.aload_n 0, 1) := am_row (r := (47, .aload_n 0, 1)) ro_WD_go 25 rfl
theorem d_WD_go_48 : decode prog_1_method_29_code 48 = .ok (.iload_n 1, 1) := am_row (r := (48, .iload_n 1, 1)) ro_WD_go 26 rfl
theorem d_WD_go_49 : decode prog_1_method_29_code 49 = .ok (.invokevirtual 270, 3) := am_row (r := (49, .invokevirtual 270, 3)) ro_WD_go 27 rfl
theorem d_WD_go_52 : decode prog_1_method_29_code 52 = .ok (.invokevirtual 91, 3) := am_row (r := (52, .invokevirtual 91, 3)) ro_WD_go 28 rfl
theorem d_WD_go_55 : decode prog_1_method_29_code 55 = .ok (.ireturn, 1) := am_row (r := (55, .ireturn, 1)) ro_WD_go 29 rfl
abbrev y_Drive_add : MethodName := ⟨"WheelDisc$Drive", "add", "(I)V"⟩
theorem c_Drive_add : Cond.code y_Drive_add prog_3_method_2_code 2 none ∈ am_T := am_mem 826 (by decide +kernel) rfl
def rw_Drive_add : List (Nat × Instr × Nat) := [(0, .aload_n 0, 1), (1, .getfield 11, 3), (4, .aload_n 0, 1), (5, .getfield 28, 3), (8, .iload_n 1, 1), (9, .iastore, 1), (10, .aload_n 0, 1), (11, .dup, 1), (12, .getfield 28, 3), (15, .iconst 1, 1), (16, .iadd, 1), (17, .putfield 28, 3), (20, .return_, 1)]
theorem ro_Drive_add : rw_Drive_add.all (fun r => decide (decode prog_3_method_2_code r.1 = .ok r.2)) = true := by decide +kernel
theorem d_Drive_add_0 : decode prog_3_method_2_code 0 = .ok (.aload_n 0, 1) := am_row (r := (0, .aload_n 0, 1)) ro_Drive_add 0 rfl
theorem d_Drive_add_1 : decode prog_3_method_2_code 1 = .ok (.getfield 11, 3) := am_row (r := (1, .getfield 11, 3)) ro_Drive_add 1 rfl
theorem d_Drive_add_4 : decode prog_3_method_2_code 4 = .ok (.aload_n 0, 1) := am_row (r := (4, .aload_n 0, 1)) ro_Drive_add 2 rfl
theorem d_Drive_add_5 : decode prog_3_method_2_code 5 = .ok (.getfield 28, 3) := am_row (r := (5, .getfield 28, 3)) ro_Drive_add 3 rfl
theorem d_Drive_add_8 : decode prog_3_method_2_code 8 = .ok (.iload_n 1, 1) := am_row (r := (8, .iload_n 1, 1)) ro_Drive_add 4 rfl
theorem d_Drive_add_9 : decode prog_3_method_2_code 9 = .ok (.iastore, 1) := am_row (r := (9, .iastore, 1)) ro_Drive_add 5 rfl
theorem d_Drive_add_10 : decode prog_3_method_2_code 10 = .ok (.aload_n 0, 1) := am_row (r := (10, .aload_n 0, 1)) ro_Drive_add 6 rfl
theorem d_Drive_add_11 : decode prog_3_method_2_code 11 = .ok (.dup, 1) := am_row (r := (11, .dup, 1)) ro_Drive_add 7 rfl
theorem d_Drive_add_12 : decode prog_3_method_2_code 12 = .ok (.getfield 28, 3) := am_row (r := (12, .getfield 28, 3)) ro_Drive_add 8 rfl
theorem d_Drive_add_15 : decode prog_3_method_2_code 15 = .ok (.iconst 1, 1) := am_row (r := (15, .iconst 1, 1)) ro_Drive_add 9 rfl
theorem d_Drive_add_16 : decode prog_3_method_2_code 16 = .ok (.iadd, 1) := am_row (r := (16, .iadd, 1)) ro_Drive_add 10 rfl
theorem d_Drive_add_17 : decode prog_3_method_2_code 17 = .ok (.putfield 28, 3) := am_row (r := (17, .putfield 28, 3)) ro_Drive_add 11 rfl
theorem d_Drive_add_20 : decode prog_3_method_2_code 20 = .ok (.return_, 1) := am_row (r := (20, .return_, 1)) ro_Drive_add 12 rfl
abbrev y_WD_drive : MethodName := ⟨"WheelDisc", "drive", "(I)I"⟩
theorem c_WD_drive : Cond.code y_WD_drive prog_1_method_30_code 2 (some .int) ∈ am_T := am_mem 822 (by decide +kernel) rfl
def rw_WD_drive : List (Nat × Instr × Nat) := [(0, .aload_n 0, 1), (1, .getfield 57, 3), (4, .getfield 195, 3), (7, .sipush 2000, 3), (10, .if_icmp .lt 9, 3), (13, .aload_n 0, 1), (14, .iconst 4, 1), (15, .invokevirtual 95, 3), (18, .ireturn, 1), (19, .aload_n 0, 1), (20, .getfield 57, 3), (23, .iload_n 1, 1), (24, .invokevirtual 276, 3), (27, .aload_n 0, 1), (28, .aload_n 0, 1), (29, .getfield 57, 3), (32, .getfield 195, 3), (35, .invokevirtual 91, 3), (38, .ireturn, 1)]
theorem ro_WD_drive : rw_WD_drive.all (fun r => decide (decode prog_1_method_30_code r.1 = .ok r.2)) = true := by decide +kernel
theorem d_WD_drive_0 : decode prog_1_method_30_code 0 = .ok (.aload_n 0, 1) := am_row (r := (0, .aload_n 0, 1)) ro_WD_drive 0 rfl
theorem d_WD_drive_1 : decode prog_1_method_30_code 1 = .ok (.getfield 57, 3) := am_row (r := (1, .getfield 57, 3)) ro_WD_drive 1 rfl
theorem d_WD_drive_4 : decode prog_1_method_30_code 4 = .ok (.getfield 195, 3) := am_row (r := (4, .getfield 195, 3)) ro_WD_drive 2 rfl
theorem d_WD_drive_7 : decode prog_1_method_30_code 7 = .ok (.sipush 2000, 3) := am_row (r := (7, .sipush 2000, 3)) ro_WD_drive 3 rfl
theorem d_WD_drive_10 : decode prog_1_method_30_code 10 = .ok (.if_icmp .lt 9, 3) := am_row (r := (10, .if_icmp .lt 9, 3)) ro_WD_drive 4 rfl
theorem d_WD_drive_13 : decode prog_1_method_30_code 13 = .ok (.aload_n 0, 1) := am_row (r := (13, .aload_n 0, 1)) ro_WD_drive 5 rfl
theorem d_WD_drive_14 : decode prog_1_method_30_code 14 = .ok (.iconst 4, 1) := am_row (r := (14, .iconst 4, 1)) ro_WD_drive 6 rfl
theorem d_WD_drive_15 : decode prog_1_method_30_code 15 = .ok (.invokevirtual 95, 3) := am_row (r := (15, .invokevirtual 95, 3)) ro_WD_drive 7 rfl
theorem d_WD_drive_18 : decode prog_1_method_30_code 18 = .ok (.ireturn, 1) := am_row (r := (18, .ireturn, 1)) ro_WD_drive 8 rfl
theorem d_WD_drive_19 : decode prog_1_method_30_code 19 = .ok (.aload_n 0, 1) := am_row (r := (19, .aload_n 0, 1)) ro_WD_drive 9 rfl
theorem d_WD_drive_20 : decode prog_1_method_30_code 20 = .ok (.getfield 57, 3) := am_row (r := (20, .getfield 57, 3)) ro_WD_drive 10 rfl
theorem d_WD_drive_23 : decode prog_1_method_30_code 23 = .ok (.iload_n 1, 1) := am_row (r := (23, .iload_n 1, 1)) ro_WD_drive 11 rfl
theorem d_WD_drive_24 : decode prog_1_method_30_code 24 = .ok (.invokevirtual 276, 3) := am_row (r := (24, .invokevirtual 276, 3)) ro_WD_drive 12 rfl
theorem d_WD_drive_27 : decode prog_1_method_30_code 27 = .ok (.aload_n 0, 1) := am_row (r := (27, .aload_n 0, 1)) ro_WD_drive 13 rfl
theorem d_WD_drive_28 : decode prog_1_method_30_code 28 = .ok (.aload_n 0, 1) := am_row (r := (28, .aload_n 0, 1)) ro_WD_drive 14 rfl
theorem d_WD_drive_29 : decode prog_1_method_30_code 29 = .ok (.getfield 57, 3) := am_row (r := (29, .getfield 57, 3)) ro_WD_drive 15 rfl
theorem d_WD_drive_32 : decode prog_1_method_30_code 32 = .ok (.getfield 195, 3) := am_row (r := (32, .getfield 195, 3)) ro_WD_drive 16 rfl
theorem d_WD_drive_35 : decode prog_1_method_30_code 35 = .ok (.invokevirtual 91, 3) := am_row (r := (35, .invokevirtual 91, 3)) ro_WD_drive 17 rfl
theorem d_WD_drive_38 : decode prog_1_method_30_code 38 = .ok (.ireturn, 1) := am_row (r := (38, .ireturn, 1)) ro_WD_drive 18 rfl
abbrev y_Drive_empty : MethodName := ⟨"WheelDisc$Drive", "empty", "()V"⟩
theorem c_Drive_empty : Cond.code y_Drive_empty prog_3_method_3_code 1 none ∈ am_T := am_mem 834 (by decide +kernel) rfl
def rw_Drive_empty : List (Nat × Instr × Nat) := [(0, .aload_n 0, 1), (1, .iconst 0, 1), (2, .putfield 28, 3), (5, .aload_n 0, 1), (6, .invokevirtual 38, 3), (9, .return_, 1)]
theorem ro_Drive_empty : rw_Drive_empty.all (fun r => decide (decode prog_3_method_3_code r.1 = .ok r.2)) = true := by decide +kernel
theorem d_Drive_empty_0 : decode prog_3_method_3_code 0 = .ok (.aload_n 0, 1) := am_row (r := (0, .aload_n 0, 1)) ro_Drive_empty 0 rfl
theorem d_Drive_empty_1 : decode prog_3_method_3_code 1 = .ok (.iconst 0, 1) := am_row (r := (1, .iconst 0, 1)) ro_Drive_empty 1 rfl
theorem d_Drive_empty_2 : decode prog_3_method_3_code 2 = .ok (.putfield 28, 3) := am_row (r := (2, .putfield 28, 3)) ro_Drive_empty 2 rfl
theorem d_Drive_empty_5 : decode prog_3_method_3_code 5 = .ok (.aload_n 0, 1) := am_row (r := (5, .aload_n 0, 1)) ro_Drive_empty 3 rfl
theorem d_Drive_empty_6 : decode prog_3_method_3_code 6 = .ok (.invokevirtual 38, 3) := am_row (r := (6, .invokevirtual 38, 3)) ro_Drive_empty 4 rfl
theorem d_Drive_empty_9 : decode prog_3_method_3_code 9 = .ok (.return_, 1) := am_row (r := (9, .return_, 1)) ro_Drive_empty 5 rfl
abbrev y_WD_halt : MethodName := ⟨"WheelDisc", "halt", "()I"⟩
theorem c_WD_halt : Cond.code y_WD_halt prog_1_method_31_code 2 (some .int) ∈ am_T := am_mem 830 (by decide +kernel) rfl
def rw_WD_halt : List (Nat × Instr × Nat) := [(0, .aload_n 0, 1), (1, .getfield 57, 3), (4, .getfield 195, 3), (7, .istore_n 1, 1), (8, .aload_n 0, 1), (9, .getfield 57, 3), (12, .invokevirtual 279, 3), (15, .aload_n 0, 1), (16, .iload_n 1, 1), (17, .invokevirtual 91, 3), (20, .ireturn, 1)]
theorem ro_WD_halt : rw_WD_halt.all (fun r => decide (decode prog_1_method_31_code r.1 = .ok r.2)) = true := by decide +kernel
theorem d_WD_halt_0 : decode prog_1_method_31_code 0 = .ok (.aload_n 0, 1) := am_row (r := (0, .aload_n 0, 1)) ro_WD_halt 0 rfl
theorem d_WD_halt_1 : decode prog_1_method_31_code 1 = .ok (.getfield 57, 3) := am_row (r := (1, .getfield 57, 3)) ro_WD_halt 1 rfl
theorem d_WD_halt_4 : decode prog_1_method_31_code 4 = .ok (.getfield 195, 3) := am_row (r := (4, .getfield 195, 3)) ro_WD_halt 2 rfl
theorem d_WD_halt_7 : decode prog_1_method_31_code 7 = .ok (.istore_n 1, 1) := am_row (r := (7, .istore_n 1, 1)) ro_WD_halt 3 rfl
theorem d_WD_halt_8 : decode prog_1_method_31_code 8 = .ok (.aload_n 0, 1) := am_row (r := (8, .aload_n 0, 1)) ro_WD_halt 4 rfl
theorem d_WD_halt_9 : decode prog_1_method_31_code 9 = .ok (.getfield 57, 3) := am_row (r := (9, .getfield 57, 3)) ro_WD_halt 5 rfl
theorem d_WD_halt_12 : decode prog_1_method_31_code 12 = .ok (.invokevirtual 279, 3) := am_row (r := (12, .invokevirtual 279, 3)) ro_WD_halt 6 rfl
theorem d_WD_halt_15 : decode prog_1_method_31_code 15 = .ok (.aload_n 0, 1) := am_row (r := (15, .aload_n 0, 1)) ro_WD_halt 7 rfl
theorem d_WD_halt_16 : decode prog_1_method_31_code 16 = .ok (.iload_n 1, 1) := am_row (r := (16, .iload_n 1, 1)) ro_WD_halt 8 rfl
theorem d_WD_halt_17 : decode prog_1_method_31_code 17 = .ok (.invokevirtual 91, 3) := am_row (r := (17, .invokevirtual 91, 3)) ro_WD_halt 9 rfl
theorem d_WD_halt_20 : decode prog_1_method_31_code 20 = .ok (.ireturn, 1) := am_row (r := (20, .ireturn, 1)) ro_WD_halt 10 rfl
abbrev y_Drive_takeNext : MethodName := ⟨"WheelDisc$Drive", "takeNext", "(I)V"⟩
theorem c_Drive_takeNext : Cond.code y_Drive_takeNext prog_3_method_8_code 3 none ∈ am_T := am_mem 860 (by decide +kernel) rfl
def rw_Drive_takeNext : List (Nat × Instr × Nat) := [(0, .iconst 0, 1), (1, .istore_n 2, 1), (2, .iload_n 2, 1), (3, .iload_n 1, 1), (4, .if_icmp .ge 21, 3), (7, .aload_n 0, 1), (8, .getfield 21, 3), (11, .iload_n 2, 1), (12, .aload_n 0, 1), (13, .getfield 25, 3), (16, .iload_n 2, 1), (17, .baload, 1), (18, .bastore, 1), (19, .iinc 2 1, 3), (22, .goto (-20), 3), (25, .return_, 1)]
theorem ro_Drive_takeNext : rw_Drive_takeNext.all (fun r => decide (decode prog_3_method_8_code r.1 = .ok r.2)) = true := by decide +kernel
theorem d_Drive_takeNext_0 : decode prog_3_method_8_code 0 = .ok (.iconst 0, 1) := am_row (r := (0, .iconst 0, 1)) ro_Drive_takeNext 0 rfl
theorem d_Drive_takeNext_1 : decode prog_3_method_8_code 1 = .ok (.istore_n 2, 1) := am_row (r := (1, .istore_n 2, 1)) ro_Drive_takeNext 1 rfl
theorem d_Drive_takeNext_2 : decode prog_3_method_8_code 2 = .ok (.iload_n 2, 1) := am_row (r := (2, .iload_n 2, 1)) ro_Drive_takeNext 2 rfl
theorem d_Drive_takeNext_3 : decode prog_3_method_8_code 3 = .ok (.iload_n 1, 1) := am_row (r := (3, .iload_n 1, 1)) ro_Drive_takeNext 3 rfl
theorem d_Drive_takeNext_4 : decode prog_3_method_8_code 4 = .ok (.if_icmp .ge 21, 3) := am_row (r := (4, .if_icmp .ge 21, 3)) ro_Drive_takeNext 4 rfl
theorem d_Drive_takeNext_7 : decode prog_3_method_8_code 7 = .ok (.aload_n 0, 1) := am_row (r := (7, .aload_n 0, 1)) ro_Drive_takeNext 5 rfl
theorem d_Drive_takeNext_8 : decode prog_3_method_8_code 8 = .ok (.getfield 21, 3) := am_row (r := (8, .getfield 21, 3)) ro_Drive_takeNext 6 rfl
theorem d_Drive_takeNext_11 : decode prog_3_method_8_code 11 = .ok (.iload_n 2, 1) := am_row (r := (11, .iload_n 2, 1)) ro_Drive_takeNext 7 rfl
theorem d_Drive_takeNext_12 : decode prog_3_method_8_code 12 = .ok (.aload_n 0, 1) := am_row (r := (12, .aload_n 0, 1)) ro_Drive_takeNext 8 rfl
theorem d_Drive_takeNext_13 : decode prog_3_method_8_code 13 = .ok (.getfield 25, 3) := am_row (r := (13, .getfield 25, 3)) ro_Drive_takeNext 9 rfl
theorem d_Drive_takeNext_16 : decode prog_3_method_8_code 16 = .ok (.iload_n 2, 1) := am_row (r := (16, .iload_n 2, 1)) ro_Drive_takeNext 10 rfl
theorem d_Drive_takeNext_17 : decode prog_3_method_8_code 17 = .ok (.baload, 1) := am_row (r := (17, .baload, 1)) ro_Drive_takeNext 11 rfl
theorem d_Drive_takeNext_18 : decode prog_3_method_8_code 18 = .ok (.bastore, 1) := am_row (r := (18, .bastore, 1)) ro_Drive_takeNext 12 rfl
theorem d_Drive_takeNext_19 : decode prog_3_method_8_code 19 = .ok (.iinc 2 1, 3) := am_row (r := (19, .iinc 2 1, 3)) ro_Drive_takeNext 13 rfl
theorem d_Drive_takeNext_22 : decode prog_3_method_8_code 22 = .ok (.goto (-20), 3) := am_row (r := (22, .goto (-20), 3)) ro_Drive_takeNext 14 rfl
theorem d_Drive_takeNext_25 : decode prog_3_method_8_code 25 = .ok (.return_, 1) := am_row (r := (25, .return_, 1)) ro_Drive_takeNext 15 rfl
abbrev y_Drive_isNearReached : MethodName := ⟨"WheelDisc$Drive", "isNearReached", "(II)Z"⟩
theorem c_Drive_isNearReached : Cond.code y_Drive_isNearReached prog_3_method_9_code 3 (some .boolean) ∈ am_T := am_mem 855 (by decide +kernel) rfl
def rw_Drive_isNearReached : List (Nat × Instr × Nat) := [(0, .aload_n 0, 1), (1, .getfield 21, 3), (4, .iload_n 1, 1), (5, .baload, 1), (6, .ifCond .ne 31, 3), (9, .aload_n 0, 1), (10, .getfield 21, 3), (13, .iload_n 1, 1), (14, .iconst (-1), 1), (15, .iload_n 2, 1), (16, .invokestatic 59, 3), (19, .baload, 1), (20, .ifCond .ne 17, 3), (23, .aload_n 0, 1), (24, .getfield 21, 3), (27, .iload_n 1, 1), (28, .iconst 1, 1), (29, .iload_n 2, 1), (30, .invokestatic 59, 3), (33, .baload, 1), (34, .ifCond .eq 7, 3), (37, .iconst 1, 1), (38, .goto 4, 3), (41, .iconst 0, 1), (42, .ireturn, 1)]
theorem ro_Drive_isNearReached : rw_Drive_isNearReached.all (fun r => decide (decode prog_3_method_9_code r.1 = .ok r.2)) = true := by decide +kernel
theorem d_Drive_isNearReached_0 : decode prog_3_method_9_code 0 = .ok (.aload_n 0, 1) := am_row (r := (0, .aload_n 0, 1)) ro_Drive_isNearReached 0 rfl
theorem d_Drive_isNearReached_1 : decode prog_3_method_9_code 1 = .ok (.getfield 21, 3) := am_row (r := (1, .getfield 21, 3)) ro_Drive_isNearReached 1 rfl
theorem d_Drive_isNearReached_4 : decode prog_3_method_9_code 4 = .ok (.iload_n 1, 1) := am_row (r := (4, .iload_n 1, 1)) ro_Drive_isNearReached 2 rfl
theorem d_Drive_isNearReached_5 : decode prog_3_method_9_code 5 = .ok (.baload, 1) := am_row (r := (5, .baload, 1)) ro_Drive_isNearReached 3 rfl
theorem d_Drive_isNearReached_6 : decode prog_3_method_9_code 6 = .ok (.ifCond .ne 31, 3) := am_row (r := (6, .ifCond .ne 31, 3)) ro_Drive_isNearReached 4 rfl
theorem d_Drive_isNearReached_9 : decode prog_3_method_9_code 9 = .ok (.aload_n 0, 1) := am_row (r := (9, .aload_n 0, 1)) ro_Drive_isNearReached 5 rfl
theorem d_Drive_isNearReached_10 : decode prog_3_method_9_code 10 = .ok (.getfield 21, 3) := am_row (r := (10, .getfield 21, 3)) ro_Drive_isNearReached 6 rfl
theorem d_Drive_isNearReached_13 : decode prog_3_method_9_code 13 = .ok (.iload_n 1, 1) := am_row (r := (13, .iload_n 1, 1)) ro_Drive_isNearReached 7 rfl
theorem d_Drive_isNearReached_14 : decode prog_3_method_9_code 14 = .ok (.iconst (-1), 1) := am_row (r := (14, .iconst (-1), 1)) ro_Drive_isNearReached 8 rfl
theorem d_Drive_isNearReached_15 : decode prog_3_method_9_code 15 = .ok (.iload_n 2, 1) := am_row (r := (15, .iload_n 2, 1)) ro_Drive_isNearReached 9 rfl
theorem d_Drive_isNearReached_16 : decode prog_3_method_9_code 16 = .ok (.invokestatic 59, 3) := am_row (r := (16, .invokestatic 59, 3)) ro_Drive_isNearReached 10 rfl
theorem d_Drive_isNearReached_19 : decode prog_3_method_9_code 19 = .ok (.baload, 1) := am_row (r := (19, .baload, 1)) ro_Drive_isNearReached 11 rfl
theorem d_Drive_isNearReached_20 : decode prog_3_method_9_code 20 = .ok (.ifCond .ne 17, 3) := am_row (r := (20, .ifCond .ne 17, 3)) ro_Drive_isNearReached 12 rfl
theorem d_Drive_isNearReached_23 : decode prog_3_method_9_code 23 = .ok (.aload_n 0, 1) := am_row (r := (23, .aload_n 0, 1)) ro_Drive_isNearReached 13 rfl
theorem d_Drive_isNearReached_24 : decode prog_3_method_9_code 24 = .ok (.getfield 21, 3) := am_row (r := (24, .getfield 21, 3)) ro_Drive_isNearReached 14 rfl
theorem d_Drive_isNearReached_27 : decode prog_3_method_9_code 27 = .ok (.iload_n 1, 1) := am_row (r := (27, .iload_n 1, 1)) ro_Drive_isNearReached 15 rfl
theorem d_Drive_isNearReached_28 : decode prog_3_method_9_code 28 = .ok (.iconst 1, 1) := am_row (r := (28, .iconst 1, 1)) ro_Drive_isNearReached 16 rfl
theorem d_Drive_isNearReached_29 : decode prog_3_method_9_code 29 = .ok (.iload_n 2, 1) := am_row (r := (29, .iload_n 2, 1)) ro_Drive_isNearReached 17 rfl
theorem d_Drive_isNearReached_30 : decode prog_3_method_9_code 30 = .ok (.invokestatic 59, 3) := am_row (r := (30, .invokestatic 59, 3)) ro_Drive_isNearReached 18 rfl
theorem d_Drive_isNearReached_33 : decode prog_3_method_9_code 33 = .ok (.baload, 1) := am_row (r := (33, .baload, 1)) ro_Drive_isNearReached 19 rfl
theorem d_Drive_isNearReached_34 : decode prog_3_method_9_code 34 = .ok (.ifCond .eq 7, 3) := am_row (r := (34, .ifCond .eq 7, 3)) ro_Drive_isNearReached 20 rfl
theorem d_Drive_isNearReached_37 : decode prog_3_method_9_code 37 = .ok (.iconst 1, 1) := am_row (r := (37, .iconst 1, 1)) ro_Drive_isNearReached 21 rfl
theorem d_Drive_isNearReached_38 : decode prog_3_method_9_code 38 = .ok (.goto 4, 3) := am_row (r := (38, .goto 4, 3)) ro_Drive_isNearReached 22 rfl
theorem d_Drive_isNearReached_41 : decode prog_3_method_9_code 41 = .ok (.iconst 0, 1) := am_row (r := (41, .iconst 0, 1)) ro_Drive_isNearReached 23 rfl
theorem d_Drive_isNearReached_42 : decode prog_3_method_9_code 42 = .ok (.ireturn, 1) := am_row (r := (42, .ireturn, 1)) ro_Drive_isNearReached 24 rfl
abbrev y_Drive_followWord : MethodName := ⟨"WheelDisc$Drive", "followWord", "(LWheelDisc$View;I)V"⟩
theorem c_Drive_followWord : Cond.code y_Drive_followWord prog_3_method_7_code 7 none ∈ am_T := am_mem 851 (by decide +kernel) rfl
def rw_Drive_followWord : List (Nat × Instr × Nat) := [(0, .iconst 0, 1), (1, .istore_n 3, 1), (2, .iconst (-1), 1), (3, .istore 4, 2), (5, .iconst 0, 1), (6, .istore 5, 2), (8, .iload 5, 2), (10, .aload_n 1, 1), (11, .getfield 45, 3), (14, .if_icmp .ge 81, 3), (17, .aload_n 1, 1), (18, .getfield 50, 3), (21, .iload 5, 2), (23, .iaload, 1), (24, .aload_n 0, 1), (25, .getfield 11, 3), (28, .iload_n 2, 1), (29, .iaload, 1), (30, .if_icmp .ne 24, 3), (33, .iload_n 2, 1), (34, .ifCond .eq 16, 3), (37, .aload_n 0, 1), (38, .iload 5, 2), (40, .aload_n 1, 1), (41, .getfield 45, 3), (44, .invokevirtual 51, 3), (47, .ifCond .eq 7, 3), (50, .iconst 1, 1), (51, .goto 4, 3), (54, .iconst 0, 1), (55, .istore 6, 2), (57, .aload_n 0, 1), (58, .getfield 25, 3), (61, .iload 5, 2), (63, .iload 6, 2), (65, .bastore, 1), (66, .iload 6, 2), (68, .ifCond .eq 21, 3), (71, .iinc 3 1, 3), (74, .iload 4, 2), (76, .iconst (-1), 1), (77, .if_icmp .ne 8, 3), (80, .iload 5, 2), (82, .goto 5, 3), (85, .iload 4, 2), (87, .istore 4, 2), (89, .iinc 5 1, 3), (92, .goto (-84), 3), (95, .aload_n 0, 1), (96, .aload_n 1, 1), (97, .getfield 45, 3), (100, .invokevirtual 55, 3), (103, .aload_n 0, 1), (104, .getfield 15, 3), (107, .iload_n 2, 1), (108, .iload_n 3, 1), (109, .iastore, 1), (110, .aload_n 0, 1), (111, .getfield 18, 3), (114, .iload_n 2, 1), (115, .iload 4, 2), (117, .iastore, 1), (118, .iload_n 3, 1), (119, .ifCond .ne 16, 3), (122, .aload_n 0, 1), (123, .getfield 35, 3), (126, .iconst (-1), 1), (127, .if_icmp .ne 8, 3), (130, .aload_n 0, 1), (131, .iload_n 2, 1), (132, .putfield 35, 3), (135, .return_, 1)]
theorem ro_Drive_followWord : rw_Drive_followWord.all (fun r => decide (decode prog_3_method_7_code r.1 = .ok r.2)) = true := by decide +kernel
theorem d_Drive_followWord_0 : decode prog_3_method_7_code 0 = .ok (.iconst 0, 1) := am_row (r := (0, .iconst 0, 1)) ro_Drive_followWord 0 rfl
theorem d_Drive_followWord_1 : decode prog_3_method_7_code 1 = .ok (.istore_n 3, 1) := am_row (r := (1, .istore_n 3, 1)) ro_Drive_followWord 1 rfl
theorem d_Drive_followWord_2 : decode prog_3_method_7_code 2 = .ok (.iconst (-1), 1) := am_row (r := (2, .iconst (-1), 1)) ro_Drive_followWord 2 rfl
theorem d_Drive_followWord_3 : decode prog_3_method_7_code 3 = .ok (.istore 4, 2) := am_row (r := (3, .istore 4, 2)) ro_Drive_followWord 3 rfl
theorem d_Drive_followWord_5 : decode prog_3_method_7_code 5 = .ok (.iconst 0, 1) := am_row (r := (5, .iconst 0, 1)) ro_Drive_followWord 4 rfl
theorem d_Drive_followWord_6 : decode prog_3_method_7_code 6 = .ok (.istore 5, 2) := am_row (r := (6, .istore 5, 2)) ro_Drive_followWord 5 rfl
theorem d_Drive_followWord_8 : decode prog_3_method_7_code 8 = .ok (.iload 5, 2) := am_row (r := (8, .iload 5, 2)) ro_Drive_followWord 6 rfl
theorem d_Drive_followWord_10 : decode prog_3_method_7_code 10 = .ok (.aload_n 1, 1) := am_row (r := (10, .aload_n 1, 1)) ro_Drive_followWord 7 rfl
theorem d_Drive_followWord_11 : decode prog_3_method_7_code 11 = .ok (.getfield 45, 3) := am_row (r := (11, .getfield 45, 3)) ro_Drive_followWord 8 rfl
theorem d_Drive_followWord_14 : decode prog_3_method_7_code 14 = .ok (.if_icmp .ge 81, 3) := am_row (r := (14, .if_icmp .ge 81, 3)) ro_Drive_followWord 9 rfl
theorem d_Drive_followWord_17 : decode prog_3_method_7_code 17 = .ok (.aload_n 1, 1) := am_row (r := (17, .aload_n 1, 1)) ro_Drive_followWord 10 rfl
theorem d_Drive_followWord_18 : decode prog_3_method_7_code 18 = .ok (.getfield 50, 3) := am_row (r := (18, .getfield 50, 3)) ro_Drive_followWord 11 rfl
theorem d_Drive_followWord_21 : decode prog_3_method_7_code 21 = .ok (.iload 5, 2) := am_row (r := (21, .iload 5, 2)) ro_Drive_followWord 12 rfl
theorem d_Drive_followWord_23 : decode prog_3_method_7_code 23 = .ok (.iaload, 1) := am_row (r := (23, .iaload, 1)) ro_Drive_followWord 13 rfl
theorem d_Drive_followWord_24 : decode prog_3_method_7_code 24 = .ok (.aload_n 0, 1) := am_row (r := (24, .aload_n 0, 1)) ro_Drive_followWord 14 rfl
theorem d_Drive_followWord_25 : decode prog_3_method_7_code 25 = .ok (.getfield 11, 3) := am_row (r := (25, .getfield 11, 3)) ro_Drive_followWord 15 rfl
theorem d_Drive_followWord_28 : decode prog_3_method_7_code 28 = .ok (.iload_n 2, 1) := am_row (r := (28, .iload_n 2, 1)) ro_Drive_followWord 16 rfl
theorem d_Drive_followWord_29 : decode prog_3_method_7_code 29 = .ok (.iaload, 1) := am_row (r := (29, .iaload, 1)) ro_Drive_followWord 17 rfl
theorem d_Drive_followWord_30 : decode prog_3_method_7_code 30 = .ok (.if_icmp .ne 24, 3) := am_row (r := (30, .if_icmp .ne 24, 3)) ro_Drive_followWord 18 rfl
theorem d_Drive_followWord_33 : decode prog_3_method_7_code 33 = .ok (.iload_n 2, 1) := am_row (r := (33, .iload_n 2, 1)) ro_Drive_followWord 19 rfl
theorem d_Drive_followWord_34 : decode prog_3_method_7_code 34 = .ok (.ifCond .eq 16, 3) := am_row (r := (34, .ifCond .eq 16, 3)) ro_Drive_followWord 20 rfl
theorem d_Drive_followWord_37 : decode prog_3_method_7_code 37 = .ok (.aload_n 0, 1) := am_row (r := (37, .aload_n 0, 1)) ro_Drive_followWord 21 rfl
theorem d_Drive_followWord_38 : decode prog_3_method_7_code 38 = .ok (.iload 5, 2) := am_row (r := (38, .iload 5, 2)) ro_Drive_followWord 22 rfl
theorem d_Drive_followWord_40 : decode prog_3_method_7_code 40 = .ok (.aload_n 1, 1) := am_row (r := (40, .aload_n 1, 1)) ro_Drive_followWord 23 rfl
theorem d_Drive_followWord_41 : decode prog_3_method_7_code 41 = .ok (.getfield 45, 3) := am_row (r := (41, .getfield 45, 3)) ro_Drive_followWord 24 rfl
theorem d_Drive_followWord_44 : decode prog_3_method_7_code 44 = .ok (.invokevirtual 51, 3) := am_row (r := (44, .invokevirtual 51, 3)) ro_Drive_followWord 25 rfl
theorem d_Drive_followWord_47 : decode prog_3_method_7_code 47 = .ok (.ifCond .eq 7, 3) := am_row (r := (47, .ifCond .eq 7, 3)) ro_Drive_followWord 26 rfl
theorem d_Drive_followWord_50 : decode prog_3_method_7_code 50 = .ok (.iconst 1, 1) := am_row (r := (50, .iconst 1, 1)) ro_Drive_followWord 27 rfl
theorem d_Drive_followWord_51 : decode prog_3_method_7_code 51 = .ok (.goto 4, 3) := am_row (r := (51, .goto 4, 3)) ro_Drive_followWord 28 rfl
theorem d_Drive_followWord_54 : decode prog_3_method_7_code 54 = .ok (.iconst 0, 1) := am_row (r := (54, .iconst 0, 1)) ro_Drive_followWord 29 rfl
theorem d_Drive_followWord_55 : decode prog_3_method_7_code 55 = .ok (.istore 6, 2) := am_row (r := (55, .istore 6, 2)) ro_Drive_followWord 30 rfl
theorem d_Drive_followWord_57 : decode prog_3_method_7_code 57 = .ok (.aload_n 0, 1) := am_row (r := (57, .aload_n 0, 1)) ro_Drive_followWord 31 rfl
theorem d_Drive_followWord_58 : decode prog_3_method_7_code 58 = .ok (.getfield 25, 3) := am_row (r := (58, .getfield 25, 3)) ro_Drive_followWord 32 rfl
theorem d_Drive_followWord_61 : decode prog_3_method_7_code 61 = .ok (.iload 5, 2) := am_row (r := (61, .iload 5, 2)) ro_Drive_followWord 33 rfl
theorem d_Drive_followWord_63 : decode prog_3_method_7_code 63 = .ok (.iload 6, 2) := am_row (r := (63, .iload 6, 2)) ro_Drive_followWord 34 rfl
theorem d_Drive_followWord_65 : decode prog_3_method_7_code 65 = .ok (.bastore, 1) := am_row (r := (65, .bastore, 1)) ro_Drive_followWord 35 rfl
theorem d_Drive_followWord_66 : decode prog_3_method_7_code 66 = .ok (.iload 6, 2) := am_row (r := (66, .iload 6, 2)) ro_Drive_followWord 36 rfl
theorem d_Drive_followWord_68 : decode prog_3_method_7_code 68 = .ok (.ifCond .eq 21, 3) := am_row (r := (68, .ifCond .eq 21, 3)) ro_Drive_followWord 37 rfl
theorem d_Drive_followWord_71 : decode prog_3_method_7_code 71 = .ok (.iinc 3 1, 3) := am_row (r := (71, .iinc 3 1, 3)) ro_Drive_followWord 38 rfl
theorem d_Drive_followWord_74 : decode prog_3_method_7_code 74 = .ok (.iload 4, 2) := am_row (r := (74, .iload 4, 2)) ro_Drive_followWord 39 rfl
theorem d_Drive_followWord_76 : decode prog_3_method_7_code 76 = .ok (.iconst (-1), 1) := am_row (r := (76, .iconst (-1), 1)) ro_Drive_followWord 40 rfl
theorem d_Drive_followWord_77 : decode prog_3_method_7_code 77 = .ok (.if_icmp .ne 8, 3) := am_row (r := (77, .if_icmp .ne 8, 3)) ro_Drive_followWord 41 rfl
theorem d_Drive_followWord_80 : decode prog_3_method_7_code 80 = .ok (.iload 5, 2) := am_row (r := (80, .iload 5, 2)) ro_Drive_followWord 42 rfl
theorem d_Drive_followWord_82 : decode prog_3_method_7_code 82 = .ok (.goto 5, 3) := am_row (r := (82, .goto 5, 3)) ro_Drive_followWord 43 rfl
theorem d_Drive_followWord_85 : decode prog_3_method_7_code 85 = .ok (.iload 4, 2) := am_row (r := (85, .iload 4, 2)) ro_Drive_followWord 44 rfl
theorem d_Drive_followWord_87 : decode prog_3_method_7_code 87 = .ok (.istore 4, 2) := am_row (r := (87, .istore 4, 2)) ro_Drive_followWord 45 rfl
theorem d_Drive_followWord_89 : decode prog_3_method_7_code 89 = .ok (.iinc 5 1, 3) := am_row (r := (89, .iinc 5 1, 3)) ro_Drive_followWord 46 rfl
theorem d_Drive_followWord_92 : decode prog_3_method_7_code 92 = .ok (.goto (-84), 3) := am_row (r := (92, .goto (-84), 3)) ro_Drive_followWord 47 rfl
theorem d_Drive_followWord_95 : decode prog_3_method_7_code 95 = .ok (.aload_n 0, 1) := am_row (r := (95, .aload_n 0, 1)) ro_Drive_followWord 48 rfl
theorem d_Drive_followWord_96 : decode prog_3_method_7_code 96 = .ok (.aload_n 1, 1) := am_row (r := (96, .aload_n 1, 1)) ro_Drive_followWord 49 rfl
theorem d_Drive_followWord_97 : decode prog_3_method_7_code 97 = .ok (.getfield 45, 3) := am_row (r := (97, .getfield 45, 3)) ro_Drive_followWord 50 rfl
theorem d_Drive_followWord_100 : decode prog_3_method_7_code 100 = .ok (.invokevirtual 55, 3) := am_row (r := (100, .invokevirtual 55, 3)) ro_Drive_followWord 51 rfl
theorem d_Drive_followWord_103 : decode prog_3_method_7_code 103 = .ok (.aload_n 0, 1) := am_row (r := (103, .aload_n 0, 1)) ro_Drive_followWord 52 rfl
theorem d_Drive_followWord_104 : decode prog_3_method_7_code 104 = .ok (.getfield 15, 3) := am_row (r := (104, .getfield 15, 3)) ro_Drive_followWord 53 rfl
theorem d_Drive_followWord_107 : decode prog_3_method_7_code 107 = .ok (.iload_n 2, 1) := am_row (r := (107, .iload_n 2, 1)) ro_Drive_followWord 54 rfl
theorem d_Drive_followWord_108 : decode prog_3_method_7_code 108 = .ok (.iload_n 3, 1) := am_row (r := (108, .iload_n 3, 1)) ro_Drive_followWord 55 rfl
theorem d_Drive_followWord_109 : decode prog_3_method_7_code 109 = .ok (.iastore, 1) := am_row (r := (109, .iastore, 1)) ro_Drive_followWord 56 rfl
theorem d_Drive_followWord_110 : decode prog_3_method_7_code 110 = .ok (.aload_n 0, 1) := am_row (r := (110, .aload_n 0, 1)) ro_Drive_followWord 57 rfl
theorem d_Drive_followWord_111 : decode prog_3_method_7_code 111 = .ok (.getfield 18, 3) := am_row (r := (111, .getfield 18, 3)) ro_Drive_followWord 58 rfl
theorem d_Drive_followWord_114 : decode prog_3_method_7_code 114 = .ok (.iload_n 2, 1) := am_row (r := (114, .iload_n 2, 1)) ro_Drive_followWord 59 rfl
theorem d_Drive_followWord_115 : decode prog_3_method_7_code 115 = .ok (.iload 4, 2) := am_row (r := (115, .iload 4, 2)) ro_Drive_followWord 60 rfl
theorem d_Drive_followWord_117 : decode prog_3_method_7_code 117 = .ok (.iastore, 1) := am_row (r := (117, .iastore, 1)) ro_Drive_followWord 61 rfl
theorem d_Drive_followWord_118 : decode prog_3_method_7_code 118 = .ok (.iload_n 3, 1) := am_row (r := (118, .iload_n 3, 1)) ro_Drive_followWord 62 rfl
theorem d_Drive_followWord_119 : decode prog_3_method_7_code 119 = .ok (.ifCond .ne 16, 3) := am_row (r := (119, .ifCond .ne 16, 3)) ro_Drive_followWord 63 rfl
theorem d_Drive_followWord_122 : decode prog_3_method_7_code 122 = .ok (.aload_n 0, 1) := am_row (r := (122, .aload_n 0, 1)) ro_Drive_followWord 64 rfl
theorem d_Drive_followWord_123 : decode prog_3_method_7_code 123 = .ok (.getfield 35, 3) := am_row (r := (123, .getfield 35, 3)) ro_Drive_followWord 65 rfl
theorem d_Drive_followWord_126 : decode prog_3_method_7_code 126 = .ok (.iconst (-1), 1) := am_row (r := (126, .iconst (-1), 1)) ro_Drive_followWord 66 rfl
theorem d_Drive_followWord_127 : decode prog_3_method_7_code 127 = .ok (.if_icmp .ne 8, 3) := am_row (r := (127, .if_icmp .ne 8, 3)) ro_Drive_followWord 67 rfl
theorem d_Drive_followWord_130 : decode prog_3_method_7_code 130 = .ok (.aload_n 0, 1) := am_row (r := (130, .aload_n 0, 1)) ro_Drive_followWord 68 rfl
theorem d_Drive_followWord_131 : decode prog_3_method_7_code 131 = .ok (.iload_n 2, 1) := am_row (r := (131, .iload_n 2, 1)) ro_Drive_followWord 69 rfl
theorem d_Drive_followWord_132 : decode prog_3_method_7_code 132 = .ok (.putfield 35, 3) := am_row (r := (132, .putfield 35, 3)) ro_Drive_followWord 70 rfl
theorem d_Drive_followWord_135 : decode prog_3_method_7_code 135 = .ok (.return_, 1) := am_row (r := (135, .return_, 1)) ro_Drive_followWord 71 rfl
abbrev y_Drive_follow : MethodName := ⟨"WheelDisc$Drive", "follow", "(LWheelDisc$View;)V"⟩
theorem c_Drive_follow : Cond.code y_Drive_follow prog_3_method_6_code 3 none ∈ am_T := am_mem 847 (by decide +kernel) rfl
def rw_Drive_follow : List (Nat × Instr × Nat) := [(0, .aload_n 0, 1), (1, .getfield 32, 3), (4, .istore_n 2, 1), (5, .iload_n 2, 1), (6, .aload_n 0, 1), (7, .getfield 28, 3), (10, .if_icmp .ge 15, 3), (13, .aload_n 0, 1), (14, .aload_n 1, 1), (15, .iload_n 2, 1), (16, .invokevirtual 41, 3), (19, .iinc 2 1, 3), (22, .goto (-17), 3), (25, .aload_n 0, 1), (26, .aload_n 0, 1), (27, .getfield 28, 3), (30, .putfield 32, 3), (33, .return_, 1)]
theorem ro_Drive_follow : rw_Drive_follow.all (fun r => decide (decode prog_3_method_6_code r.1 = .ok r.2)) = true := by decide +kernel
theorem d_Drive_follow_0 : decode prog_3_method_6_code 0 = .ok (.aload_n 0, 1) := am_row (r := (0, .aload_n 0, 1)) ro_Drive_follow 0 rfl
theorem d_Drive_follow_1 : decode prog_3_method_6_code 1 = .ok (.getfield 32, 3) := am_row (r := (1, .getfield 32, 3)) ro_Drive_follow 1 rfl
theorem d_Drive_follow_4 : decode prog_3_method_6_code 4 = .ok (.istore_n 2, 1) := am_row (r := (4, .istore_n 2, 1)) ro_Drive_follow 2 rfl
theorem d_Drive_follow_5 : decode prog_3_method_6_code 5 = .ok (.iload_n 2, 1) := am_row (r := (5, .iload_n 2, 1)) ro_Drive_follow 3 rfl
theorem d_Drive_follow_6 : decode prog_3_method_6_code 6 = .ok (.aload_n 0, 1) := am_row (r := (6, .aload_n 0, 1)) ro_Drive_follow 4 rfl
theorem d_Drive_follow_7 : decode prog_3_method_6_code 7 = .ok (.getfield 28, 3) := am_row (r := (7, .getfield 28, 3)) ro_Drive_follow 5 rfl
theorem d_Drive_follow_10 : decode prog_3_method_6_code 10 = .ok (.if_icmp .ge 15, 3) := am_row (r := (10, .if_icmp .ge 15, 3)) ro_Drive_follow 6 rfl
theorem d_Drive_follow_13 : decode prog_3_method_6_code 13 = .ok (.aload_n 0, 1) := am_row (r := (13, .aload_n 0, 1)) ro_Drive_follow 7 rfl
theorem d_Drive_follow_14 : decode prog_3_method_6_code 14 = .ok (.aload_n 1, 1) := am_row (r := (14, .aload_n 1, 1)) ro_Drive_follow 8 rfl
theorem d_Drive_follow_15 : decode prog_3_method_6_code 15 = .ok (.iload_n 2, 1) := am_row (r := (15, .iload_n 2, 1)) ro_Drive_follow 9 rfl
theorem d_Drive_follow_16 : decode prog_3_method_6_code 16 = .ok (.invokevirtual 41, 3) := am_row (r := (16, .invokevirtual 41, 3)) ro_Drive_follow 10 rfl
theorem d_Drive_follow_19 : decode prog_3_method_6_code 19 = .ok (.iinc 2 1, 3) := am_row (r := (19, .iinc 2 1, 3)) ro_Drive_follow 11 rfl
theorem d_Drive_follow_22 : decode prog_3_method_6_code 22 = .ok (.goto (-17), 3) := am_row (r := (22, .goto (-17), 3)) ro_Drive_follow 12 rfl
theorem d_Drive_follow_25 : decode prog_3_method_6_code 25 = .ok (.aload_n 0, 1) := am_row (r := (25, .aload_n 0, 1)) ro_Drive_follow 13 rfl
theorem d_Drive_follow_26 : decode prog_3_method_6_code 26 = .ok (.aload_n 0, 1) := am_row (r := (26, .aload_n 0, 1)) ro_Drive_follow 14 rfl
theorem d_Drive_follow_27 : decode prog_3_method_6_code 27 = .ok (.getfield 28, 3) := am_row (r := (27, .getfield 28, 3)) ro_Drive_follow 15 rfl
theorem d_Drive_follow_30 : decode prog_3_method_6_code 30 = .ok (.putfield 32, 3) := am_row (r := (30, .putfield 32, 3)) ro_Drive_follow 16 rfl
theorem d_Drive_follow_33 : decode prog_3_method_6_code 33 = .ok (.return_, 1) := am_row (r := (33, .return_, 1)) ro_Drive_follow 17 rfl
abbrev y_WD_followedDrive : MethodName := ⟨"WheelDisc", "followedDrive", "()LWheelDisc$Drive;"⟩
theorem c_WD_followedDrive : Cond.code y_WD_followedDrive prog_1_method_49_code 1 (some (.object "WheelDisc$Drive")) ∈ am_T := am_mem 843 (by decide +kernel) rfl
def rw_WD_followedDrive : List (Nat × Instr × Nat) := [(0, .aload_n 0, 1), (1, .getfield 57, 3), (4, .aload_n 0, 1), (5, .invokevirtual 187, 3), (8, .invokevirtual 325, 3), (11, .aload_n 0, 1), (12, .getfield 57, 3), (15, .areturn, 1)]
theorem ro_WD_followedDrive : rw_WD_followedDrive.all (fun r => decide (decode prog_1_method_49_code r.1 = .ok r.2)) = true := by decide +kernel
theorem d_WD_followedDrive_0 : decode prog_1_method_49_code 0 = .ok (.aload_n 0, 1) := am_row (r := (0, .aload_n 0, 1)) ro_WD_followedDrive 0 rfl
theorem d_WD_followedDrive_1 : decode prog_1_method_49_code 1 = .ok (.getfield 57, 3) := am_row (r := (1, .getfield 57, 3)) ro_WD_followedDrive 1 rfl
theorem d_WD_followedDrive_4 : decode prog_1_method_49_code 4 = .ok (.aload_n 0, 1) := am_row (r := (4, .aload_n 0, 1)) ro_WD_followedDrive 2 rfl
theorem d_WD_followedDrive_5 : decode prog_1_method_49_code 5 = .ok (.invokevirtual 187, 3) := am_row (r := (5, .invokevirtual 187, 3)) ro_WD_followedDrive 3 rfl
theorem d_WD_followedDrive_8 : decode prog_1_method_49_code 8 = .ok (.invokevirtual 325, 3) := am_row (r := (8, .invokevirtual 325, 3)) ro_WD_followedDrive 4 rfl
theorem d_WD_followedDrive_11 : decode prog_1_method_49_code 11 = .ok (.aload_n 0, 1) := am_row (r := (11, .aload_n 0, 1)) ro_WD_followedDrive 5 rfl
theorem d_WD_followedDrive_12 : decode prog_1_method_49_code 12 = .ok (.getfield 57, 3) := am_row (r := (12, .getfield 57, 3)) ro_WD_followedDrive 6 rfl
theorem d_WD_followedDrive_15 : decode prog_1_method_49_code 15 = .ok (.areturn, 1) := am_row (r := (15, .areturn, 1)) ro_WD_followedDrive 7 rfl
abbrev y_WD_slip : MethodName := ⟨"WheelDisc", "slip", "()I"⟩
theorem c_WD_slip : Cond.code y_WD_slip prog_1_method_32_code 1 (some .int) ∈ am_T := am_mem 839 (by decide +kernel) rfl
def rw_WD_slip : List (Nat × Instr × Nat) := [(0, .aload_n 0, 1), (1, .aload_n 0, 1), (2, .invokevirtual 281, 3), (5, .getfield 285, 3), (8, .invokevirtual 91, 3), (11, .ireturn, 1)]
theorem ro_WD_slip : rw_WD_slip.all (fun r => decide (decode prog_1_method_32_code r.1 = .ok r.2)) = true := by decide +kernel
theorem d_WD_slip_0 : decode prog_1_method_32_code 0 = .ok (.aload_n 0, 1) := am_row (r := (0, .aload_n 0, 1)) ro_WD_slip 0 rfl
theorem d_WD_slip_1 : decode prog_1_method_32_code 1 = .ok (.aload_n 0, 1) := am_row (r := (1, .aload_n 0, 1)) ro_WD_slip 1 rfl
theorem d_WD_slip_2 : decode prog_1_method_32_code 2 = .ok (.invokevirtual 281, 3) := am_row (r := (2, .invokevirtual 281, 3)) ro_WD_slip 2 rfl
theorem d_WD_slip_5 : decode prog_1_method_32_code 5 = .ok (.getfield 285, 3) := am_row (r := (5, .getfield 285, 3)) ro_WD_slip 3 rfl
theorem d_WD_slip_8 : decode prog_1_method_32_code 8 = .ok (.invokevirtual 91, 3) := am_row (r := (8, .invokevirtual 91, 3)) ro_WD_slip 4 rfl
theorem d_WD_slip_11 : decode prog_1_method_32_code 11 = .ok (.ireturn, 1) := am_row (r := (11, .ireturn, 1)) ro_WD_slip 5 rfl
abbrev y_Drive_has : MethodName := ⟨"WheelDisc$Drive", "has", "(I)Z"⟩
theorem c_Drive_has : Cond.code y_Drive_has prog_3_method_5_code 2 (some .boolean) ∈ am_T := am_mem 868 (by decide +kernel) rfl
def rw_Drive_has : List (Nat × Instr × Nat) := [(0, .iload_n 1, 1), (1, .ifCond .lt 15, 3), (4, .iload_n 1, 1), (5, .aload_n 0, 1), (6, .getfield 28, 3), (9, .if_icmp .ge 7, 3), (12, .iconst 1, 1), (13, .goto 4, 3), (16, .iconst 0, 1), (17, .ireturn, 1)]
theorem ro_Drive_has : rw_Drive_has.all (fun r => decide (decode prog_3_method_5_code r.1 = .ok r.2)) = true := by decide +kernel
theorem d_Drive_has_0 : decode prog_3_method_5_code 0 = .ok (.iload_n 1, 1) := am_row (r := (0, .iload_n 1, 1)) ro_Drive_has 0 rfl
theorem d_Drive_has_1 : decode prog_3_method_5_code 1 = .ok (.ifCond .lt 15, 3) := am_row (r := (1, .ifCond .lt 15, 3)) ro_Drive_has 1 rfl
theorem d_Drive_has_4 : decode prog_3_method_5_code 4 = .ok (.iload_n 1, 1) := am_row (r := (4, .iload_n 1, 1)) ro_Drive_has 2 rfl
theorem d_Drive_has_5 : decode prog_3_method_5_code 5 = .ok (.aload_n 0, 1) := am_row (r := (5, .aload_n 0, 1)) ro_Drive_has 3 rfl
theorem d_Drive_has_6 : decode prog_3_method_5_code 6 = .ok (.getfield 28, 3) := am_row (r := (6, .getfield 28, 3)) ro_Drive_has 4 rfl
theorem d_Drive_has_9 : decode prog_3_method_5_code 9 = .ok (.if_icmp .ge 7, 3) := am_row (r := (9, .if_icmp .ge 7, 3)) ro_Drive_has 5 rfl
theorem d_Drive_has_12 : decode prog_3_method_5_code 12 = .ok (.iconst 1, 1) := am_row (r := (12, .iconst 1, 1)) ro_Drive_has 6 rfl
theorem d_Drive_has_13 : decode prog_3_method_5_code 13 = .ok (.goto 4, 3) := am_row (r := (13, .goto 4, 3)) ro_Drive_has 7 rfl
theorem d_Drive_has_16 : decode prog_3_method_5_code 16 = .ok (.iconst 0, 1) := am_row (r := (16, .iconst 0, 1)) ro_Drive_has 8 rfl
theorem d_Drive_has_17 : decode prog_3_method_5_code 17 = .ok (.ireturn, 1) := am_row (r := (17, .ireturn, 1)) ro_Drive_has 9 rfl
abbrev y_WD_stands : MethodName := ⟨"WheelDisc", "stands", "(I)I"⟩
theorem c_WD_stands : Cond.code y_WD_stands prog_1_method_33_code 2 (some .int) ∈ am_T := am_mem 864 (by decide +kernel) rfl
def rw_WD_stands : List (Nat × Instr × Nat) := [(0, .aload_n 0, 1), (1, .getfield 57, 3), (4, .iload_n 1, 1), (5, .invokevirtual 288, 3), (8, .ifCond .ne 9, 3), (11, .aload_n 0, 1), (12, .iconst 1, 1), (13, .invokevirtual 95, 3), (16, .ireturn, 1), (17, .aload_n 0, 1), (18, .aload_n 0, 1), (19, .invokevirtual 281, 3), (22, .getfield 291, 3), (25, .iload_n 1, 1), (26, .iaload, 1), (27, .invokevirtual 91, 3), (30, .ireturn, 1)]
theorem ro_WD_stands : rw_WD_stands.all (fun r => decide (decode prog_1_method_33_code r.1 = .ok r.2)) = true := by decide +kernel
theorem d_WD_stands_0 : decode prog_1_method_33_code 0 = .ok (.aload_n 0, 1) := am_row (r := (0, .aload_n 0, 1)) ro_WD_stands 0 rfl
theorem d_WD_stands_1 : decode prog_1_method_33_code 1 = .ok (.getfield 57, 3) := am_row (r := (1, .getfield 57, 3)) ro_WD_stands 1 rfl
theorem d_WD_stands_4 : decode prog_1_method_33_code 4 = .ok (.iload_n 1, 1) := am_row (r := (4, .iload_n 1, 1)) ro_WD_stands 2 rfl
theorem d_WD_stands_5 : decode prog_1_method_33_code 5 = .ok (.invokevirtual 288, 3) := am_row (r := (5, .invokevirtual 288, 3)) ro_WD_stands 3 rfl
theorem d_WD_stands_8 : decode prog_1_method_33_code 8 = .ok (.ifCond .ne 9, 3) := am_row (r := (8, .ifCond .ne 9, 3)) ro_WD_stands 4 rfl
theorem d_WD_stands_11 : decode prog_1_method_33_code 11 = .ok (.aload_n 0, 1) := am_row (r := (11, .aload_n 0, 1)) ro_WD_stands 5 rfl
theorem d_WD_stands_12 : decode prog_1_method_33_code 12 = .ok (.iconst 1, 1) := am_row (r := (12, .iconst 1, 1)) ro_WD_stands 6 rfl
theorem d_WD_stands_13 : decode prog_1_method_33_code 13 = .ok (.invokevirtual 95, 3) := am_row (r := (13, .invokevirtual 95, 3)) ro_WD_stands 7 rfl
theorem d_WD_stands_16 : decode prog_1_method_33_code 16 = .ok (.ireturn, 1) := am_row (r := (16, .ireturn, 1)) ro_WD_stands 8 rfl
theorem d_WD_stands_17 : decode prog_1_method_33_code 17 = .ok (.aload_n 0, 1) := am_row (r := (17, .aload_n 0, 1)) ro_WD_stands 9 rfl
theorem d_WD_stands_18 : decode prog_1_method_33_code 18 = .ok (.aload_n 0, 1) := am_row (r := (18, .aload_n 0, 1)) ro_WD_stands 10 rfl
theorem d_WD_stands_19 : decode prog_1_method_33_code 19 = .ok (.invokevirtual 281, 3) := am_row (r := (19, .invokevirtual 281, 3)) ro_WD_stands 11 rfl
theorem d_WD_stands_22 : decode prog_1_method_33_code 22 = .ok (.getfield 291, 3) := am_row (r := (22, .getfield 291, 3)) ro_WD_stands 12 rfl
theorem d_WD_stands_25 : decode prog_1_method_33_code 25 = .ok (.iload_n 1, 1) := am_row (r := (25, .iload_n 1, 1)) ro_WD_stands 13 rfl
theorem d_WD_stands_26 : decode prog_1_method_33_code 26 = .ok (.iaload, 1) := am_row (r := (26, .iaload, 1)) ro_WD_stands 14 rfl
theorem d_WD_stands_27 : decode prog_1_method_33_code 27 = .ok (.invokevirtual 91, 3) := am_row (r := (27, .invokevirtual 91, 3)) ro_WD_stands 15 rfl
theorem d_WD_stands_30 : decode prog_1_method_33_code 30 = .ok (.ireturn, 1) := am_row (r := (30, .ireturn, 1)) ro_WD_stands 16 rfl
abbrev y_WD_stand : MethodName := ⟨"WheelDisc", "stand", "(I)I"⟩
theorem c_WD_stand : Cond.code y_WD_stand prog_1_method_34_code 2 (some .int) ∈ am_T := am_mem 872 (by decide +kernel) rfl
def rw_WD_stand : List (Nat × Instr × Nat) := [(0, .aload_n 0, 1), (1, .getfield 57, 3), (4, .iload_n 1, 1), (5, .invokevirtual 288, 3), (8, .ifCond .eq 15, 3), (11, .aload_n 0, 1), (12, .invokevirtual 281, 3), (15, .getfield 291, 3), (18, .iload_n 1, 1), (19, .iaload, 1), (20, .ifCond .ne 9, 3), (23, .aload_n 0, 1), (24, .iconst 1, 1), (25, .invokevirtual 95, 3), (28, .ireturn, 1), (29, .aload_n 0, 1), (30, .aload_n 0, 1), (31, .invokevirtual 281, 3), (34, .getfield 294, 3), (37, .iload_n 1, 1), (38, .iaload, 1), (39, .invokevirtual 91, 3), (42, .ireturn, 1)]
theorem ro_WD_stand : rw_WD_stand.all (fun r => decide (decode prog_1_method_34_code r.1 = .ok r.2)) = true := by decide +kernel
theorem d_WD_stand_0 : decode prog_1_method_34_code 0 = .ok (.aload_n 0, 1) := am_row (r := (0, .aload_n 0, 1)) ro_WD_stand 0 rfl
theorem d_WD_stand_1 : decode prog_1_method_34_code 1 = .ok (.getfield 57, 3) := am_row (r := (1, .getfield 57, 3)) ro_WD_stand 1 rfl
theorem d_WD_stand_4 : decode prog_1_method_34_code 4 = .ok (.iload_n 1, 1) := am_row (r := (4, .iload_n 1, 1)) ro_WD_stand 2 rfl
theorem d_WD_stand_5 : decode prog_1_method_34_code 5 = .ok (.invokevirtual 288, 3) := am_row (r := (5, .invokevirtual 288, 3)) ro_WD_stand 3 rfl
theorem d_WD_stand_8 : decode prog_1_method_34_code 8 = .ok (.ifCond .eq 15, 3) := am_row (r := (8, .ifCond .eq 15, 3)) ro_WD_stand 4 rfl
theorem d_WD_stand_11 : decode prog_1_method_34_code 11 = .ok (.aload_n 0, 1) := am_row (r := (11, .aload_n 0, 1)) ro_WD_stand 5 rfl
theorem d_WD_stand_12 : decode prog_1_method_34_code 12 = .ok (.invokevirtual 281, 3) := am_row (r := (12, .invokevirtual 281, 3)) ro_WD_stand 6 rfl
theorem d_WD_stand_15 : decode prog_1_method_34_code 15 = .ok (.getfield 291, 3) := am_row (r := (15, .getfield 291, 3)) ro_WD_stand 7 rfl
theorem d_WD_stand_18 : decode prog_1_method_34_code 18 = .ok (.iload_n 1, 1) := am_row (r := (18, .iload_n 1, 1)) ro_WD_stand 8 rfl
theorem d_WD_stand_19 : decode prog_1_method_34_code 19 = .ok (.iaload, 1) := am_row (r := (19, .iaload, 1)) ro_WD_stand 9 rfl
theorem d_WD_stand_20 : decode prog_1_method_34_code 20 = .ok (.ifCond .ne 9, 3) := am_row (r := (20, .ifCond .ne 9, 3)) ro_WD_stand 10 rfl
theorem d_WD_stand_23 : decode prog_1_method_34_code 23 = .ok (.aload_n 0, 1) := am_row (r := (23, .aload_n 0, 1)) ro_WD_stand 11 rfl
theorem d_WD_stand_24 : decode prog_1_method_34_code 24 = .ok (.iconst 1, 1) := am_row (r := (24, .iconst 1, 1)) ro_WD_stand 12 rfl
theorem d_WD_stand_25 : decode prog_1_method_34_code 25 = .ok (.invokevirtual 95, 3) := am_row (r := (25, .invokevirtual 95, 3)) ro_WD_stand 13 rfl
theorem d_WD_stand_28 : decode prog_1_method_34_code 28 = .ok (.ireturn, 1) := am_row (r := (28, .ireturn, 1)) ro_WD_stand 14 rfl
theorem d_WD_stand_29 : decode prog_1_method_34_code 29 = .ok (.aload_n 0, 1) := am_row (r := (29, .aload_n 0, 1)) ro_WD_stand 15 rfl
theorem d_WD_stand_30 : decode prog_1_method_34_code 30 = .ok (.aload_n 0, 1) := am_row (r := (30, .aload_n 0, 1)) ro_WD_stand 16 rfl
theorem d_WD_stand_31 : decode prog_1_method_34_code 31 = .ok (.invokevirtual 281, 3) := am_row (r := (31, .invokevirtual 281, 3)) ro_WD_stand 17 rfl
theorem d_WD_stand_34 : decode prog_1_method_34_code 34 = .ok (.getfield 294, 3) := am_row (r := (34, .getfield 294, 3)) ro_WD_stand 18 rfl
theorem d_WD_stand_37 : decode prog_1_method_34_code 37 = .ok (.iload_n 1, 1) := am_row (r := (37, .iload_n 1, 1)) ro_WD_stand 19 rfl
theorem d_WD_stand_38 : decode prog_1_method_34_code 38 = .ok (.iaload, 1) := am_row (r := (38, .iaload, 1)) ro_WD_stand 20 rfl
theorem d_WD_stand_39 : decode prog_1_method_34_code 39 = .ok (.invokevirtual 91, 3) := am_row (r := (39, .invokevirtual 91, 3)) ro_WD_stand 21 rfl
theorem d_WD_stand_42 : decode prog_1_method_34_code 42 = .ok (.ireturn, 1) := am_row (r := (42, .ireturn, 1)) ro_WD_stand 22 rfl
abbrev y_Math_abs : MethodName := ⟨"java/lang/Math", "abs", "(I)I"⟩
theorem c_Math_abs : Cond.code y_Math_abs prog_15_method_59_code 1 (some .int) ∈ am_T := am_mem 887 (by decide +kernel) rfl
def rw_Math_abs : List (Nat × Instr × Nat) := [(0, .iload_n 0, 1), (1, .ifCond .ge 8, 3), (4, .iload_n 0, 1), (5, .ineg, 1), (6, .goto 4, 3), (9, .iload_n 0, 1), (10, .ireturn, 1)]
theorem ro_Math_abs : rw_Math_abs.all (fun r => decide (decode prog_15_method_59_code r.1 = .ok r.2)) = true := by decide +kernel
theorem d_Math_abs_0 : decode prog_15_method_59_code 0 = .ok (.iload_n 0, 1) := am_row (r := (0, .iload_n 0, 1)) ro_Math_abs 0 rfl
theorem d_Math_abs_1 : decode prog_15_method_59_code 1 = .ok (.ifCond .ge 8, 3) := am_row (r := (1, .ifCond .ge 8, 3)) ro_Math_abs 1 rfl
theorem d_Math_abs_4 : decode prog_15_method_59_code 4 = .ok (.iload_n 0, 1) := am_row (r := (4, .iload_n 0, 1)) ro_Math_abs 2 rfl
theorem d_Math_abs_5 : decode prog_15_method_59_code 5 = .ok (.ineg, 1) := am_row (r := (5, .ineg, 1)) ro_Math_abs 3 rfl
theorem d_Math_abs_6 : decode prog_15_method_59_code 6 = .ok (.goto 4, 3) := am_row (r := (6, .goto 4, 3)) ro_Math_abs 4 rfl
theorem d_Math_abs_9 : decode prog_15_method_59_code 9 = .ok (.iload_n 0, 1) := am_row (r := (9, .iload_n 0, 1)) ro_Math_abs 5 rfl
theorem d_Math_abs_10 : decode prog_15_method_59_code 10 = .ok (.ireturn, 1) := am_row (r := (10, .ireturn, 1)) ro_Math_abs 6 rfl
abbrev y_Drive_wayRound : MethodName := ⟨"WheelDisc$Drive", "wayRound", "(III)I"⟩
theorem c_Drive_wayRound : Cond.code y_Drive_wayRound prog_3_method_11_code 4 (some .int) ∈ am_T := am_mem 884 (by decide +kernel) rfl
def rw_Drive_wayRound : List (Nat × Instr × Nat) := [(0, .iload_n 0, 1), (1, .iload_n 1, 1), (2, .isub, 1), (3, .invokestatic 72, 3), (6, .istore_n 3, 1), (7, .iload_n 3, 1), (8, .iload_n 2, 1), (9, .iload_n 3, 1), (10, .isub, 1), (11, .invokestatic 77, 3), (14, .ireturn, 1)]
theorem ro_Drive_wayRound : rw_Drive_wayRound.all (fun r => decide (decode prog_3_method_11_code r.1 = .ok r.2)) = true := by decide +kernel
theorem d_Drive_wayRound_0 : decode prog_3_method_11_code 0 = .ok (.iload_n 0, 1) := am_row (r := (0, .iload_n 0, 1)) ro_Drive_wayRound 0 rfl
theorem d_Drive_wayRound_1 : decode prog_3_method_11_code 1 = .ok (.iload_n 1, 1) := am_row (r := (1, .iload_n 1, 1)) ro_Drive_wayRound 1 rfl
theorem d_Drive_wayRound_2 : decode prog_3_method_11_code 2 = .ok (.isub, 1) := am_row (r := (2, .isub, 1)) ro_Drive_wayRound 2 rfl
theorem d_Drive_wayRound_3 : decode prog_3_method_11_code 3 = .ok (.invokestatic 72, 3) := am_row (r := (3, .invokestatic 72, 3)) ro_Drive_wayRound 3 rfl
theorem d_Drive_wayRound_6 : decode prog_3_method_11_code 6 = .ok (.istore_n 3, 1) := am_row (r := (6, .istore_n 3, 1)) ro_Drive_wayRound 4 rfl
theorem d_Drive_wayRound_7 : decode prog_3_method_11_code 7 = .ok (.iload_n 3, 1) := am_row (r := (7, .iload_n 3, 1)) ro_Drive_wayRound 5 rfl
theorem d_Drive_wayRound_8 : decode prog_3_method_11_code 8 = .ok (.iload_n 2, 1) := am_row (r := (8, .iload_n 2, 1)) ro_Drive_wayRound 6 rfl
theorem d_Drive_wayRound_9 : decode prog_3_method_11_code 9 = .ok (.iload_n 3, 1) := am_row (r := (9, .iload_n 3, 1)) ro_Drive_wayRound 7 rfl
theorem d_Drive_wayRound_10 : decode prog_3_method_11_code 10 = .ok (.isub, 1) := am_row (r := (10, .isub, 1)) ro_Drive_wayRound 8 rfl
theorem d_Drive_wayRound_11 : decode prog_3_method_11_code 11 = .ok (.invokestatic 77, 3) := am_row (r := (11, .invokestatic 77, 3)) ro_Drive_wayRound 9 rfl
theorem d_Drive_wayRound_14 : decode prog_3_method_11_code 14 = .ok (.ireturn, 1) := am_row (r := (14, .ireturn, 1)) ro_Drive_wayRound 10 rfl
abbrev y_Drive_mendedStand : MethodName := ⟨"WheelDisc$Drive", "mendedStand", "(LWheelDisc$View;)I"⟩
theorem c_Drive_mendedStand : Cond.code y_Drive_mendedStand prog_3_method_10_code 8 (some .int) ∈ am_T := am_mem 880 (by decide +kernel) rfl
def rw_Drive_mendedStand : List (Nat × Instr × Nat) := [(0, .aload_n 0, 1), (1, .getfield 35, 3), (4, .iconst (-1), 1), (5, .if_icmp .ne 5, 3), (8, .iconst (-1), 1), (9, .ireturn, 1), (10, .aload_n 0, 1), (11, .getfield 35, 3), (14, .ifCond .ne 7, 3), (17, .iconst 0, 1), (18, .goto 14, 3), (21, .aload_n 0, 1), (22, .getfield 18, 3), (25, .aload_n 0, 1), (26, .getfield 35, 3), (29, .iconst 1, 1), (30, .isub, 1), (31, .iaload, 1), (32, .istore_n 2, 1), (33, .iconst 0, 1), (34, .istore_n 3, 1), (35, .iconst 1, 1), (36, .istore 4, 2), (38, .iload 4, 2), (40, .aload_n 1, 1), (41, .getfield 45, 3), (44, .if_icmp .ge 103, 3), (47, .aload_n 1, 1), (48, .getfield 50, 3), (51, .iload 4, 2), (53, .iaload, 1), (54, .aload_n 0, 1), (55, .getfield 11, 3), (58, .aload_n 0, 1), (59, .getfield 35, 3), (62, .iaload, 1), (63, .ixor, 1), (64, .invokestatic 63, 3), (67, .istore 5, 2), (69, .aload_n 1, 1), (70, .getfield 50, 3), (73, .iload_n 3, 1), (74, .iaload, 1), (75, .aload_n 0, 1), (76, .getfield 11, 3), (79, .aload_n 0, 1), (80, .getfield 35, 3), (83, .iaload, 1), (84, .ixor, 1), (85, .invokestatic 63, 3), (88, .istore 6, 2), (90, .iload 4, 2), (92, .iload_n 2, 1), (93, .aload_n 1, 1), (94, .getfield 45, 3), (97, .invokestatic 69, 3), (100, .iload_n 3, 1), (101, .iload_n 2, 1), (102, .aload_n 1, 1), (103, .getfield 45, 3), (106, .invokestatic 69, 3), (109, .if_icmp .ge 7, 3), (112, .iconst 1, 1), (113, .goto 4, 3), (116, .iconst 0, 1), (117, .istore 7, 2), (119, .iload 5, 2), (121, .iload 6, 2), (123, .if_icmp .lt 15, 3), (126, .iload 5, 2), (128, .iload 6, 2), (130, .if_icmp .ne 11, 3), (133, .iload 7, 2), (135, .ifCond .eq 6, 3), (138, .iload 4, 2), (140, .istore_n 3, 1), (141, .iinc 4 1, 3), (144, .goto (-106), 3), (147, .iload_n 3, 1), (148, .ireturn, 1)]
theorem ro_Drive_mendedStand : rw_Drive_mendedStand.all (fun r => decide (decode prog_3_method_10_code r.1 = .ok r.2)) = true := by decide +kernel
theorem d_Drive_mendedStand_0 : decode prog_3_method_10_code 0 = .ok (.aload_n 0, 1) := am_row (r := (0, .aload_n 0, 1)) ro_Drive_mendedStand 0 rfl
theorem d_Drive_mendedStand_1 : decode prog_3_method_10_code 1 = .ok (.getfield 35, 3) := am_row (r := (1, .getfield 35, 3)) ro_Drive_mendedStand 1 rfl
theorem d_Drive_mendedStand_4 : decode prog_3_method_10_code 4 = .ok (.iconst (-1), 1) := am_row (r := (4, .iconst (-1), 1)) ro_Drive_mendedStand 2 rfl
theorem d_Drive_mendedStand_5 : decode prog_3_method_10_code 5 = .ok (.if_icmp .ne 5, 3) := am_row (r := (5, .if_icmp .ne 5, 3)) ro_Drive_mendedStand 3 rfl
theorem d_Drive_mendedStand_8 : decode prog_3_method_10_code 8 = .ok (.iconst (-1), 1) := am_row (r := (8, .iconst (-1), 1)) ro_Drive_mendedStand 4 rfl
theorem d_Drive_mendedStand_9 : decode prog_3_method_10_code 9 = .ok (.ireturn, 1) := am_row (r := (9, .ireturn, 1)) ro_Drive_mendedStand 5 rfl
theorem d_Drive_mendedStand_10 : decode prog_3_method_10_code 10 = .ok (.aload_n 0, 1) := am_row (r := (10, .aload_n 0, 1)) ro_Drive_mendedStand 6 rfl
theorem d_Drive_mendedStand_11 : decode prog_3_method_10_code 11 = .ok (.getfield 35, 3) := am_row (r := (11, .getfield 35, 3)) ro_Drive_mendedStand 7 rfl
theorem d_Drive_mendedStand_14 : decode prog_3_method_10_code 14 = .ok (.ifCond .ne 7, 3) := am_row (r := (14, .ifCond .ne 7, 3)) ro_Drive_mendedStand 8 rfl
theorem d_Drive_mendedStand_17 : decode prog_3_method_10_code 17 = .ok (.iconst 0, 1) := am_row (r := (17, .iconst 0, 1)) ro_Drive_mendedStand 9 rfl
theorem d_Drive_mendedStand_18 : decode prog_3_method_10_code 18 = .ok (.goto 14, 3) := am_row (r := (18, .goto 14, 3)) ro_Drive_mendedStand 10 rfl
theorem d_Drive_mendedStand_21 : decode prog_3_method_10_code 21 = .ok (.aload_n 0, 1) := am_row (r := (21, .aload_n 0, 1)) ro_Drive_mendedStand 11 rfl
theorem d_Drive_mendedStand_22 : decode prog_3_method_10_code 22 = .ok (.getfield 18, 3) := am_row (r := (22, .getfield 18, 3)) ro_Drive_mendedStand 12 rfl
theorem d_Drive_mendedStand_25 : decode prog_3_method_10_code 25 = .ok (.aload_n 0, 1) := am_row (r := (25, .aload_n 0, 1)) ro_Drive_mendedStand 13 rfl
theorem d_Drive_mendedStand_26 : decode prog_3_method_10_code 26 = .ok (.getfield 35, 3) := am_row (r := (26, .getfield 35, 3)) ro_Drive_mendedStand 14 rfl
theorem d_Drive_mendedStand_29 : decode prog_3_method_10_code 29 = .ok (.iconst 1, 1) := am_row (r := (29, .iconst 1, 1)) ro_Drive_mendedStand 15 rfl
theorem d_Drive_mendedStand_30 : decode prog_3_method_10_code 30 = .ok (.isub, 1) := am_row (r := (30, .isub, 1)) ro_Drive_mendedStand 16 rfl
theorem d_Drive_mendedStand_31 : decode prog_3_method_10_code 31 = .ok (.iaload, 1) := am_row (r := (31, .iaload, 1)) ro_Drive_mendedStand 17 rfl
theorem d_Drive_mendedStand_32 : decode prog_3_method_10_code 32 = .ok (.istore_n 2, 1) := am_row (r := (32, .istore_n 2, 1)) ro_Drive_mendedStand 18 rfl
theorem d_Drive_mendedStand_33 : decode prog_3_method_10_code 33 = .ok (.iconst 0, 1) := am_row (r := (33, .iconst 0, 1)) ro_Drive_mendedStand 19 rfl
theorem d_Drive_mendedStand_34 : decode prog_3_method_10_code 34 = .ok (.istore_n 3, 1) := am_row (r := (34, .istore_n 3, 1)) ro_Drive_mendedStand 20 rfl
theorem d_Drive_mendedStand_35 : decode prog_3_method_10_code 35 = .ok (.iconst 1, 1) := am_row (r := (35, .iconst 1, 1)) ro_Drive_mendedStand 21 rfl
theorem d_Drive_mendedStand_36 : decode prog_3_method_10_code 36 = .ok (.istore 4, 2) := am_row (r := (36, .istore 4, 2)) ro_Drive_mendedStand 22 rfl
theorem d_Drive_mendedStand_38 : decode prog_3_method_10_code 38 = .ok (.iload 4, 2) := am_row (r := (38, .iload 4, 2)) ro_Drive_mendedStand 23 rfl
theorem d_Drive_mendedStand_40 : decode prog_3_method_10_code 40 = .ok (.aload_n 1, 1) := am_row (r := (40, .aload_n 1, 1)) ro_Drive_mendedStand 24 rfl
theorem d_Drive_mendedStand_41 : decode prog_3_method_10_code 41 = .ok (.getfield 45, 3) := am_row (r := (41, .getfield 45, 3)) ro_Drive_mendedStand 25 rfl
theorem d_Drive_mendedStand_44 : decode prog_3_method_10_code 44 = .ok (.if_icmp .ge 103, 3) := am_row (r := (44, .if_icmp .ge 103, 3)) ro_Drive_mendedStand 26 rfl
theorem d_Drive_mendedStand_47 : decode prog_3_method_10_code 47 = .ok (.aload_n 1, 1) := am_row (r := (47, .aload_n 1, 1)) ro_Drive_mendedStand 27 rfl
theorem d_Drive_mendedStand_48 : decode prog_3_method_10_code 48 = .ok (.getfield 50, 3) := am_row (r := (48, .getfield 50, 3)) ro_Drive_mendedStand 28 rfl
theorem d_Drive_mendedStand_51 : decode prog_3_method_10_code 51 = .ok (.iload 4, 2) := am_row (r := (51, .iload 4, 2)) ro_Drive_mendedStand 29 rfl
theorem d_Drive_mendedStand_53 : decode prog_3_method_10_code 53 = .ok (.iaload, 1) := am_row (r := (53, .iaload, 1)) ro_Drive_mendedStand 30 rfl
theorem d_Drive_mendedStand_54 : decode prog_3_method_10_code 54 = .ok (.aload_n 0, 1) := am_row (r := (54, .aload_n 0, 1)) ro_Drive_mendedStand 31 rfl
theorem d_Drive_mendedStand_55 : decode prog_3_method_10_code 55 = .ok (.getfield 11, 3) := am_row (r := (55, .getfield 11, 3)) ro_Drive_mendedStand 32 rfl
theorem d_Drive_mendedStand_58 : decode prog_3_method_10_code 58 = .ok (.aload_n 0, 1) := am_row (r := (58, .aload_n 0, 1)) ro_Drive_mendedStand 33 rfl
theorem d_Drive_mendedStand_59 : decode prog_3_method_10_code 59 = .ok (.getfield 35, 3) := am_row (r := (59, .getfield 35, 3)) ro_Drive_mendedStand 34 rfl
theorem d_Drive_mendedStand_62 : decode prog_3_method_10_code 62 = .ok (.iaload, 1) := am_row (r := (62, .iaload, 1)) ro_Drive_mendedStand 35 rfl
theorem d_Drive_mendedStand_63 : decode prog_3_method_10_code 63 = .ok (.ixor, 1) := am_row (r := (63, .ixor, 1)) ro_Drive_mendedStand 36 rfl
theorem d_Drive_mendedStand_64 : decode prog_3_method_10_code 64 = .ok (.invokestatic 63, 3) := am_row (r := (64, .invokestatic 63, 3)) ro_Drive_mendedStand 37 rfl
theorem d_Drive_mendedStand_67 : decode prog_3_method_10_code 67 = .ok (.istore 5, 2) := am_row (r := (67, .istore 5, 2)) ro_Drive_mendedStand 38 rfl
theorem d_Drive_mendedStand_69 : decode prog_3_method_10_code 69 = .ok (.aload_n 1, 1) := am_row (r := (69, .aload_n 1, 1)) ro_Drive_mendedStand 39 rfl
theorem d_Drive_mendedStand_70 : decode prog_3_method_10_code 70 = .ok (.getfield 50, 3) := am_row (r := (70, .getfield 50, 3)) ro_Drive_mendedStand 40 rfl
theorem d_Drive_mendedStand_73 : decode prog_3_method_10_code 73 = .ok (.iload_n 3, 1) := am_row (r := (73, .iload_n 3, 1)) ro_Drive_mendedStand 41 rfl
theorem d_Drive_mendedStand_74 : decode prog_3_method_10_code 74 = .ok (.iaload, 1) := am_row (r := (74, .iaload, 1)) ro_Drive_mendedStand 42 rfl
theorem d_Drive_mendedStand_75 : decode prog_3_method_10_code 75 = .ok (.aload_n 0, 1) := am_row (r := (75, .aload_n 0, 1)) ro_Drive_mendedStand 43 rfl
theorem d_Drive_mendedStand_76 : decode prog_3_method_10_code 76 = .ok (.getfield 11, 3) := am_row (r := (76, .getfield 11, 3)) ro_Drive_mendedStand 44 rfl
theorem d_Drive_mendedStand_79 : decode prog_3_method_10_code 79 = .ok (.aload_n 0, 1) := am_row (r := (79, .aload_n 0, 1)) ro_Drive_mendedStand 45 rfl
theorem d_Drive_mendedStand_80 : decode prog_3_method_10_code 80 = .ok (.getfield 35, 3) := am_row (r := (80, .getfield 35, 3)) ro_Drive_mendedStand 46 rfl
theorem d_Drive_mendedStand_83 : decode prog_3_method_10_code 83 = .ok (.iaload, 1) := am_row (r := (83, .iaload, 1)) ro_Drive_mendedStand 47 rfl
theorem d_Drive_mendedStand_84 : decode prog_3_method_10_code 84 = .ok (.ixor, 1) := am_row (r := (84, .ixor, 1)) ro_Drive_mendedStand 48 rfl
theorem d_Drive_mendedStand_85 : decode prog_3_method_10_code 85 = .ok (.invokestatic 63, 3) := am_row (r := (85, .invokestatic 63, 3)) ro_Drive_mendedStand 49 rfl
theorem d_Drive_mendedStand_88 : decode prog_3_method_10_code 88 = .ok (.istore 6, 2) := am_row (r := (88, .istore 6, 2)) ro_Drive_mendedStand 50 rfl
theorem d_Drive_mendedStand_90 : decode prog_3_method_10_code 90 = .ok (.iload 4, 2) := am_row (r := (90, .iload 4, 2)) ro_Drive_mendedStand 51 rfl
theorem d_Drive_mendedStand_92 : decode prog_3_method_10_code 92 = .ok (.iload_n 2, 1) := am_row (r := (92, .iload_n 2, 1)) ro_Drive_mendedStand 52 rfl
theorem d_Drive_mendedStand_93 : decode prog_3_method_10_code 93 = .ok (.aload_n 1, 1) := am_row (r := (93, .aload_n 1, 1)) ro_Drive_mendedStand 53 rfl
theorem d_Drive_mendedStand_94 : decode prog_3_method_10_code 94 = .ok (.getfield 45, 3) := am_row (r := (94, .getfield 45, 3)) ro_Drive_mendedStand 54 rfl
theorem d_Drive_mendedStand_97 : decode prog_3_method_10_code 97 = .ok (.invokestatic 69, 3) := am_row (r := (97, .invokestatic 69, 3)) ro_Drive_mendedStand 55 rfl
theorem d_Drive_mendedStand_100 : decode prog_3_method_10_code 100 = .ok (.iload_n 3, 1) := am_row (r := (100, .iload_n 3, 1)) ro_Drive_mendedStand 56 rfl
theorem d_Drive_mendedStand_101 : decode prog_3_method_10_code 101 = .ok (.iload_n 2, 1) := am_row (r := (101, .iload_n 2, 1)) ro_Drive_mendedStand 57 rfl
theorem d_Drive_mendedStand_102 : decode prog_3_method_10_code 102 = .ok (.aload_n 1, 1) := am_row (r := (102, .aload_n 1, 1)) ro_Drive_mendedStand 58 rfl
theorem d_Drive_mendedStand_103 : decode prog_3_method_10_code 103 = .ok (.getfield 45, 3) := am_row (r := (103, .getfield 45, 3)) ro_Drive_mendedStand 59 rfl
theorem d_Drive_mendedStand_106 : decode prog_3_method_10_code 106 = .ok (.invokestatic 69, 3) := am_row (r := (106, .invokestatic 69, 3)) ro_Drive_mendedStand 60 rfl
theorem d_Drive_mendedStand_109 : decode prog_3_method_10_code 109 = .ok (.if_icmp .ge 7, 3) := am_row (r := (109, .if_icmp .ge 7, 3)) ro_Drive_mendedStand 61 rfl
theorem d_Drive_mendedStand_112 : decode prog_3_method_10_code 112 = .ok (.iconst 1, 1) := am_row (r := (112, .iconst 1, 1)) ro_Drive_mendedStand 62 rfl
theorem d_Drive_mendedStand_113 : decode prog_3_method_10_code 113 = .ok (.goto 4, 3) := am_row (r := (113, .goto 4, 3)) ro_Drive_mendedStand 63 rfl
theorem d_Drive_mendedStand_116 : decode prog_3_method_10_code 116 = .ok (.iconst 0, 1) := am_row (r := (116, .iconst 0, 1)) ro_Drive_mendedStand 64 rfl
theorem d_Drive_mendedStand_117 : decode prog_3_method_10_code 117 = .ok (.istore 7, 2) := am_row (r := (117, .istore 7, 2)) ro_Drive_mendedStand 65 rfl
theorem d_Drive_mendedStand_119 : decode prog_3_method_10_code 119 = .ok (.iload 5, 2) := am_row (r := (119, .iload 5, 2)) ro_Drive_mendedStand 66 rfl
theorem d_Drive_mendedStand_121 : decode prog_3_method_10_code 121 = .ok (.iload 6, 2) := am_row (r := (121, .iload 6, 2)) ro_Drive_mendedStand 67 rfl
theorem d_Drive_mendedStand_123 : decode prog_3_method_10_code 123 = .ok (.if_icmp .lt 15, 3) := am_row (r := (123, .if_icmp .lt 15, 3)) ro_Drive_mendedStand 68 rfl
theorem d_Drive_mendedStand_126 : decode prog_3_method_10_code 126 = .ok (.iload 5, 2) := am_row (r := (126, .iload 5, 2)) ro_Drive_mendedStand 69 rfl
theorem d_Drive_mendedStand_128 : decode prog_3_method_10_code 128 = .ok (.iload 6, 2) := am_row (r := (128, .iload 6, 2)) ro_Drive_mendedStand 70 rfl
theorem d_Drive_mendedStand_130 : decode prog_3_method_10_code 130 = .ok (.if_icmp .ne 11, 3) := am_row (r := (130, .if_icmp .ne 11, 3)) ro_Drive_mendedStand 71 rfl
theorem d_Drive_mendedStand_133 : decode prog_3_method_10_code 133 = .ok (.iload 7, 2) := am_row (r := (133, .iload 7, 2)) ro_Drive_mendedStand 72 rfl
theorem d_Drive_mendedStand_135 : decode prog_3_method_10_code 135 = .ok (.ifCond .eq 6, 3) := am_row (r := (135, .ifCond .eq 6, 3)) ro_Drive_mendedStand 73 rfl
theorem d_Drive_mendedStand_138 : decode prog_3_method_10_code 138 = .ok (.iload 4, 2) := am_row (r := (138, .iload 4, 2)) ro_Drive_mendedStand 74 rfl
theorem d_Drive_mendedStand_140 : decode prog_3_method_10_code 140 = .ok (.istore_n 3, 1) := am_row (r := (140, .istore_n 3, 1)) ro_Drive_mendedStand 75 rfl
theorem d_Drive_mendedStand_141 : decode prog_3_method_10_code 141 = .ok (.iinc 4 1, 3) := am_row (r := (141, .iinc 4 1, 3)) ro_Drive_mendedStand 76 rfl
theorem d_Drive_mendedStand_144 : decode prog_3_method_10_code 144 = .ok (.goto (-106), 3) := am_row (r := (144, .goto (-106), 3)) ro_Drive_mendedStand 77 rfl
theorem d_Drive_mendedStand_147 : decode prog_3_method_10_code 147 = .ok (.iload_n 3, 1) := am_row (r := (147, .iload_n 3, 1)) ro_Drive_mendedStand 78 rfl
theorem d_Drive_mendedStand_148 : decode prog_3_method_10_code 148 = .ok (.ireturn, 1) := am_row (r := (148, .ireturn, 1)) ro_Drive_mendedStand 79 rfl
abbrev y_WD_mend : MethodName := ⟨"WheelDisc", "mend", "()I"⟩
theorem c_WD_mend : Cond.code y_WD_mend prog_1_method_35_code 1 (some .int) ∈ am_T := am_mem 876 (by decide +kernel) rfl
def rw_WD_mend : List (Nat × Instr × Nat) := [(0, .aload_n 0, 1), (1, .aload_n 0, 1), (2, .invokevirtual 281, 3), (5, .aload_n 0, 1), (6, .invokevirtual 187, 3), (9, .invokevirtual 297, 3), (12, .invokevirtual 91, 3), (15, .ireturn, 1)]
theorem ro_WD_mend : rw_WD_mend.all (fun r => decide (decode prog_1_method_35_code r.1 = .ok r.2)) = true := by decide +kernel
theorem d_WD_mend_0 : decode prog_1_method_35_code 0 = .ok (.aload_n 0, 1) := am_row (r := (0, .aload_n 0, 1)) ro_WD_mend 0 rfl
theorem d_WD_mend_1 : decode prog_1_method_35_code 1 = .ok (.aload_n 0, 1) := am_row (r := (1, .aload_n 0, 1)) ro_WD_mend 1 rfl
theorem d_WD_mend_2 : decode prog_1_method_35_code 2 = .ok (.invokevirtual 281, 3) := am_row (r := (2, .invokevirtual 281, 3)) ro_WD_mend 2 rfl
theorem d_WD_mend_5 : decode prog_1_method_35_code 5 = .ok (.aload_n 0, 1) := am_row (r := (5, .aload_n 0, 1)) ro_WD_mend 3 rfl
theorem d_WD_mend_6 : decode prog_1_method_35_code 6 = .ok (.invokevirtual 187, 3) := am_row (r := (6, .invokevirtual 187, 3)) ro_WD_mend 4 rfl
theorem d_WD_mend_9 : decode prog_1_method_35_code 9 = .ok (.invokevirtual 297, 3) := am_row (r := (9, .invokevirtual 297, 3)) ro_WD_mend 5 rfl
theorem d_WD_mend_12 : decode prog_1_method_35_code 12 = .ok (.invokevirtual 91, 3) := am_row (r := (12, .invokevirtual 91, 3)) ro_WD_mend 6 rfl
theorem d_WD_mend_15 : decode prog_1_method_35_code 15 = .ok (.ireturn, 1) := am_row (r := (15, .ireturn, 1)) ro_WD_mend 7 rfl
abbrev y_WL_add : MethodName := ⟨"WheelDisc$WordList", "add", "(I)V"⟩
theorem c_WL_add : Cond.code y_WL_add prog_11_method_2_code 2 none ∈ am_T := am_mem 896 (by decide +kernel) rfl
def rw_WL_add : List (Nat × Instr × Nat) := [(0, .aload_n 0, 1), (1, .getfield 11, 3), (4, .aload_n 0, 1), (5, .getfield 15, 3), (8, .iload_n 1, 1), (9, .iastore, 1), (10, .aload_n 0, 1), (11, .dup, 1), (12, .getfield 15, 3), (15, .iconst 1, 1), (16, .iadd, 1), (17, .putfield 15, 3), (20, .return_, 1)]
theorem ro_WL_add : rw_WL_add.all (fun r => decide (decode prog_11_method_2_code r.1 = .ok r.2)) = true := by decide +kernel
theorem d_WL_add_0 : decode prog_11_method_2_code 0 = .ok (.aload_n 0, 1) := am_row (r := (0, .aload_n 0, 1)) ro_WL_add 0 rfl
theorem d_WL_add_1 : decode prog_11_method_2_code 1 = .ok (.getfield 11, 3) := am_row (r := (1, .getfield 11, 3)) ro_WL_add 1 rfl
theorem d_WL_add_4 : decode prog_11_method_2_code 4 = .ok (.aload_n 0, 1) := am_row (r := (4, .aload_n 0, 1)) ro_WL_add 2 rfl
theorem d_WL_add_5 : decode prog_11_method_2_code 5 = .ok (.getfield 15, 3) := am_row (r := (5, .getfield 15, 3)) ro_WL_add 3 rfl
theorem d_WL_add_8 : decode prog_11_method_2_code 8 = .ok (.iload_n 1, 1) := am_row (r := (8, .iload_n 1, 1)) ro_WL_add 4 rfl
theorem d_WL_add_9 : decode prog_11_method_2_code 9 = .ok (.iastore, 1) := am_row (r := (9, .iastore, 1)) ro_WL_add 5 rfl
theorem d_WL_add_10 : decode prog_11_method_2_code 10 = .ok (.aload_n 0, 1) := am_row (r := (10, .aload_n 0, 1)) ro_WL_add 6 rfl
theorem d_WL_add_11 : decode prog_11_method_2_code 11 = .ok (.dup, 1) := am_row (r := (11, .dup, 1)) ro_WL_add 7 rfl
theorem d_WL_add_12 : decode prog_11_method_2_code 12 = .ok (.getfield 15, 3) := am_row (r := (12, .getfield 15, 3)) ro_WL_add 8 rfl
theorem d_WL_add_15 : decode prog_11_method_2_code 15 = .ok (.iconst 1, 1) := am_row (r := (15, .iconst 1, 1)) ro_WL_add 9 rfl
theorem d_WL_add_16 : decode prog_11_method_2_code 16 = .ok (.iadd, 1) := am_row (r := (16, .iadd, 1)) ro_WL_add 10 rfl
theorem d_WL_add_17 : decode prog_11_method_2_code 17 = .ok (.putfield 15, 3) := am_row (r := (17, .putfield 15, 3)) ro_WL_add 11 rfl
theorem d_WL_add_20 : decode prog_11_method_2_code 20 = .ok (.return_, 1) := am_row (r := (20, .return_, 1)) ro_WL_add 12 rfl
abbrev y_WD_tell : MethodName := ⟨"WheelDisc", "tell", "(I)I"⟩
theorem c_WD_tell : Cond.code y_WD_tell prog_1_method_36_code 2 (some .int) ∈ am_T := am_mem 892 (by decide +kernel) rfl
def rw_WD_tell : List (Nat × Instr × Nat) := [(0, .aload_n 0, 1), (1, .getfield 64, 3), (4, .getfield 196, 3), (7, .sipush 512, 3), (10, .if_icmp .lt 9, 3), (13, .aload_n 0, 1), (14, .iconst 4, 1), (15, .invokevirtual 95, 3), (18, .ireturn, 1), (19, .aload_n 0, 1), (20, .getfield 64, 3), (23, .iload_n 1, 1), (24, .invokevirtual 301, 3), (27, .aload_n 0, 1), (28, .aload_n 0, 1), (29, .getfield 64, 3), (32, .getfield 196, 3), (35, .invokevirtual 91, 3), (38, .ireturn, 1)]
theorem ro_WD_tell : rw_WD_tell.all (fun r => decide (decode prog_1_method_36_code r.1 = .ok r.2)) = true := by decide +kernel
theorem d_WD_tell_0 : decode prog_1_method_36_code 0 = .ok (.aload_n 0, 1) := am_row (r := (0, .aload_n 0, 1)) ro_WD_tell 0 rfl
theorem d_WD_tell_1 : decode prog_1_method_36_code 1 = .ok (.getfield 64, 3) := am_row (r := (1, .getfield 64, 3)) ro_WD_tell 1 rfl
theorem d_WD_tell_4 : decode prog_1_method_36_code 4 = .ok (.getfield 196, 3) := am_row (r := (4, .getfield 196, 3)) ro_WD_tell 2 rfl
theorem d_WD_tell_7 : decode prog_1_method_36_code 7 = .ok (.sipush 512, 3) := am_row (r := (7, .sipush 512, 3)) ro_WD_tell 3 rfl
theorem d_WD_tell_10 : decode prog_1_method_36_code 10 = .ok (.if_icmp .lt 9, 3) := am_row (r := (10, .if_icmp .lt 9, 3)) ro_WD_tell 4 rfl
theorem d_WD_tell_13 : decode prog_1_method_36_code 13 = .ok (.aload_n 0, 1) := am_row (r := (13, .aload_n 0, 1)) ro_WD_tell 5 rfl
theorem d_WD_tell_14 : decode prog_1_method_36_code 14 = .ok (.iconst 4, 1) := am_row (r := (14, .iconst 4, 1)) ro_WD_tell 6 rfl
theorem d_WD_tell_15 : decode prog_1_method_36_code 15 = .ok (.invokevirtual 95, 3) := am_row (r := (15, .invokevirtual 95, 3)) ro_WD_tell 7 rfl
theorem d_WD_tell_18 : decode prog_1_method_36_code 18 = .ok (.ireturn, 1) := am_row (r := (18, .ireturn, 1)) ro_WD_tell 8 rfl
theorem d_WD_tell_19 : decode prog_1_method_36_code 19 = .ok (.aload_n 0, 1) := am_row (r := (19, .aload_n 0, 1)) ro_WD_tell 9 rfl
theorem d_WD_tell_20 : decode prog_1_method_36_code 20 = .ok (.getfield 64, 3) := am_row (r := (20, .getfield 64, 3)) ro_WD_tell 10 rfl
theorem d_WD_tell_23 : decode prog_1_method_36_code 23 = .ok (.iload_n 1, 1) := am_row (r := (23, .iload_n 1, 1)) ro_WD_tell 11 rfl
theorem d_WD_tell_24 : decode prog_1_method_36_code 24 = .ok (.invokevirtual 301, 3) := am_row (r := (24, .invokevirtual 301, 3)) ro_WD_tell 12 rfl
theorem d_WD_tell_27 : decode prog_1_method_36_code 27 = .ok (.aload_n 0, 1) := am_row (r := (27, .aload_n 0, 1)) ro_WD_tell 13 rfl
theorem d_WD_tell_28 : decode prog_1_method_36_code 28 = .ok (.aload_n 0, 1) := am_row (r := (28, .aload_n 0, 1)) ro_WD_tell 14 rfl
theorem d_WD_tell_29 : decode prog_1_method_36_code 29 = .ok (.getfield 64, 3) := am_row (r := (29, .getfield 64, 3)) ro_WD_tell 15 rfl
theorem d_WD_tell_32 : decode prog_1_method_36_code 32 = .ok (.getfield 196, 3) := am_row (r := (32, .getfield 196, 3)) ro_WD_tell 16 rfl
theorem d_WD_tell_35 : decode prog_1_method_36_code 35 = .ok (.invokevirtual 91, 3) := am_row (r := (35, .invokevirtual 91, 3)) ro_WD_tell 17 rfl
theorem d_WD_tell_38 : decode prog_1_method_36_code 38 = .ok (.ireturn, 1) := am_row (r := (38, .ireturn, 1)) ro_WD_tell 18 rfl
abbrev y_WL_has : MethodName := ⟨"WheelDisc$WordList", "has", "(I)Z"⟩
theorem c_WL_has : Cond.code y_WL_has prog_11_method_3_code 2 (some .boolean) ∈ am_T := am_mem 904 (by decide +kernel) rfl
def rw_WL_has : List (Nat × Instr × Nat) := [(0, .iload_n 1, 1), (1, .ifCond .lt 15, 3), (4, .iload_n 1, 1), (5, .aload_n 0, 1), (6, .getfield 15, 3), (9, .if_icmp .ge 7, 3), (12, .iconst 1, 1), (13, .goto 4, 3), (16, .iconst 0, 1), (17, .ireturn, 1)]
theorem ro_WL_has : rw_WL_has.all (fun r => decide (decode prog_11_method_3_code r.1 = .ok r.2)) = true := by decide +kernel
theorem d_WL_has_0 : decode prog_11_method_3_code 0 = .ok (.iload_n 1, 1) := am_row (r := (0, .iload_n 1, 1)) ro_WL_has 0 rfl
theorem d_WL_has_1 : decode prog_11_method_3_code 1 = .ok (.ifCond .lt 15, 3) := am_row (r := (1, .ifCond .lt 15, 3)) ro_WL_has 1 rfl
theorem d_WL_has_4 : decode prog_11_method_3_code 4 = .ok (.iload_n 1, 1) := am_row (r := (4, .iload_n 1, 1)) ro_WL_has 2 rfl
theorem d_WL_has_5 : decode prog_11_method_3_code 5 = .ok (.aload_n 0, 1) := am_row (r := (5, .aload_n 0, 1)) ro_WL_has 3 rfl
theorem d_WL_has_6 : decode prog_11_method_3_code 6 = .ok (.getfield 15, 3) := am_row (r := (6, .getfield 15, 3)) ro_WL_has 4 rfl
theorem d_WL_has_9 : decode prog_11_method_3_code 9 = .ok (.if_icmp .ge 7, 3) := am_row (r := (9, .if_icmp .ge 7, 3)) ro_WL_has 5 rfl
theorem d_WL_has_12 : decode prog_11_method_3_code 12 = .ok (.iconst 1, 1) := am_row (r := (12, .iconst 1, 1)) ro_WL_has 6 rfl
theorem d_WL_has_13 : decode prog_11_method_3_code 13 = .ok (.goto 4, 3) := am_row (r := (13, .goto 4, 3)) ro_WL_has 7 rfl
theorem d_WL_has_16 : decode prog_11_method_3_code 16 = .ok (.iconst 0, 1) := am_row (r := (16, .iconst 0, 1)) ro_WL_has 8 rfl
theorem d_WL_has_17 : decode prog_11_method_3_code 17 = .ok (.ireturn, 1) := am_row (r := (17, .ireturn, 1)) ro_WL_has 9 rfl
abbrev y_WD_forge : MethodName := ⟨"WheelDisc", "forge", "(II)Z"⟩
theorem c_WD_forge : Cond.code y_WD_forge prog_1_method_37_code 3 (some .boolean) ∈ am_T := am_mem 900 (by decide +kernel) rfl
def rw_WD_forge : List (Nat × Instr × Nat) := [(0, .aload_n 0, 1), (1, .getfield 64, 3), (4, .iload_n 1, 1), (5, .invokevirtual 302, 3), (8, .ifCond .eq 13, 3), (11, .iload_n 2, 1), (12, .ifCond .lt 9, 3), (15, .iload_n 2, 1), (16, .bipush 31, 2), (18, .if_icmp .le 9, 3), (21, .aload_n 0, 1), (22, .iconst 1, 1), (23, .invokevirtual 102, 3), (26, .ireturn, 1), (27, .aload_n 0, 1), (28, .getfield 64, 3), (31, .getfield 303, 3), (34, .iload_n 1, 1), (35, .dup2, 1), (36, .iaload, 1), (37, .iconst 1, 1), (38, .iload_n 2, 1), (39, .ishl, 1), (40, .ixor, 1), (41, .iastore, 1), (42, .aload_n 0, 1), (43, .iconst 1, 1), (44, .invokevirtual 112, 3), (47, .ireturn, 1)]
theorem ro_WD_forge : rw_WD_forge.all (fun r => decide (decode prog_1_method_37_code r.1 = .ok r.2)) = true := by decide +kernel
theorem d_WD_forge_0 : decode prog_1_method_37_code 0 = .ok (.aload_n 0, 1) := am_row (r := (0, .aload_n 0, 1)) ro_WD_forge 0 rfl
theorem d_WD_forge_1 : decode prog_1_method_37_code 1 = .ok (.getfield 64, 3) := am_row (r := (1, .getfield 64, 3)) ro_WD_forge 1 rfl
theorem d_WD_forge_4 : decode prog_1_method_37_code 4 = .ok (.iload_n 1, 1) := am_row (r := (4, .iload_n 1, 1)) ro_WD_forge 2 rfl
theorem d_WD_forge_5 : decode prog_1_method_37_code 5 = .ok (.invokevirtual 302, 3) := am_row (r := (5, .invokevirtual 302, 3)) ro_WD_forge 3 rfl
theorem d_WD_forge_8 : decode prog_1_method_37_code 8 = .ok (.ifCond .eq 13, 3) := am_row (r := (8, .ifCond .eq 13, 3)) ro_WD_forge 4 rfl
theorem d_WD_forge_11 : decode prog_1_method_37_code 11 = .ok (.iload_n 2, 1) := am_row (r := (11, .iload_n 2, 1)) ro_WD_forge 5 rfl
theorem d_WD_forge_12 : decode prog_1_method_37_code 12 = .ok (.ifCond .lt 9, 3) := am_row (r := (12, .ifCond .lt 9, 3)) ro_WD_forge 6 rfl
theorem d_WD_forge_15 : decode prog_1_method_37_code 15 = .ok (.iload_n 2, 1) := am_row (r := (15, .iload_n 2, 1)) ro_WD_forge 7 rfl
theorem d_WD_forge_16 : decode prog_1_method_37_code 16 = .ok (.bipush 31, 2) := am_row (r := (16, .bipush 31, 2)) ro_WD_forge 8 rfl
theorem d_WD_forge_18 : decode prog_1_method_37_code 18 = .ok (.if_icmp .le 9, 3) := am_row (r := (18, .if_icmp .le 9, 3)) ro_WD_forge 9 rfl
theorem d_WD_forge_21 : decode prog_1_method_37_code 21 = .ok (.aload_n 0, 1) := am_row (r := (21, .aload_n 0, 1)) ro_WD_forge 10 rfl
theorem d_WD_forge_22 : decode prog_1_method_37_code 22 = .ok (.iconst 1, 1) := am_row (r := (22, .iconst 1, 1)) ro_WD_forge 11 rfl
theorem d_WD_forge_23 : decode prog_1_method_37_code 23 = .ok (.invokevirtual 102, 3) := am_row (r := (23, .invokevirtual 102, 3)) ro_WD_forge 12 rfl
theorem d_WD_forge_26 : decode prog_1_method_37_code 26 = .ok (.ireturn, 1) := am_row (r := (26, .ireturn, 1)) ro_WD_forge 13 rfl
theorem d_WD_forge_27 : decode prog_1_method_37_code 27 = .ok (.aload_n 0, 1) := am_row (r := (27, .aload_n 0, 1)) ro_WD_forge 14 rfl
theorem d_WD_forge_28 : decode prog_1_method_37_code 28 = .ok (.getfield 64, 3) := am_row (r := (28, .getfield 64, 3)) ro_WD_forge 15 rfl
theorem d_WD_forge_31 : decode prog_1_method_37_code 31 = .ok (.getfield 303, 3) := am_row (r := (31, .getfield 303, 3)) ro_WD_forge 16 rfl
theorem d_WD_forge_34 : decode prog_1_method_37_code 34 = .ok (.iload_n 1, 1) := am_row (r := (34, .iload_n 1, 1)) ro_WD_forge 17 rfl
theorem d_WD_forge_35 : decode prog_1_method_37_code 35 = .ok (.dup2, 1) := am_row (r := (35, .dup2, 1)) ro_WD_forge 18 rfl
theorem d_WD_forge_36 : decode prog_1_method_37_code 36 = .ok (.iaload, 1) := am_row (r := (36, .iaload, 1)) ro_WD_forge 19 rfl
theorem d_WD_forge_37 : decode prog_1_method_37_code 37 = .ok (.iconst 1, 1) := am_row (r := (37, .iconst 1, 1)) ro_WD_forge 20 rfl
theorem d_WD_forge_38 : decode prog_1_method_37_code 38 = .ok (.iload_n 2, 1) := am_row (r := (38, .iload_n 2, 1)) ro_WD_forge 21 rfl
theorem d_WD_forge_39 : decode prog_1_method_37_code 39 = .ok (.ishl, 1) := am_row (r := (39, .ishl, 1)) ro_WD_forge 22 rfl
theorem d_WD_forge_40 : decode prog_1_method_37_code 40 = .ok (.ixor, 1) := am_row (r := (40, .ixor, 1)) ro_WD_forge 23 rfl
theorem d_WD_forge_41 : decode prog_1_method_37_code 41 = .ok (.iastore, 1) := am_row (r := (41, .iastore, 1)) ro_WD_forge 24 rfl
theorem d_WD_forge_42 : decode prog_1_method_37_code 42 = .ok (.aload_n 0, 1) := am_row (r := (42, .aload_n 0, 1)) ro_WD_forge 25 rfl
theorem d_WD_forge_43 : decode prog_1_method_37_code 43 = .ok (.iconst 1, 1) := am_row (r := (43, .iconst 1, 1)) ro_WD_forge 26 rfl
theorem d_WD_forge_44 : decode prog_1_method_37_code 44 = .ok (.invokevirtual 112, 3) := am_row (r := (44, .invokevirtual 112, 3)) ro_WD_forge 27 rfl
theorem d_WD_forge_47 : decode prog_1_method_37_code 47 = .ok (.ireturn, 1) := am_row (r := (47, .ireturn, 1)) ro_WD_forge 28 rfl
