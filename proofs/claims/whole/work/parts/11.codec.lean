abbrev y_View_twoAreMarkedApartBy : MethodName := ⟨"WheelDisc$View", "twoAreMarkedApartBy", "(I)Z"⟩
theorem c_View_twoAreMarkedApartBy : Cond.code y_View_twoAreMarkedApartBy prog_10_method_16_code 3 (some .boolean) ∈ am_T := am_mem 657 (by decide +kernel) rfl
def rw_View_twoAreMarkedApartBy : List (Nat × Instr × Nat) := [(0, .iconst 0, 1), (1, .istore_n 2, 1), (2, .iload_n 2, 1), (3, .aload_n 0, 1), (4, .getfield 22, 3), (7, .if_icmp .ge 29, 3), (10, .aload_n 0, 1), (11, .getfield 18, 3), (14, .aload_n 0, 1), (15, .getfield 9, 3), (18, .iload_n 2, 1), (19, .iaload, 1), (20, .iload_n 1, 1), (21, .ixor, 1), (22, .invokevirtual 62, 3), (25, .ifCond .eq 5, 3), (28, .iconst 1, 1), (29, .ireturn, 1), (30, .iinc 2 1, 3), (33, .goto (-31), 3), (36, .iconst 0, 1), (37, .ireturn, 1)]
theorem ro_View_twoAreMarkedApartBy : rw_View_twoAreMarkedApartBy.all (fun r => decide (decode prog_10_method_16_code r.1 = .ok r.2)) = true := by decide +kernel
theorem d_View_twoAreMarkedApartBy_0 : decode prog_10_method_16_code 0 = .ok (.iconst 0, 1) := am_row (r := (0, .iconst 0, 1)) ro_View_twoAreMarkedApartBy 0 rfl
theorem d_View_twoAreMarkedApartBy_1 : decode prog_10_method_16_code 1 = .ok (.istore_n 2, 1) := am_row (r := (1, .istore_n 2, 1)) ro_View_twoAreMarkedApartBy 1 rfl
theorem d_View_twoAreMarkedApartBy_2 : decode prog_10_method_16_code 2 = .ok (.iload_n 2, 1) := am_row (r := (2, .iload_n 2, 1)) ro_View_twoAreMarkedApartBy 2 rfl
theorem d_View_twoAreMarkedApartBy_3 : decode prog_10_method_16_code 3 = .ok (.aload_n 0, 1) := am_row (r := (3, .aload_n 0, 1)) ro_View_twoAreMarkedApartBy 3 rfl
theorem d_View_twoAreMarkedApartBy_4 : decode prog_10_method_16_code 4 = .ok (.getfield 22, 3) := am_row (r := (4, .getfield 22, 3)) ro_View_twoAreMarkedApartBy 4 rfl
theorem d_View_twoAreMarkedApartBy_7 : decode prog_10_method_16_code 7 = .ok (.if_icmp .ge 29, 3) := am_row (r := (7, .if_icmp .ge 29, 3)) ro_View_twoAreMarkedApartBy 5 rfl
theorem d_View_twoAreMarkedApartBy_10 : decode prog_10_method_16_code 10 = .ok (.aload_n 0, 1) := am_row (r := (10, .aload_n 0, 1)) ro_View_twoAreMarkedApartBy 6 rfl
theorem d_View_twoAreMarkedApartBy_11 : decode prog_10_method_16_code 11 = .ok (.getfield 18, 3) := am_row (r := (11, .getfield 18, 3)) ro_View_twoAreMarkedApartBy 7 rfl
theorem d_View_twoAreMarkedApartBy_14 : decode prog_10_method_16_code 14 = .ok (.aload_n 0, 1) := am_row (r := (14, .aload_n 0, 1)) ro_View_twoAreMarkedApartBy 8 rfl
theorem d_View_twoAreMarkedApartBy_15 : decode prog_10_method_16_code 15 = .ok (.getfield 9, 3) := am_row (r := (15, .getfield 9, 3)) ro_View_twoAreMarkedApartBy 9 rfl
theorem d_View_twoAreMarkedApartBy_18 : decode prog_10_method_16_code 18 = .ok (.iload_n 2, 1) := am_row (r := (18, .iload_n 2, 1)) ro_View_twoAreMarkedApartBy 10 rfl
theorem d_View_twoAreMarkedApartBy_19 : decode prog_10_method_16_code 19 = .ok (.iaload, 1) := am_row (r := (19, .iaload, 1)) ro_View_twoAreMarkedApartBy 11 rfl
theorem d_View_twoAreMarkedApartBy_20 : decode prog_10_method_16_code 20 = .ok (.iload_n 1, 1) := am_row (r := (20, .iload_n 1, 1)) ro_View_twoAreMarkedApartBy 12 rfl
theorem d_View_twoAreMarkedApartBy_21 : decode prog_10_method_16_code 21 = .ok (.ixor, 1) := am_row (r := (21, .ixor, 1)) ro_View_twoAreMarkedApartBy 13 rfl
theorem d_View_twoAreMarkedApartBy_22 : decode prog_10_method_16_code 22 = .ok (.invokevirtual 62, 3) := am_row (r := (22, .invokevirtual 62, 3)) ro_View_twoAreMarkedApartBy 14 rfl
theorem d_View_twoAreMarkedApartBy_25 : decode prog_10_method_16_code 25 = .ok (.ifCond .eq 5, 3) := am_row (r := (25, .ifCond .eq 5, 3)) ro_View_twoAreMarkedApartBy 15 rfl
theorem d_View_twoAreMarkedApartBy_28 : decode prog_10_method_16_code 28 = .ok (.iconst 1, 1) := am_row (r := (28, .iconst 1, 1)) ro_View_twoAreMarkedApartBy 16 rfl
theorem d_View_twoAreMarkedApartBy_29 : decode prog_10_method_16_code 29 = .ok (.ireturn, 1) := am_row (r := (29, .ireturn, 1)) ro_View_twoAreMarkedApartBy 17 rfl
theorem d_View_twoAreMarkedApartBy_30 : decode prog_10_method_16_code 30 = .ok (.iinc 2 1, 3) := am_row (r := (30, .iinc 2 1, 3)) ro_View_twoAreMarkedApartBy 18 rfl
theorem d_View_twoAreMarkedApartBy_33 : decode prog_10_method_16_code 33 = .ok (.goto (-31), 3) := am_row (r := (33, .goto (-31), 3)) ro_View_twoAreMarkedApartBy 19 rfl
theorem d_View_twoAreMarkedApartBy_36 : decode prog_10_method_16_code 36 = .ok (.iconst 0, 1) := am_row (r := (36, .iconst 0, 1)) ro_View_twoAreMarkedApartBy 20 rfl
theorem d_View_twoAreMarkedApartBy_37 : decode prog_10_method_16_code 37 = .ok (.ireturn, 1) := am_row (r := (37, .ireturn, 1)) ro_View_twoAreMarkedApartBy 21 rfl
abbrev y_View_leastUnlike : MethodName := ⟨"WheelDisc$View", "leastUnlike", "()I"⟩
theorem c_View_leastUnlike : Cond.code y_View_leastUnlike prog_10_method_15_code 3 (some .int) ∈ am_T := am_mem 653 (by decide +kernel) rfl
def rw_View_leastUnlike : List (Nat × Instr × Nat) := [(0, .aload_n 0, 1), (1, .getfield 22, 3), (4, .iconst 1, 1), (5, .if_icmp .ne 5, 3), (8, .iconst (-1), 1), (9, .ireturn, 1), (10, .aload_n 0, 1), (11, .aload_n 0, 1), (12, .invokevirtual 41, 3), (15, .invokevirtual 45, 3), (18, .ifCond .ne 5, 3), (21, .iconst 0, 1), (22, .ireturn, 1), (23, .iconst 1, 1), (24, .istore_n 1, 1), (25, .iload_n 1, 1), (26, .aload_n 0, 1), (27, .getfield 26, 3), (30, .if_icmp .ge 43, 3), (33, .iconst 1, 1), (34, .istore_n 2, 1), (35, .iload_n 2, 1), (36, .aload_n 0, 1), (37, .invokevirtual 41, 3), (40, .if_icmp .gt 27, 3), (43, .iload_n 2, 1), (44, .invokestatic 72, 3), (47, .iload_n 1, 1), (48, .if_icmp .ne 13, 3), (51, .aload_n 0, 1), (52, .iload_n 2, 1), (53, .invokevirtual 91, 3), (56, .ifCond .eq 5, 3), (59, .iload_n 1, 1), (60, .ireturn, 1), (61, .iinc 2 1, 3), (64, .goto (-29), 3), (67, .iinc 1 1, 3), (70, .goto (-45), 3), (73, .aload_n 0, 1), (74, .getfield 26, 3), (77, .ireturn, 1)]
theorem ro_View_leastUnlike : rw_View_leastUnlike.all (fun r => decide (decode prog_10_method_15_code r.1 = .ok r.2)) = true := by decide +kernel
theorem d_View_leastUnlike_0 : decode prog_10_method_15_code 0 = .ok (.aload_n 0, 1) := am_row (r := (0, .aload_n 0, 1)) ro_View_leastUnlike 0 rfl
theorem d_View_leastUnlike_1 : decode prog_10_method_15_code 1 = .ok (.getfield 22, 3) := am_row (r := (1, .getfield 22, 3)) ro_View_leastUnlike 1 rfl
theorem d_View_leastUnlike_4 : decode prog_10_method_15_code 4 = .ok (.iconst 1, 1) := am_row (r := (4, .iconst 1, 1)) ro_View_leastUnlike 2 rfl
theorem d_View_leastUnlike_5 : decode prog_10_method_15_code 5 = .ok (.if_icmp .ne 5, 3) := am_row (r := (5, .if_icmp .ne 5, 3)) ro_View_leastUnlike 3 rfl
theorem d_View_leastUnlike_8 : decode prog_10_method_15_code 8 = .ok (.iconst (-1), 1) := am_row (r := (8, .iconst (-1), 1)) ro_View_leastUnlike 4 rfl
theorem d_View_leastUnlike_9 : decode prog_10_method_15_code 9 = .ok (.ireturn, 1) := am_row (r := (9, .ireturn, 1)) ro_View_leastUnlike 5 rfl
theorem d_View_leastUnlike_10 : decode prog_10_method_15_code 10 = .ok (.aload_n 0, 1) := am_row (r := (10, .aload_n 0, 1)) ro_View_leastUnlike 6 rfl
theorem d_View_leastUnlike_11 : decode prog_10_method_15_code 11 = .ok (.aload_n 0, 1) := am_row (r := (11, .aload_n 0, 1)) ro_View_leastUnlike 7 rfl
theorem d_View_leastUnlike_12 : decode prog_10_method_15_code 12 = .ok (.invokevirtual 41, 3) := am_row (r := (12, .invokevirtual 41, 3)) ro_View_leastUnlike 8 rfl
theorem d_View_leastUnlike_15 : decode prog_10_method_15_code 15 = .ok (.invokevirtual 45, 3) := am_row (r := (15, .invokevirtual 45, 3)) ro_View_leastUnlike 9 rfl
theorem d_View_leastUnlike_18 : decode prog_10_method_15_code 18 = .ok (.ifCond .ne 5, 3) := am_row (r := (18, .ifCond .ne 5, 3)) ro_View_leastUnlike 10 rfl
theorem d_View_leastUnlike_21 : decode prog_10_method_15_code 21 = .ok (.iconst 0, 1) := am_row (r := (21, .iconst 0, 1)) ro_View_leastUnlike 11 rfl
theorem d_View_leastUnlike_22 : decode prog_10_method_15_code 22 = .ok (.ireturn, 1) := am_row (r := (22, .ireturn, 1)) ro_View_leastUnlike 12 rfl
theorem d_View_leastUnlike_23 : decode prog_10_method_15_code 23 = .ok (.iconst 1, 1) := am_row (r := (23, .iconst 1, 1)) ro_View_leastUnlike 13 rfl
theorem d_View_leastUnlike_24 : decode prog_10_method_15_code 24 = .ok (.istore_n 1, 1) := am_row (r := (24, .istore_n 1, 1)) ro_View_leastUnlike 14 rfl
theorem d_View_leastUnlike_25 : decode prog_10_method_15_code 25 = .ok (.iload_n 1, 1) := am_row (r := (25, .iload_n 1, 1)) ro_View_leastUnlike 15 rfl
theorem d_View_leastUnlike_26 : decode prog_10_method_15_code 26 = .ok (.aload_n 0, 1) := am_row (r := (26, .aload_n 0, 1)) ro_View_leastUnlike 16 rfl
theorem d_View_leastUnlike_27 : decode prog_10_method_15_code 27 = .ok (.getfield 26, 3) := am_row (r := (27, .getfield 26, 3)) ro_View_leastUnlike 17 rfl
theorem d_View_leastUnlike_30 : decode prog_10_method_15_code 30 = .ok (.if_icmp .ge 43, 3) := am_row (r := (30, .if_icmp .ge 43, 3)) ro_View_leastUnlike 18 rfl
theorem d_View_leastUnlike_33 : decode prog_10_method_15_code 33 = .ok (.iconst 1, 1) := am_row (r := (33, .iconst 1, 1)) ro_View_leastUnlike 19 rfl
theorem d_View_leastUnlike_34 : decode prog_10_method_15_code 34 = .ok (.istore_n 2, 1) := am_row (r := (34, .istore_n 2, 1)) ro_View_leastUnlike 20 rfl
theorem d_View_leastUnlike_35 : decode prog_10_method_15_code 35 = .ok (.iload_n 2, 1) := am_row (r := (35, .iload_n 2, 1)) ro_View_leastUnlike 21 rfl
theorem d_View_leastUnlike_36 : decode prog_10_method_15_code 36 = .ok (.aload_n 0, 1) := am_row (r := (36, .aload_n 0, 1)) ro_View_leastUnlike 22 rfl
theorem d_View_leastUnlike_37 : decode prog_10_method_15_code 37 = .ok (.invokevirtual 41, 3) := am_row (r := (37, .invokevirtual 41, 3)) ro_View_leastUnlike 23 rfl
theorem d_View_leastUnlike_40 : decode prog_10_method_15_code 40 = .ok (.if_icmp .gt 27, 3) := am_row (r := (40, .if_icmp .gt 27, 3)) ro_View_leastUnlike 24 rfl
theorem d_View_leastUnlike_43 : decode prog_10_method_15_code 43 = .ok (.iload_n 2, 1) := am_row (r := (43, .iload_n 2, 1)) ro_View_leastUnlike 25 rfl
theorem d_View_leastUnlike_44 : decode prog_10_method_15_code 44 = .ok (.invokestatic 72, 3) := am_row (r := (44, .invokestatic 72, 3)) ro_View_leastUnlike 26 rfl
theorem d_View_leastUnlike_47 : decode prog_10_method_15_code 47 = .ok (.iload_n 1, 1) := am_row (r := (47, .iload_n 1, 1)) ro_View_leastUnlike 27 rfl
theorem d_View_leastUnlike_48 : decode prog_10_method_15_code 48 = .ok (.if_icmp .ne 13, 3) := am_row (r := (48, .if_icmp .ne 13, 3)) ro_View_leastUnlike 28 rfl
theorem d_View_leastUnlike_51 : decode prog_10_method_15_code 51 = .ok (.aload_n 0, 1) := am_row (r := (51, .aload_n 0, 1)) ro_View_leastUnlike 29 rfl
theorem d_View_leastUnlike_52 : decode prog_10_method_15_code 52 = .ok (.iload_n 2, 1) := am_row (r := (52, .iload_n 2, 1)) ro_View_leastUnlike 30 rfl
theorem d_View_leastUnlike_53 : decode prog_10_method_15_code 53 = .ok (.invokevirtual 91, 3) := am_row (r := (53, .invokevirtual 91, 3)) ro_View_leastUnlike 31 rfl
theorem d_View_leastUnlike_56 : decode prog_10_method_15_code 56 = .ok (.ifCond .eq 5, 3) := am_row (r := (56, .ifCond .eq 5, 3)) ro_View_leastUnlike 32 rfl
theorem d_View_leastUnlike_59 : decode prog_10_method_15_code 59 = .ok (.iload_n 1, 1) := am_row (r := (59, .iload_n 1, 1)) ro_View_leastUnlike 33 rfl
theorem d_View_leastUnlike_60 : decode prog_10_method_15_code 60 = .ok (.ireturn, 1) := am_row (r := (60, .ireturn, 1)) ro_View_leastUnlike 34 rfl
theorem d_View_leastUnlike_61 : decode prog_10_method_15_code 61 = .ok (.iinc 2 1, 3) := am_row (r := (61, .iinc 2 1, 3)) ro_View_leastUnlike 35 rfl
theorem d_View_leastUnlike_64 : decode prog_10_method_15_code 64 = .ok (.goto (-29), 3) := am_row (r := (64, .goto (-29), 3)) ro_View_leastUnlike 36 rfl
theorem d_View_leastUnlike_67 : decode prog_10_method_15_code 67 = .ok (.iinc 1 1, 3) := am_row (r := (67, .iinc 1 1, 3)) ro_View_leastUnlike 37 rfl
theorem d_View_leastUnlike_70 : decode prog_10_method_15_code 70 = .ok (.goto (-45), 3) := am_row (r := (70, .goto (-45), 3)) ro_View_leastUnlike 38 rfl
theorem d_View_leastUnlike_73 : decode prog_10_method_15_code 73 = .ok (.aload_n 0, 1) := am_row (r := (73, .aload_n 0, 1)) ro_View_leastUnlike 39 rfl
theorem d_View_leastUnlike_74 : decode prog_10_method_15_code 74 = .ok (.getfield 26, 3) := am_row (r := (74, .getfield 26, 3)) ro_View_leastUnlike 40 rfl
theorem d_View_leastUnlike_77 : decode prog_10_method_15_code 77 = .ok (.ireturn, 1) := am_row (r := (77, .ireturn, 1)) ro_View_leastUnlike 41 rfl
abbrev y_WD_fewest : MethodName := ⟨"WheelDisc", "fewest", "()I"⟩
theorem c_WD_fewest : Cond.code y_WD_fewest prog_1_method_20_code 1 (some .int) ∈ am_T := am_mem 649 (by decide +kernel) rfl
def rw_WD_fewest : List (Nat × Instr × Nat) := [(0, .aload_n 0, 1), (1, .aload_n 0, 1), (2, .invokevirtual 187, 3), (5, .invokevirtual 225, 3), (8, .invokevirtual 91, 3), (11, .ireturn, 1)]
theorem ro_WD_fewest : rw_WD_fewest.all (fun r => decide (decode prog_1_method_20_code r.1 = .ok r.2)) = true := by decide +kernel
theorem d_WD_fewest_0 : decode prog_1_method_20_code 0 = .ok (.aload_n 0, 1) := am_row (r := (0, .aload_n 0, 1)) ro_WD_fewest 0 rfl
theorem d_WD_fewest_1 : decode prog_1_method_20_code 1 = .ok (.aload_n 0, 1) := am_row (r := (1, .aload_n 0, 1)) ro_WD_fewest 1 rfl
theorem d_WD_fewest_2 : decode prog_1_method_20_code 2 = .ok (.invokevirtual 187, 3) := am_row (r := (2, .invokevirtual 187, 3)) ro_WD_fewest 2 rfl
theorem d_WD_fewest_5 : decode prog_1_method_20_code 5 = .ok (.invokevirtual 225, 3) := am_row (r := (5, .invokevirtual 225, 3)) ro_WD_fewest 3 rfl
theorem d_WD_fewest_8 : decode prog_1_method_20_code 8 = .ok (.invokevirtual 91, 3) := am_row (r := (8, .invokevirtual 91, 3)) ro_WD_fewest 4 rfl
theorem d_WD_fewest_11 : decode prog_1_method_20_code 11 = .ok (.ireturn, 1) := am_row (r := (11, .ireturn, 1)) ro_WD_fewest 5 rfl
abbrev y_View_sparedAlone : MethodName := ⟨"WheelDisc$View", "sparedAlone", "()I"⟩
theorem c_View_sparedAlone : Cond.code y_View_sparedAlone prog_10_method_17_code 3 (some .int) ∈ am_T := am_mem 665 (by decide +kernel) rfl
def rw_View_sparedAlone : List (Nat × Instr × Nat) := [(0, .iconst 0, 1), (1, .istore_n 1, 1), (2, .iconst 0, 1), (3, .istore_n 2, 1), (4, .iload_n 2, 1), (5, .aload_n 0, 1), (6, .getfield 26, 3), (9, .if_icmp .ge 32, 3), (12, .aload_n 0, 1), (13, .aload_n 0, 1), (14, .invokevirtual 41, 3), (17, .iconst 1, 1), (18, .iload_n 2, 1), (19, .ishl, 1), (20, .iconst (-1), 1), (21, .ixor, 1), (22, .iand, 1), (23, .invokevirtual 45, 3), (26, .ifCond .eq 9, 3), (29, .iload_n 1, 1), (30, .iconst 1, 1), (31, .iload_n 2, 1), (32, .ishl, 1), (33, .ior, 1), (34, .istore_n 1, 1), (35, .iinc 2 1, 3), (38, .goto (-34), 3), (41, .iload_n 1, 1), (42, .ireturn, 1)]
theorem ro_View_sparedAlone : rw_View_sparedAlone.all (fun r => decide (decode prog_10_method_17_code r.1 = .ok r.2)) = true := by decide +kernel
theorem d_View_sparedAlone_0 : decode prog_10_method_17_code 0 = .ok (.iconst 0, 1) := am_row (r := (0, .iconst 0, 1)) ro_View_sparedAlone 0 rfl
theorem d_View_sparedAlone_1 : decode prog_10_method_17_code 1 = .ok (.istore_n 1, 1) := am_row (r := (1, .istore_n 1, 1)) ro_View_sparedAlone 1 rfl
theorem d_View_sparedAlone_2 : decode prog_10_method_17_code 2 = .ok (.iconst 0, 1) := am_row (r := (2, .iconst 0, 1)) ro_View_sparedAlone 2 rfl
theorem d_View_sparedAlone_3 : decode prog_10_method_17_code 3 = .ok (.istore_n 2, 1) := am_row (r := (3, .istore_n 2, 1)) ro_View_sparedAlone 3 rfl
theorem d_View_sparedAlone_4 : decode prog_10_method_17_code 4 = .ok (.iload_n 2, 1) := am_row (r := (4, .iload_n 2, 1)) ro_View_sparedAlone 4 rfl
theorem d_View_sparedAlone_5 : decode prog_10_method_17_code 5 = .ok (.aload_n 0, 1) := am_row (r := (5, .aload_n 0, 1)) ro_View_sparedAlone 5 rfl
theorem d_View_sparedAlone_6 : decode prog_10_method_17_code 6 = .ok (.getfield 26, 3) := am_row (r := (6, .getfield 26, 3)) ro_View_sparedAlone 6 rfl
theorem d_View_sparedAlone_9 : decode prog_10_method_17_code 9 = .ok (.if_icmp .ge 32, 3) := am_row (r := (9, .if_icmp .ge 32, 3)) ro_View_sparedAlone 7 rfl
theorem d_View_sparedAlone_12 : decode prog_10_method_17_code 12 = .ok (.aload_n 0, 1) := am_row (r := (12, .aload_n 0, 1)) ro_View_sparedAlone 8 rfl
theorem d_View_sparedAlone_13 : decode prog_10_method_17_code 13 = .ok (.aload_n 0, 1) := am_row (r := (13, .aload_n 0, 1)) ro_View_sparedAlone 9 rfl
theorem d_View_sparedAlone_14 : decode prog_10_method_17_code 14 = .ok (.invokevirtual 41, 3) := am_row (r := (14, .invokevirtual 41, 3)) ro_View_sparedAlone 10 rfl
theorem d_View_sparedAlone_17 : decode prog_10_method_17_code 17 = .ok (.iconst 1, 1) := am_row (r := (17, .iconst 1, 1)) ro_View_sparedAlone 11 rfl
theorem d_View_sparedAlone_18 : decode prog_10_method_17_code 18 = .ok (.iload_n 2, 1) := am_row (r := (18, .iload_n 2, 1)) ro_View_sparedAlone 12 rfl
theorem d_View_sparedAlone_19 : decode prog_10_method_17_code 19 = .ok (.ishl, 1) := am_row (r := (19, .ishl, 1)) ro_View_sparedAlone 13 rfl
theorem d_View_sparedAlone_20 : decode prog_10_method_17_code 20 = .ok (.iconst (-1), 1) := am_row (r := (20, .iconst (-1), 1)) ro_View_sparedAlone 14 rfl
theorem d_View_sparedAlone_21 : decode prog_10_method_17_code 21 = .ok (.ixor, 1) := am_row (r := (21, .ixor, 1)) ro_View_sparedAlone 15 rfl
theorem d_View_sparedAlone_22 : decode prog_10_method_17_code 22 = .ok (.iand, 1) := am_row (r := (22, .iand, 1)) ro_View_sparedAlone 16 rfl
theorem d_View_sparedAlone_23 : decode prog_10_method_17_code 23 = .ok (.invokevirtual 45, 3) := am_row (r := (23, .invokevirtual 45, 3)) ro_View_sparedAlone 17 rfl
theorem d_View_sparedAlone_26 : decode prog_10_method_17_code 26 = .ok (.ifCond .eq 9, 3) := am_row (r := (26, .ifCond .eq 9, 3)) ro_View_sparedAlone 18 rfl
theorem d_View_sparedAlone_29 : decode prog_10_method_17_code 29 = .ok (.iload_n 1, 1) := am_row (r := (29, .iload_n 1, 1)) ro_View_sparedAlone 19 rfl
theorem d_View_sparedAlone_30 : decode prog_10_method_17_code 30 = .ok (.iconst 1, 1) := am_row (r := (30, .iconst 1, 1)) ro_View_sparedAlone 20 rfl
theorem d_View_sparedAlone_31 : decode prog_10_method_17_code 31 = .ok (.iload_n 2, 1) := am_row (r := (31, .iload_n 2, 1)) ro_View_sparedAlone 21 rfl
theorem d_View_sparedAlone_32 : decode prog_10_method_17_code 32 = .ok (.ishl, 1) := am_row (r := (32, .ishl, 1)) ro_View_sparedAlone 22 rfl
theorem d_View_sparedAlone_33 : decode prog_10_method_17_code 33 = .ok (.ior, 1) := am_row (r := (33, .ior, 1)) ro_View_sparedAlone 23 rfl
theorem d_View_sparedAlone_34 : decode prog_10_method_17_code 34 = .ok (.istore_n 1, 1) := am_row (r := (34, .istore_n 1, 1)) ro_View_sparedAlone 24 rfl
theorem d_View_sparedAlone_35 : decode prog_10_method_17_code 35 = .ok (.iinc 2 1, 3) := am_row (r := (35, .iinc 2 1, 3)) ro_View_sparedAlone 25 rfl
theorem d_View_sparedAlone_38 : decode prog_10_method_17_code 38 = .ok (.goto (-34), 3) := am_row (r := (38, .goto (-34), 3)) ro_View_sparedAlone 26 rfl
theorem d_View_sparedAlone_41 : decode prog_10_method_17_code 41 = .ok (.iload_n 1, 1) := am_row (r := (41, .iload_n 1, 1)) ro_View_sparedAlone 27 rfl
theorem d_View_sparedAlone_42 : decode prog_10_method_17_code 42 = .ok (.ireturn, 1) := am_row (r := (42, .ireturn, 1)) ro_View_sparedAlone 28 rfl
abbrev y_WD_blind : MethodName := ⟨"WheelDisc", "blind", "()I"⟩
theorem c_WD_blind : Cond.code y_WD_blind prog_1_method_21_code 1 (some .int) ∈ am_T := am_mem 661 (by decide +kernel) rfl
def rw_WD_blind : List (Nat × Instr × Nat) := [(0, .aload_n 0, 1), (1, .aload_n 0, 1), (2, .invokevirtual 187, 3), (5, .invokevirtual 228, 3), (8, .invokevirtual 91, 3), (11, .ireturn, 1)]
theorem ro_WD_blind : rw_WD_blind.all (fun r => decide (decode prog_1_method_21_code r.1 = .ok r.2)) = true := by decide +kernel
theorem d_WD_blind_0 : decode prog_1_method_21_code 0 = .ok (.aload_n 0, 1) := am_row (r := (0, .aload_n 0, 1)) ro_WD_blind 0 rfl
theorem d_WD_blind_1 : decode prog_1_method_21_code 1 = .ok (.aload_n 0, 1) := am_row (r := (1, .aload_n 0, 1)) ro_WD_blind 1 rfl
theorem d_WD_blind_2 : decode prog_1_method_21_code 2 = .ok (.invokevirtual 187, 3) := am_row (r := (2, .invokevirtual 187, 3)) ro_WD_blind 2 rfl
theorem d_WD_blind_5 : decode prog_1_method_21_code 5 = .ok (.invokevirtual 228, 3) := am_row (r := (5, .invokevirtual 228, 3)) ro_WD_blind 3 rfl
theorem d_WD_blind_8 : decode prog_1_method_21_code 8 = .ok (.invokevirtual 91, 3) := am_row (r := (8, .invokevirtual 91, 3)) ro_WD_blind 4 rfl
theorem d_WD_blind_11 : decode prog_1_method_21_code 11 = .ok (.ireturn, 1) := am_row (r := (11, .ireturn, 1)) ro_WD_blind 5 rfl
abbrev y_View_sparedTogether : MethodName := ⟨"WheelDisc$View", "sparedTogether", "()I"⟩
theorem c_View_sparedTogether : Cond.code y_View_sparedTogether prog_10_method_18_code 4 (some .int) ∈ am_T := am_mem 673 (by decide +kernel) rfl
def rw_View_sparedTogether : List (Nat × Instr × Nat) := [(0, .iconst 0, 1), (1, .istore_n 1, 1), (2, .iconst 0, 1), (3, .istore_n 2, 1), (4, .iload_n 2, 1), (5, .aload_n 0, 1), (6, .getfield 26, 3), (9, .if_icmp .ge 32, 3), (12, .iload_n 1, 1), (13, .iconst 1, 1), (14, .iload_n 2, 1), (15, .ishl, 1), (16, .ior, 1), (17, .istore_n 3, 1), (18, .aload_n 0, 1), (19, .aload_n 0, 1), (20, .invokevirtual 41, 3), (23, .iload_n 3, 1), (24, .iconst (-1), 1), (25, .ixor, 1), (26, .iand, 1), (27, .invokevirtual 45, 3), (30, .ifCond .eq 5, 3), (33, .iload_n 3, 1), (34, .istore_n 1, 1), (35, .iinc 2 1, 3), (38, .goto (-34), 3), (41, .iload_n 1, 1), (42, .ireturn, 1)]
theorem ro_View_sparedTogether : rw_View_sparedTogether.all (fun r => decide (decode prog_10_method_18_code r.1 = .ok r.2)) = true := by decide +kernel
theorem d_View_sparedTogether_0 : decode prog_10_method_18_code 0 = .ok (.iconst 0, 1) := am_row (r := (0, .iconst 0, 1)) ro_View_sparedTogether 0 rfl
theorem d_View_sparedTogether_1 : decode prog_10_method_18_code 1 = .ok (.istore_n 1, 1) := am_row (r := (1, .istore_n 1, 1)) ro_View_sparedTogether 1 rfl
theorem d_View_sparedTogether_2 : decode prog_10_method_18_code 2 = .ok (.iconst 0, 1) := am_row (r := (2, .iconst 0, 1)) ro_View_sparedTogether 2 rfl
theorem d_View_sparedTogether_3 : decode prog_10_method_18_code 3 = .ok (.istore_n 2, 1) := am_row (r := (3, .istore_n 2, 1)) ro_View_sparedTogether 3 rfl
theorem d_View_sparedTogether_4 : decode prog_10_method_18_code 4 = .ok (.iload_n 2, 1) := am_row (r := (4, .iload_n 2, 1)) ro_View_sparedTogether 4 rfl
theorem d_View_sparedTogether_5 : decode prog_10_method_18_code 5 = .ok (.aload_n 0, 1) := am_row (r := (5, .aload_n 0, 1)) ro_View_sparedTogether 5 rfl
theorem d_View_sparedTogether_6 : decode prog_10_method_18_code 6 = .ok (.getfield 26, 3) := am_row (r := (6, .getfield 26, 3)) ro_View_sparedTogether 6 rfl
theorem d_View_sparedTogether_9 : decode prog_10_method_18_code 9 = .ok (.if_icmp .ge 32, 3) := am_row (r := (9, .if_icmp .ge 32, 3)) ro_View_sparedTogether 7 rfl
theorem d_View_sparedTogether_12 : decode prog_10_method_18_code 12 = .ok (.iload_n 1, 1) := am_row (r := (12, .iload_n 1, 1)) ro_View_sparedTogether 8 rfl
theorem d_View_sparedTogether_13 : decode prog_10_method_18_code 13 = .ok (.iconst 1, 1) := am_row (r := (13, .iconst 1, 1)) ro_View_sparedTogether 9 rfl
theorem d_View_sparedTogether_14 : decode prog_10_method_18_code 14 = .ok (.iload_n 2, 1) := am_row (r := (14, .iload_n 2, 1)) ro_View_sparedTogether 10 rfl
theorem d_View_sparedTogether_15 : decode prog_10_method_18_code 15 = .ok (.ishl, 1) := am_row (r := (15, .ishl, 1)) ro_View_sparedTogether 11 rfl
theorem d_View_sparedTogether_16 : decode prog_10_method_18_code 16 = .ok (.ior, 1) := am_row (r := (16, .ior, 1)) ro_View_sparedTogether 12 rfl
theorem d_View_sparedTogether_17 : decode prog_10_method_18_code 17 = .ok (.istore_n 3, 1) := am_row (r := (17, .istore_n 3, 1)) ro_View_sparedTogether 13 rfl
theorem d_View_sparedTogether_18 : decode prog_10_method_18_code 18 = .ok (.aload_n 0, 1) := am_row (r := (18, .aload_n 0, 1)) ro_View_sparedTogether 14 rfl
theorem d_View_sparedTogether_19 : decode prog_10_method_18_code 19 = .ok (.aload_n 0, 1) := am_row (r := (19, .aload_n 0, 1)) ro_View_sparedTogether 15 rfl
theorem d_View_sparedTogether_20 : decode prog_10_method_18_code 20 = .ok (.invokevirtual 41, 3) := am_row (r := (20, .invokevirtual 41, 3)) ro_View_sparedTogether 16 rfl
theorem d_View_sparedTogether_23 : decode prog_10_method_18_code 23 = .ok (.iload_n 3, 1) := am_row (r := (23, .iload_n 3, 1)) ro_View_sparedTogether 17 rfl
theorem d_View_sparedTogether_24 : decode prog_10_method_18_code 24 = .ok (.iconst (-1), 1) := am_row (r := (24, .iconst (-1), 1)) ro_View_sparedTogether 18 rfl
theorem d_View_sparedTogether_25 : decode prog_10_method_18_code 25 = .ok (.ixor, 1) := am_row (r := (25, .ixor, 1)) ro_View_sparedTogether 19 rfl
theorem d_View_sparedTogether_26 : decode prog_10_method_18_code 26 = .ok (.iand, 1) := am_row (r := (26, .iand, 1)) ro_View_sparedTogether 20 rfl
theorem d_View_sparedTogether_27 : decode prog_10_method_18_code 27 = .ok (.invokevirtual 45, 3) := am_row (r := (27, .invokevirtual 45, 3)) ro_View_sparedTogether 21 rfl
theorem d_View_sparedTogether_30 : decode prog_10_method_18_code 30 = .ok (.ifCond .eq 5, 3) := am_row (r := (30, .ifCond .eq 5, 3)) ro_View_sparedTogether 22 rfl
theorem d_View_sparedTogether_33 : decode prog_10_method_18_code 33 = .ok (.iload_n 3, 1) := am_row (r := (33, .iload_n 3, 1)) ro_View_sparedTogether 23 rfl
theorem d_View_sparedTogether_34 : decode prog_10_method_18_code 34 = .ok (.istore_n 1, 1) := am_row (r := (34, .istore_n 1, 1)) ro_View_sparedTogether 24 rfl
theorem d_View_sparedTogether_35 : decode prog_10_method_18_code 35 = .ok (.iinc 2 1, 3) := am_row (r := (35, .iinc 2 1, 3)) ro_View_sparedTogether 25 rfl
theorem d_View_sparedTogether_38 : decode prog_10_method_18_code 38 = .ok (.goto (-34), 3) := am_row (r := (38, .goto (-34), 3)) ro_View_sparedTogether 26 rfl
theorem d_View_sparedTogether_41 : decode prog_10_method_18_code 41 = .ok (.iload_n 1, 1) := am_row (r := (41, .iload_n 1, 1)) ro_View_sparedTogether 27 rfl
theorem d_View_sparedTogether_42 : decode prog_10_method_18_code 42 = .ok (.ireturn, 1) := am_row (r := (42, .ireturn, 1)) ro_View_sparedTogether 28 rfl
abbrev y_WD_spare : MethodName := ⟨"WheelDisc", "spare", "()I"⟩
theorem c_WD_spare : Cond.code y_WD_spare prog_1_method_22_code 1 (some .int) ∈ am_T := am_mem 669 (by decide +kernel) rfl
def rw_WD_spare : List (Nat × Instr × Nat) := [(0, .aload_n 0, 1), (1, .aload_n 0, 1), (2, .invokevirtual 187, 3), (5, .invokevirtual 231, 3), (8, .invokevirtual 91, 3), (11, .ireturn, 1)]
theorem ro_WD_spare : rw_WD_spare.all (fun r => decide (decode prog_1_method_22_code r.1 = .ok r.2)) = true := by decide +kernel
theorem d_WD_spare_0 : decode prog_1_method_22_code 0 = .ok (.aload_n 0, 1) := am_row (r := (0, .aload_n 0, 1)) ro_WD_spare 0 rfl
theorem d_WD_spare_1 : decode prog_1_method_22_code 1 = .ok (.aload_n 0, 1) := am_row (r := (1, .aload_n 0, 1)) ro_WD_spare 1 rfl
theorem d_WD_spare_2 : decode prog_1_method_22_code 2 = .ok (.invokevirtual 187, 3) := am_row (r := (2, .invokevirtual 187, 3)) ro_WD_spare 2 rfl
theorem d_WD_spare_5 : decode prog_1_method_22_code 5 = .ok (.invokevirtual 231, 3) := am_row (r := (5, .invokevirtual 231, 3)) ro_WD_spare 3 rfl
theorem d_WD_spare_8 : decode prog_1_method_22_code 8 = .ok (.invokevirtual 91, 3) := am_row (r := (8, .invokevirtual 91, 3)) ro_WD_spare 4 rfl
theorem d_WD_spare_11 : decode prog_1_method_22_code 11 = .ok (.ireturn, 1) := am_row (r := (11, .ireturn, 1)) ro_WD_spare 5 rfl
abbrev y_Arr_fillI : MethodName := ⟨"java/util/Arrays", "fill", "([II)V"⟩
theorem c_Arr_fillI : Cond.code y_Arr_fillI prog_17_method_103_code 4 none ∈ am_T := am_mem 688 (by decide +kernel) rfl
def rw_Arr_fillI : List (Nat × Instr × Nat) := [(0, .iconst 0, 1), (1, .istore_n 2, 1), (2, .aload_n 0, 1), (3, .arraylength, 1), (4, .istore_n 3, 1), (5, .iload_n 2, 1), (6, .iload_n 3, 1), (7, .if_icmp .ge 13, 3), (10, .aload_n 0, 1), (11, .iload_n 2, 1), (12, .iload_n 1, 1), (13, .iastore, 1), (14, .iinc 2 1, 3), (17, .goto (-12), 3), (20, .return_, 1)]
theorem ro_Arr_fillI : rw_Arr_fillI.all (fun r => decide (decode prog_17_method_103_code r.1 = .ok r.2)) = true := by decide +kernel
theorem d_Arr_fillI_0 : decode prog_17_method_103_code 0 = .ok (.iconst 0, 1) := am_row (r := (0, .iconst 0, 1)) ro_Arr_fillI 0 rfl
theorem d_Arr_fillI_1 : decode prog_17_method_103_code 1 = .ok (.istore_n 2, 1) := am_row (r := (1, .istore_n 2, 1)) ro_Arr_fillI 1 rfl
theorem d_Arr_fillI_2 : decode prog_17_method_103_code 2 = .ok (.aload_n 0, 1) := am_row (r := (2, .aload_n 0, 1)) ro_Arr_fillI 2 rfl
theorem d_Arr_fillI_3 : decode prog_17_method_103_code 3 = .ok (.arraylength, 1) := am_row (r := (3, .arraylength, 1)) ro_Arr_fillI 3 rfl
theorem d_Arr_fillI_4 : decode prog_17_method_103_code 4 = .ok (.istore_n 3, 1) := am_row (r := (4, .istore_n 3, 1)) ro_Arr_fillI 4 rfl
theorem d_Arr_fillI_5 : decode prog_17_method_103_code 5 = .ok (.iload_n 2, 1) := am_row (r := (5, .iload_n 2, 1)) ro_Arr_fillI 5 rfl
theorem d_Arr_fillI_6 : decode prog_17_method_103_code 6 = .ok (.iload_n 3, 1) := am_row (r := (6, .iload_n 3, 1)) ro_Arr_fillI 6 rfl
theorem d_Arr_fillI_7 : decode prog_17_method_103_code 7 = .ok (.if_icmp .ge 13, 3) := am_row (r := (7, .if_icmp .ge 13, 3)) ro_Arr_fillI 7 rfl
theorem d_Arr_fillI_10 : decode prog_17_method_103_code 10 = .ok (.aload_n 0, 1) := am_row (r := (10, .aload_n 0, 1)) ro_Arr_fillI 8 rfl
theorem d_Arr_fillI_11 : decode prog_17_method_103_code 11 = .ok (.iload_n 2, 1) := am_row (r := (11, .iload_n 2, 1)) ro_Arr_fillI 9 rfl
theorem d_Arr_fillI_12 : decode prog_17_method_103_code 12 = .ok (.iload_n 1, 1) := am_row (r := (12, .iload_n 1, 1)) ro_Arr_fillI 10 rfl
theorem d_Arr_fillI_13 : decode prog_17_method_103_code 13 = .ok (.iastore, 1) := am_row (r := (13, .iastore, 1)) ro_Arr_fillI 11 rfl
theorem d_Arr_fillI_14 : decode prog_17_method_103_code 14 = .ok (.iinc 2 1, 3) := am_row (r := (14, .iinc 2 1, 3)) ro_Arr_fillI 12 rfl
theorem d_Arr_fillI_17 : decode prog_17_method_103_code 17 = .ok (.goto (-12), 3) := am_row (r := (17, .goto (-12), 3)) ro_Arr_fillI 13 rfl
theorem d_Arr_fillI_20 : decode prog_17_method_103_code 20 = .ok (.return_, 1) := am_row (r := (20, .return_, 1)) ro_Arr_fillI 14 rfl
abbrev y_Form_beginOrder : MethodName := ⟨"WheelDisc$Form", "beginOrder", "()V"⟩
theorem c_Form_beginOrder : Cond.code y_Form_beginOrder prog_4_method_7_code 2 none ∈ am_T := am_mem 700 (by decide +kernel) rfl
def rw_Form_beginOrder : List (Nat × Instr × Nat) := [(0, .iconst 0, 1), (1, .istore_n 1, 1), (2, .iload_n 1, 1), (3, .aload_n 0, 1), (4, .getfield 26, 3), (7, .if_icmp .ge 23, 3), (10, .aload_n 0, 1), (11, .getfield 15, 3), (14, .iload_n 1, 1), (15, .iload_n 1, 1), (16, .iastore, 1), (17, .aload_n 0, 1), (18, .getfield 18, 3), (21, .iload_n 1, 1), (22, .iconst 0, 1), (23, .bastore, 1), (24, .iinc 1 1, 3), (27, .goto (-25), 3), (30, .return_, 1)]
theorem ro_Form_beginOrder : rw_Form_beginOrder.all (fun r => decide (decode prog_4_method_7_code r.1 = .ok r.2)) = true := by decide +kernel
theorem d_Form_beginOrder_0 : decode prog_4_method_7_code 0 = .ok (.iconst 0, 1) := am_row (r := (0, .iconst 0, 1)) ro_Form_beginOrder 0 rfl
theorem d_Form_beginOrder_1 : decode prog_4_method_7_code 1 = .ok (.istore_n 1, 1) := am_row (r := (1, .istore_n 1, 1)) ro_Form_beginOrder 1 rfl
theorem d_Form_beginOrder_2 : decode prog_4_method_7_code 2 = .ok (.iload_n 1, 1) := am_row (r := (2, .iload_n 1, 1)) ro_Form_beginOrder 2 rfl
theorem d_Form_beginOrder_3 : decode prog_4_method_7_code 3 = .ok (.aload_n 0, 1) := am_row (r := (3, .aload_n 0, 1)) ro_Form_beginOrder 3 rfl
theorem d_Form_beginOrder_4 : decode prog_4_method_7_code 4 = .ok (.getfield 26, 3) := am_row (r := (4, .getfield 26, 3)) ro_Form_beginOrder 4 rfl
theorem d_Form_beginOrder_7 : decode prog_4_method_7_code 7 = .ok (.if_icmp .ge 23, 3) := am_row (r := (7, .if_icmp .ge 23, 3)) ro_Form_beginOrder 5 rfl
theorem d_Form_beginOrder_10 : decode prog_4_method_7_code 10 = .ok (.aload_n 0, 1) := am_row (r := (10, .aload_n 0, 1)) ro_Form_beginOrder 6 rfl
theorem d_Form_beginOrder_11 : decode prog_4_method_7_code 11 = .ok (.getfield 15, 3) := am_row (r := (11, .getfield 15, 3)) ro_Form_beginOrder 7 rfl
theorem d_Form_beginOrder_14 : decode prog_4_method_7_code 14 = .ok (.iload_n 1, 1) := am_row (r := (14, .iload_n 1, 1)) ro_Form_beginOrder 8 rfl
theorem d_Form_beginOrder_15 : decode prog_4_method_7_code 15 = .ok (.iload_n 1, 1) := am_row (r := (15, .iload_n 1, 1)) ro_Form_beginOrder 9 rfl
theorem d_Form_beginOrder_16 : decode prog_4_method_7_code 16 = .ok (.iastore, 1) := am_row (r := (16, .iastore, 1)) ro_Form_beginOrder 10 rfl
theorem d_Form_beginOrder_17 : decode prog_4_method_7_code 17 = .ok (.aload_n 0, 1) := am_row (r := (17, .aload_n 0, 1)) ro_Form_beginOrder 11 rfl
theorem d_Form_beginOrder_18 : decode prog_4_method_7_code 18 = .ok (.getfield 18, 3) := am_row (r := (18, .getfield 18, 3)) ro_Form_beginOrder 12 rfl
theorem d_Form_beginOrder_21 : decode prog_4_method_7_code 21 = .ok (.iload_n 1, 1) := am_row (r := (21, .iload_n 1, 1)) ro_Form_beginOrder 13 rfl
theorem d_Form_beginOrder_22 : decode prog_4_method_7_code 22 = .ok (.iconst 0, 1) := am_row (r := (22, .iconst 0, 1)) ro_Form_beginOrder 14 rfl
theorem d_Form_beginOrder_23 : decode prog_4_method_7_code 23 = .ok (.bastore, 1) := am_row (r := (23, .bastore, 1)) ro_Form_beginOrder 15 rfl
theorem d_Form_beginOrder_24 : decode prog_4_method_7_code 24 = .ok (.iinc 1 1, 3) := am_row (r := (24, .iinc 1 1, 3)) ro_Form_beginOrder 16 rfl
theorem d_Form_beginOrder_27 : decode prog_4_method_7_code 27 = .ok (.goto (-25), 3) := am_row (r := (27, .goto (-25), 3)) ro_Form_beginOrder 17 rfl
theorem d_Form_beginOrder_30 : decode prog_4_method_7_code 30 = .ok (.return_, 1) := am_row (r := (30, .return_, 1)) ro_Form_beginOrder 18 rfl
abbrev y_Form_bitOf : MethodName := ⟨"WheelDisc$Form", "bitOf", "(II)I"⟩
theorem c_Form_bitOf : Cond.code y_Form_bitOf prog_4_method_9_code 3 (some .int) ∈ am_T := am_mem 708 (by decide +kernel) rfl
def rw_Form_bitOf : List (Nat × Instr × Nat) := [(0, .iload_n 1, 1), (1, .aload_n 0, 1), (2, .getfield 15, 3), (5, .iload_n 2, 1), (6, .iaload, 1), (7, .ishr, 1), (8, .iconst 1, 1), (9, .iand, 1), (10, .ireturn, 1)]
theorem ro_Form_bitOf : rw_Form_bitOf.all (fun r => decide (decode prog_4_method_9_code r.1 = .ok r.2)) = true := by decide +kernel
theorem d_Form_bitOf_0 : decode prog_4_method_9_code 0 = .ok (.iload_n 1, 1) := am_row (r := (0, .iload_n 1, 1)) ro_Form_bitOf 0 rfl
theorem d_Form_bitOf_1 : decode prog_4_method_9_code 1 = .ok (.aload_n 0, 1) := am_row (r := (1, .aload_n 0, 1)) ro_Form_bitOf 1 rfl
theorem d_Form_bitOf_2 : decode prog_4_method_9_code 2 = .ok (.getfield 15, 3) := am_row (r := (2, .getfield 15, 3)) ro_Form_bitOf 2 rfl
theorem d_Form_bitOf_5 : decode prog_4_method_9_code 5 = .ok (.iload_n 2, 1) := am_row (r := (5, .iload_n 2, 1)) ro_Form_bitOf 3 rfl
theorem d_Form_bitOf_6 : decode prog_4_method_9_code 6 = .ok (.iaload, 1) := am_row (r := (6, .iaload, 1)) ro_Form_bitOf 4 rfl
theorem d_Form_bitOf_7 : decode prog_4_method_9_code 7 = .ok (.ishr, 1) := am_row (r := (7, .ishr, 1)) ro_Form_bitOf 5 rfl
theorem d_Form_bitOf_8 : decode prog_4_method_9_code 8 = .ok (.iconst 1, 1) := am_row (r := (8, .iconst 1, 1)) ro_Form_bitOf 6 rfl
theorem d_Form_bitOf_9 : decode prog_4_method_9_code 9 = .ok (.iand, 1) := am_row (r := (9, .iand, 1)) ro_Form_bitOf 7 rfl
theorem d_Form_bitOf_10 : decode prog_4_method_9_code 10 = .ok (.ireturn, 1) := am_row (r := (10, .ireturn, 1)) ro_Form_bitOf 8 rfl
abbrev y_Form_refineOrder : MethodName := ⟨"WheelDisc$Form", "refineOrder", "(I)V"⟩
theorem c_Form_refineOrder : Cond.code y_Form_refineOrder prog_4_method_8_code 5 none ∈ am_T := am_mem 704 (by decide +kernel) rfl
def rw_Form_refineOrder : List (Nat × Instr × Nat) := [(0, .iconst 1, 1), (1, .istore_n 2, 1), (2, .iload_n 2, 1), (3, .aload_n 0, 1), (4, .getfield 26, 3), (7, .if_icmp .ge 79, 3), (10, .iload_n 2, 1), (11, .istore_n 3, 1), (12, .iload_n 3, 1), (13, .ifCond .le 67, 3), (16, .aload_n 0, 1), (17, .getfield 18, 3), (20, .iload_n 3, 1), (21, .baload, 1), (22, .ifCond .ne 58, 3), (25, .aload_n 0, 1), (26, .iload_n 1, 1), (27, .iload_n 3, 1), (28, .invokevirtual 74, 3), (31, .aload_n 0, 1), (32, .iload_n 1, 1), (33, .iload_n 3, 1), (34, .iconst 1, 1), (35, .isub, 1), (36, .invokevirtual 74, 3), (39, .if_icmp .ge 41, 3), (42, .aload_n 0, 1), (43, .getfield 15, 3), (46, .iload_n 3, 1), (47, .iaload, 1), (48, .istore 4, 2), (50, .aload_n 0, 1), (51, .getfield 15, 3), (54, .iload_n 3, 1), (55, .aload_n 0, 1), (56, .getfield 15, 3), (59, .iload_n 3, 1), (60, .iconst 1, 1), (61, .isub, 1), (62, .iaload, 1), (63, .iastore, 1), (64, .aload_n 0, 1), (65, .getfield 15, 3), (68, .iload_n 3, 1), (69, .iconst 1, 1), (70, .isub, 1), (71, .iload 4, 2), (73, .iastore, 1), (74, .iinc 3 (-1), 3), (77, .goto (-65), 3), (80, .iinc 2 1, 3), (83, .goto (-81), 3), (86, .iconst 1, 1), (87, .istore_n 2, 1), (88, .iload_n 2, 1), (89, .aload_n 0, 1), (90, .getfield 26, 3), (93, .if_icmp .ge 33, 3), (96, .aload_n 0, 1), (97, .iload_n 1, 1), (98, .iload_n 2, 1), (99, .iconst 1, 1), (100, .isub, 1), (101, .invokevirtual 74, 3), (104, .aload_n 0, 1), (105, .iload_n 1, 1), (106, .iload_n 2, 1), (107, .invokevirtual 74, 3), (110, .if_icmp .eq 10, 3), (113, .aload_n 0, 1), (114, .getfield 18, 3), (117, .iload_n 2, 1), (118, .iconst 1, 1), (119, .bastore, 1), (120, .iinc 2 1, 3), (123, .goto (-35), 3), (126, .return_, 1)]
theorem ro_Form_refineOrder : rw_Form_refineOrder.all (fun r => decide (decode prog_4_method_8_code r.1 = .ok r.2)) = true := by decide +kernel
theorem d_Form_refineOrder_0 : decode prog_4_method_8_code 0 = .ok (.iconst 1, 1) := am_row (r := (0, .iconst 1, 1)) ro_Form_refineOrder 0 rfl
theorem d_Form_refineOrder_1 : decode prog_4_method_8_code 1 = .ok (.istore_n 2, 1) := am_row (r := (1, .istore_n 2, 1)) ro_Form_refineOrder 1 rfl
theorem d_Form_refineOrder_2 : decode prog_4_method_8_code 2 = .ok (.iload_n 2, 1) := am_row (r := (2, .iload_n 2, 1)) ro_Form_refineOrder 2 rfl
theorem d_Form_refineOrder_3 : decode prog_4_method_8_code 3 = .ok (.aload_n 0, 1) := am_row (r := (3, .aload_n 0, 1)) ro_Form_refineOrder 3 rfl
theorem d_Form_refineOrder_4 : decode prog_4_method_8_code 4 = .ok (.getfield 26, 3) := am_row (r := (4, .getfield 26, 3)) ro_Form_refineOrder 4 rfl
theorem d_Form_refineOrder_7 : decode prog_4_method_8_code 7 = .ok (.if_icmp .ge 79, 3) := am_row (r := (7, .if_icmp .ge 79, 3)) ro_Form_refineOrder 5 rfl
theorem d_Form_refineOrder_10 : decode prog_4_method_8_code 10 = .ok (.iload_n 2, 1) := am_row (r := (10, .iload_n 2, 1)) ro_Form_refineOrder 6 rfl
theorem d_Form_refineOrder_11 : decode prog_4_method_8_code 11 = .ok (.istore_n 3, 1) := am_row (r := (11, .istore_n 3, 1)) ro_Form_refineOrder 7 rfl
theorem d_Form_refineOrder_12 : decode prog_4_method_8_code 12 = .ok (.iload_n 3, 1) := am_row (r := (12, .iload_n 3, 1)) ro_Form_refineOrder 8 rfl
theorem d_Form_refineOrder_13 : decode prog_4_method_8_code 13 = .ok (.ifCond .le 67, 3) := am_row (r := (13, .ifCond .le 67, 3)) ro_Form_refineOrder 9 rfl
theorem d_Form_refineOrder_16 : decode prog_4_method_8_code 16 = .ok (.aload_n 0, 1) := am_row (r := (16, .aload_n 0, 1)) ro_Form_refineOrder 10 rfl
theorem d_Form_refineOrder_17 : decode prog_4_method_8_code 17 = .ok (.getfield 18, 3) := am_row (r := (17, .getfield 18, 3)) ro_Form_refineOrder 11 rfl
theorem d_Form_refineOrder_20 : decode prog_4_method_8_code 20 = .ok (.iload_n 3, 1) := am_row (r := (20, .iload_n 3, 1)) ro_Form_refineOrder 12 rfl
theorem d_Form_refineOrder_21 : decode prog_4_method_8_code 21 = .ok (.baload, 1) := am_row (r := (21, .baload, 1)) ro_Form_refineOrder 13 rfl
theorem d_Form_refineOrder_22 : decode prog_4_method_8_code 22 = .ok (.ifCond .ne 58, 3) := am_row (r := (22, .ifCond .ne 58, 3)) ro_Form_refineOrder 14 rfl
theorem d_Form_refineOrder_25 : decode prog_4_method_8_code 25 = .ok (.aload_n 0, 1) := am_row (r := (25, .aload_n 0, 1)) ro_Form_refineOrder 15 rfl
theorem d_Form_refineOrder_26 : decode prog_4_method_8_code 26 = .ok (.iload_n 1, 1) := am_row (r := (26, .iload_n 1, 1)) ro_Form_refineOrder 16 rfl
theorem d_Form_refineOrder_27 : decode prog_4_method_8_code 27 = .ok (.iload_n 3, 1) := am_row (r := (27, .iload_n 3, 1)) ro_Form_refineOrder 17 rfl
theorem d_Form_refineOrder_28 : decode prog_4_method_8_code 28 = .ok (.invokevirtual 74, 3) := am_row (r := (28, .invokevirtual 74, 3)) ro_Form_refineOrder 18 rfl
theorem d_Form_refineOrder_31 : decode prog_4_method_8_code 31 = .ok (.aload_n 0, 1) := am_row (r := (31, .aload_n 0, 1)) ro_Form_refineOrder 19 rfl
theorem d_Form_refineOrder_32 : decode prog_4_method_8_code 32 = .ok (.iload_n 1, 1) := am_row (r := (32, .iload_n 1, 1)) ro_Form_refineOrder 20 rfl
theorem d_Form_refineOrder_33 : decode prog_4_method_8_code 33 = .ok (.iload_n 3, 1) := am_row (r := (33, .iload_n 3, 1)) ro_Form_refineOrder 21 rfl
theorem d_Form_refineOrder_34 : decode prog_4_method_8_code 34 = .ok (.iconst 1, 1) := am_row (r := (34, .iconst 1, 1)) ro_Form_refineOrder 22 rfl
theorem d_Form_refineOrder_35 : decode prog_4_method_8_code 35 = .ok (.isub, 1) := am_row (r := (35, .isub, 1)) ro_Form_refineOrder 23 rfl
theorem d_Form_refineOrder_36 : decode prog_4_method_8_code 36 = .ok (.invokevirtual 74, 3) := am_row (r := (36, .invokevirtual 74, 3)) ro_Form_refineOrder 24 rfl
theorem d_Form_refineOrder_39 : decode prog_4_method_8_code 39 = .ok (.if_icmp .ge 41, 3) := am_row (r := (39, .if_icmp .ge 41, 3)) ro_Form_refineOrder 25 rfl
theorem d_Form_refineOrder_42 : decode prog_4_method_8_code 42 = .ok (.aload_n 0, 1) := am_row (r := (42, .aload_n 0, 1)) ro_Form_refineOrder 26 rfl
theorem d_Form_refineOrder_43 : decode prog_4_method_8_code 43 = .ok (.getfield 15, 3) := am_row (r := (43, .getfield 15, 3)) ro_Form_refineOrder 27 rfl
theorem d_Form_refineOrder_46 : decode prog_4_method_8_code 46 = .ok (.iload_n 3, 1) := am_row (r := (46, .iload_n 3, 1)) ro_Form_refineOrder 28 rfl
theorem d_Form_refineOrder_47 : decode prog_4_method_8_code 47 = .ok (.iaload, 1) := am_row (r := (47, .iaload, 1)) ro_Form_refineOrder 29 rfl
theorem d_Form_refineOrder_48 : decode prog_4_method_8_code 48 = .ok (.istore 4, 2) := am_row (r := (48, .istore 4, 2)) ro_Form_refineOrder 30 rfl
theorem d_Form_refineOrder_50 : decode prog_4_method_8_code 50 = .ok (.aload_n 0, 1) := am_row (r := (50, .aload_n 0, 1)) ro_Form_refineOrder 31 rfl
theorem d_Form_refineOrder_51 : decode prog_4_method_8_code 51 = .ok (.getfield 15, 3) := am_row (r := (51, .getfield 15, 3)) ro_Form_refineOrder 32 rfl
theorem d_Form_refineOrder_54 : decode prog_4_method_8_code 54 = .ok (.iload_n 3, 1) := am_row (r := (54, .iload_n 3, 1)) ro_Form_refineOrder 33 rfl
theorem d_Form_refineOrder_55 : decode prog_4_method_8_code 55 = .ok (.aload_n 0, 1) := am_row (r := (55, .aload_n 0, 1)) ro_Form_refineOrder 34 rfl
theorem d_Form_refineOrder_56 : decode prog_4_method_8_code 56 = .ok (.getfield 15, 3) := am_row (r := (56, .getfield 15, 3)) ro_Form_refineOrder 35 rfl
theorem d_Form_refineOrder_59 : decode prog_4_method_8_code 59 = .ok (.iload_n 3, 1) := am_row (r := (59, .iload_n 3, 1)) ro_Form_refineOrder 36 rfl
theorem d_Form_refineOrder_60 : decode prog_4_method_8_code 60 = .ok (.iconst 1, 1) := am_row (r := (60, .iconst 1, 1)) ro_Form_refineOrder 37 rfl
theorem d_Form_refineOrder_61 : decode prog_4_method_8_code 61 = .ok (.isub, 1) := am_row (r := (61, .isub, 1)) ro_Form_refineOrder 38 rfl
theorem d_Form_refineOrder_62 : decode prog_4_method_8_code 62 = .ok (.iaload, 1) := am_row (r := (62, .iaload, 1)) ro_Form_refineOrder 39 rfl
theorem d_Form_refineOrder_63 : decode prog_4_method_8_code 63 = .ok (.iastore, 1) := am_row (r := (63, .iastore, 1)) ro_Form_refineOrder 40 rfl
theorem d_Form_refineOrder_64 : decode prog_4_method_8_code 64 = .ok (.aload_n 0, 1) := am_row (r := (64, .aload_n 0, 1)) ro_Form_refineOrder 41 rfl
theorem d_Form_refineOrder_65 : decode prog_4_method_8_code 65 = .ok (.getfield 15, 3) := am_row (r := (65, .getfield 15, 3)) ro_Form_refineOrder 42 rfl
theorem d_Form_refineOrder_68 : decode prog_4_method_8_code 68 = .ok (.iload_n 3, 1) := am_row (r := (68, .iload_n 3, 1)) ro_Form_refineOrder 43 rfl
theorem d_Form_refineOrder_69 : decode prog_4_method_8_code 69 = .ok (.iconst 1, 1) := am_row (r := (69, .iconst 1, 1)) ro_Form_refineOrder 44 rfl
theorem d_Form_refineOrder_70 : decode prog_4_method_8_code 70 = .ok (.isub, 1) := am_row (r := (70, .isub, 1)) ro_Form_refineOrder 45 rfl
theorem d_Form_refineOrder_71 : decode prog_4_method_8_code 71 = .ok (.iload 4, 2) := am_row (r := (71, .iload 4, 2)) ro_Form_refineOrder 46 rfl
theorem d_Form_refineOrder_73 : decode prog_4_method_8_code 73 = .ok (.iastore, 1) := am_row (r := (73, .iastore, 1)) ro_Form_refineOrder 47 rfl
theorem d_Form_refineOrder_74 : decode prog_4_method_8_code 74 = .ok (.iinc 3 (-1), 3) := am_row (r := (74, .iinc 3 (-1), 3)) ro_Form_refineOrder 48 rfl
theorem d_Form_refineOrder_77 : decode prog_4_method_8_code 77 = .ok (.goto (-65), 3) := am_row (r := (77, .goto (-65), 3)) ro_Form_refineOrder 49 rfl
theorem d_Form_refineOrder_80 : decode prog_4_method_8_code 80 = .ok (.iinc 2 1, 3) := am_row (r := (80, .iinc 2 1, 3)) ro_Form_refineOrder 50 rfl
theorem d_Form_refineOrder_83 : decode prog_4_method_8_code 83 = .ok (.goto (-81), 3) := am_row (r := (83, .goto (-81), 3)) ro_Form_refineOrder 51 rfl
theorem d_Form_refineOrder_86 : decode prog_4_method_8_code 86 = .ok (.iconst 1, 1) := am_row (r := (86, .iconst 1, 1)) ro_Form_refineOrder 52 rfl
theorem d_Form_refineOrder_87 : decode prog_4_method_8_code 87 = .ok (.istore_n 2, 1) := am_row (r := (87, .istore_n 2, 1)) ro_Form_refineOrder 53 rfl
theorem d_Form_refineOrder_88 : decode prog_4_method_8_code 88 = .ok (.iload_n 2, 1) := am_row (r := (88, .iload_n 2, 1)) ro_Form_refineOrder 54 rfl
theorem d_Form_refineOrder_89 : decode prog_4_method_8_code 89 = .ok (.aload_n 0, 1) := am_row (r := (89, .aload_n 0, 1)) ro_Form_refineOrder 55 rfl
theorem d_Form_refineOrder_90 : decode prog_4_method_8_code 90 = .ok (.getfield 26, 3) := am_row (r := (90, .getfield 26, 3)) ro_Form_refineOrder 56 rfl
theorem d_Form_refineOrder_93 : decode prog_4_method_8_code 93 = .ok (.if_icmp .ge 33, 3) := am_row (r := (93, .if_icmp .ge 33, 3)) ro_Form_refineOrder 57 rfl
theorem d_Form_refineOrder_96 : decode prog_4_method_8_code 96 = .ok (.aload_n 0, 1) := am_row (r := (96, .aload_n 0, 1)) ro_Form_refineOrder 58 rfl
theorem d_Form_refineOrder_97 : decode prog_4_method_8_code 97 = .ok (.iload_n 1, 1) := am_row (r := (97, .iload_n 1, 1)) ro_Form_refineOrder 59 rfl
theorem d_Form_refineOrder_98 : decode prog_4_method_8_code 98 = .ok (.iload_n 2, 1) := am_row (r := (98, .iload_n 2, 1)) ro_Form_refineOrder 60 rfl
theorem d_Form_refineOrder_99 : decode prog_4_method_8_code 99 = .ok (.iconst 1, 1) := am_row (r := (99, .iconst 1, 1)) ro_Form_refineOrder 61 rfl
theorem d_Form_refineOrder_100 : decode prog_4_method_8_code 100 = .ok (.isub, 1) := am_row (r := (100, .isub, 1)) ro_Form_refineOrder 62 rfl
theorem d_Form_refineOrder_101 : decode prog_4_method_8_code 101 = .ok (.invokevirtual 74, 3) := am_row (r := (101, .invokevirtual 74, 3)) ro_Form_refineOrder 63 rfl
theorem d_Form_refineOrder_104 : decode prog_4_method_8_code 104 = .ok (.aload_n 0, 1) := am_row (r := (104, .aload_n 0, 1)) ro_Form_refineOrder 64 rfl
theorem d_Form_refineOrder_105 : decode prog_4_method_8_code 105 = .ok (.iload_n 1, 1) := am_row (r := (105, .iload_n 1, 1)) ro_Form_refineOrder 65 rfl
theorem d_Form_refineOrder_106 : decode prog_4_method_8_code 106 = .ok (.iload_n 2, 1) := am_row (r := (106, .iload_n 2, 1)) ro_Form_refineOrder 66 rfl
theorem d_Form_refineOrder_107 : decode prog_4_method_8_code 107 = .ok (.invokevirtual 74, 3) := am_row (r := (107, .invokevirtual 74, 3)) ro_Form_refineOrder 67 rfl
theorem d_Form_refineOrder_110 : decode prog_4_method_8_code 110 = .ok (.if_icmp .eq 10, 3) := am_row (r := (110, .if_icmp .eq 10, 3)) ro_Form_refineOrder 68 rfl
theorem d_Form_refineOrder_113 : decode prog_4_method_8_code 113 = .ok (.aload_n 0, 1) := am_row (r := (113, .aload_n 0, 1)) ro_Form_refineOrder 69 rfl
theorem d_Form_refineOrder_114 : decode prog_4_method_8_code 114 = .ok (.getfield 18, 3) := am_row (r := (114, .getfield 18, 3)) ro_Form_refineOrder 70 rfl
theorem d_Form_refineOrder_117 : decode prog_4_method_8_code 117 = .ok (.iload_n 2, 1) := am_row (r := (117, .iload_n 2, 1)) ro_Form_refineOrder 71 rfl
theorem d_Form_refineOrder_118 : decode prog_4_method_8_code 118 = .ok (.iconst 1, 1) := am_row (r := (118, .iconst 1, 1)) ro_Form_refineOrder 72 rfl
theorem d_Form_refineOrder_119 : decode prog_4_method_8_code 119 = .ok (.bastore, 1) := am_row (r := (119, .bastore, 1)) ro_Form_refineOrder 73 rfl
theorem d_Form_refineOrder_120 : decode prog_4_method_8_code 120 = .ok (.iinc 2 1, 3) := am_row (r := (120, .iinc 2 1, 3)) ro_Form_refineOrder 74 rfl
theorem d_Form_refineOrder_123 : decode prog_4_method_8_code 123 = .ok (.goto (-35), 3) := am_row (r := (123, .goto (-35), 3)) ro_Form_refineOrder 75 rfl
theorem d_Form_refineOrder_126 : decode prog_4_method_8_code 126 = .ok (.return_, 1) := am_row (r := (126, .return_, 1)) ro_Form_refineOrder 76 rfl
abbrev y_Form_inOrder : MethodName := ⟨"WheelDisc$Form", "inOrder", "(I)I"⟩
theorem c_Form_inOrder : Cond.code y_Form_inOrder prog_4_method_10_code 4 (some .int) ∈ am_T := am_mem 712 (by decide +kernel) rfl
def rw_Form_inOrder : List (Nat × Instr × Nat) := [(0, .iconst 0, 1), (1, .istore_n 2, 1), (2, .iconst 0, 1), (3, .istore_n 3, 1), (4, .iload_n 3, 1), (5, .aload_n 0, 1), (6, .getfield 26, 3), (9, .if_icmp .ge 20, 3), (12, .iload_n 2, 1), (13, .iconst 1, 1), (14, .ishl, 1), (15, .aload_n 0, 1), (16, .iload_n 1, 1), (17, .iload_n 3, 1), (18, .invokevirtual 74, 3), (21, .ior, 1), (22, .istore_n 2, 1), (23, .iinc 3 1, 3), (26, .goto (-22), 3), (29, .iload_n 2, 1), (30, .ireturn, 1)]
theorem ro_Form_inOrder : rw_Form_inOrder.all (fun r => decide (decode prog_4_method_10_code r.1 = .ok r.2)) = true := by decide +kernel
theorem d_Form_inOrder_0 : decode prog_4_method_10_code 0 = .ok (.iconst 0, 1) := am_row (r := (0, .iconst 0, 1)) ro_Form_inOrder 0 rfl
theorem d_Form_inOrder_1 : decode prog_4_method_10_code 1 = .ok (.istore_n 2, 1) := am_row (r := (1, .istore_n 2, 1)) ro_Form_inOrder 1 rfl
theorem d_Form_inOrder_2 : decode prog_4_method_10_code 2 = .ok (.iconst 0, 1) := am_row (r := (2, .iconst 0, 1)) ro_Form_inOrder 2 rfl
theorem d_Form_inOrder_3 : decode prog_4_method_10_code 3 = .ok (.istore_n 3, 1) := am_row (r := (3, .istore_n 3, 1)) ro_Form_inOrder 3 rfl
theorem d_Form_inOrder_4 : decode prog_4_method_10_code 4 = .ok (.iload_n 3, 1) := am_row (r := (4, .iload_n 3, 1)) ro_Form_inOrder 4 rfl
theorem d_Form_inOrder_5 : decode prog_4_method_10_code 5 = .ok (.aload_n 0, 1) := am_row (r := (5, .aload_n 0, 1)) ro_Form_inOrder 5 rfl
theorem d_Form_inOrder_6 : decode prog_4_method_10_code 6 = .ok (.getfield 26, 3) := am_row (r := (6, .getfield 26, 3)) ro_Form_inOrder 6 rfl
theorem d_Form_inOrder_9 : decode prog_4_method_10_code 9 = .ok (.if_icmp .ge 20, 3) := am_row (r := (9, .if_icmp .ge 20, 3)) ro_Form_inOrder 7 rfl
theorem d_Form_inOrder_12 : decode prog_4_method_10_code 12 = .ok (.iload_n 2, 1) := am_row (r := (12, .iload_n 2, 1)) ro_Form_inOrder 8 rfl
theorem d_Form_inOrder_13 : decode prog_4_method_10_code 13 = .ok (.iconst 1, 1) := am_row (r := (13, .iconst 1, 1)) ro_Form_inOrder 9 rfl
theorem d_Form_inOrder_14 : decode prog_4_method_10_code 14 = .ok (.ishl, 1) := am_row (r := (14, .ishl, 1)) ro_Form_inOrder 10 rfl
theorem d_Form_inOrder_15 : decode prog_4_method_10_code 15 = .ok (.aload_n 0, 1) := am_row (r := (15, .aload_n 0, 1)) ro_Form_inOrder 11 rfl
theorem d_Form_inOrder_16 : decode prog_4_method_10_code 16 = .ok (.iload_n 1, 1) := am_row (r := (16, .iload_n 1, 1)) ro_Form_inOrder 12 rfl
theorem d_Form_inOrder_17 : decode prog_4_method_10_code 17 = .ok (.iload_n 3, 1) := am_row (r := (17, .iload_n 3, 1)) ro_Form_inOrder 13 rfl
theorem d_Form_inOrder_18 : decode prog_4_method_10_code 18 = .ok (.invokevirtual 74, 3) := am_row (r := (18, .invokevirtual 74, 3)) ro_Form_inOrder 14 rfl
theorem d_Form_inOrder_21 : decode prog_4_method_10_code 21 = .ok (.ior, 1) := am_row (r := (21, .ior, 1)) ro_Form_inOrder 15 rfl
theorem d_Form_inOrder_22 : decode prog_4_method_10_code 22 = .ok (.istore_n 2, 1) := am_row (r := (22, .istore_n 2, 1)) ro_Form_inOrder 16 rfl
theorem d_Form_inOrder_23 : decode prog_4_method_10_code 23 = .ok (.iinc 3 1, 3) := am_row (r := (23, .iinc 3 1, 3)) ro_Form_inOrder 17 rfl
theorem d_Form_inOrder_26 : decode prog_4_method_10_code 26 = .ok (.goto (-22), 3) := am_row (r := (26, .goto (-22), 3)) ro_Form_inOrder 18 rfl
theorem d_Form_inOrder_29 : decode prog_4_method_10_code 29 = .ok (.iload_n 2, 1) := am_row (r := (29, .iload_n 2, 1)) ro_Form_inOrder 19 rfl
theorem d_Form_inOrder_30 : decode prog_4_method_10_code 30 = .ok (.ireturn, 1) := am_row (r := (30, .ireturn, 1)) ro_Form_inOrder 20 rfl
abbrev y_Form_isLeastAgain : MethodName := ⟨"WheelDisc$Form", "isLeastAgain", "([III)Z"⟩
theorem c_Form_isLeastAgain : Cond.code y_Form_isLeastAgain prog_4_method_6_code 9 (some .boolean) ∈ am_T := am_mem 696 (by decide +kernel) rfl
def rw_Form_isLeastAgain : List (Nat × Instr × Nat) := [(0, .aload_n 0, 1), (1, .invokevirtual 59, 3), (4, .iconst 0, 1), (5, .istore 4, 2), (7, .iconst (-1), 1), (8, .istore 5, 2), (10, .iconst 0, 1), (11, .istore 6, 2), (13, .iload_n 2, 1), (14, .istore 7, 2), (16, .iconst 0, 1), (17, .istore 8, 2), (19, .iload 8, 2), (21, .aload_n 0, 1), (22, .getfield 22, 3), (25, .if_icmp .ge 102, 3), (28, .aload_n 1, 1), (29, .iload 7, 2), (31, .iaload, 1), (32, .iload 5, 2), (34, .if_icmp .eq 23, 3), (37, .aload_n 1, 1), (38, .iload 7, 2), (40, .iaload, 1), (41, .istore 5, 2), (43, .aload_n 0, 1), (44, .iload 5, 2), (46, .invokevirtual 62, 3), (49, .aload_n 0, 1), (50, .iload 5, 2), (52, .invokevirtual 66, 3), (55, .istore 6, 2), (57, .iload 4, 2), (59, .ifCond .ne 17, 3), (62, .iload 6, 2), (64, .aload_n 0, 1), (65, .getfield 9, 3), (68, .iload 8, 2), (70, .iaload, 1), (71, .if_icmp .le 5, 3), (74, .iconst 0, 1), (75, .ireturn, 1), (76, .iload 4, 2), (78, .ifCond .ne 15, 3), (81, .iload 6, 2), (83, .aload_n 0, 1), (84, .getfield 9, 3), (87, .iload 8, 2), (89, .iaload, 1), (90, .if_icmp .ge 7, 3), (93, .iconst 1, 1), (94, .goto 4, 3), (97, .iconst 0, 1), (98, .istore 4, 2), (100, .aload_n 0, 1), (101, .getfield 9, 3), (104, .iload 8, 2), (106, .iload 6, 2), (108, .iastore, 1), (109, .iload 7, 2), (111, .iload_n 3, 1), (112, .aload_n 0, 1), (113, .getfield 22, 3), (116, .invokestatic 70, 3), (119, .istore 7, 2), (121, .iinc 8 1, 3), (124, .goto (-105), 3), (127, .iload 4, 2), (129, .ifCond .ne 7, 3), (132, .iconst 1, 1), (133, .goto 4, 3), (136, .iconst 0, 1), (137, .ireturn, 1)]
theorem ro_Form_isLeastAgain : rw_Form_isLeastAgain.all (fun r => decide (decode prog_4_method_6_code r.1 = .ok r.2)) = true := by decide +kernel
theorem d_Form_isLeastAgain_0 : decode prog_4_method_6_code 0 = .ok (.aload_n 0, 1) := am_row (r := (0, .aload_n 0, 1)) ro_Form_isLeastAgain 0 rfl
theorem d_Form_isLeastAgain_1 : decode prog_4_method_6_code 1 = .ok (.invokevirtual 59, 3) := am_row (r := (1, .invokevirtual 59, 3)) ro_Form_isLeastAgain 1 rfl
theorem d_Form_isLeastAgain_4 : decode prog_4_method_6_code 4 = .ok (.iconst 0, 1) := am_row (r := (4, .iconst 0, 1)) ro_Form_isLeastAgain 2 rfl
theorem d_Form_isLeastAgain_5 : decode prog_4_method_6_code 5 = .ok (.istore 4, 2) := am_row (r := (5, .istore 4, 2)) ro_Form_isLeastAgain 3 rfl
theorem d_Form_isLeastAgain_7 : decode prog_4_method_6_code 7 = .ok (.iconst (-1), 1) := am_row (r := (7, .iconst (-1), 1)) ro_Form_isLeastAgain 4 rfl
theorem d_Form_isLeastAgain_8 : decode prog_4_method_6_code 8 = .ok (.istore 5, 2) := am_row (r := (8, .istore 5, 2)) ro_Form_isLeastAgain 5 rfl
theorem d_Form_isLeastAgain_10 : decode prog_4_method_6_code 10 = .ok (.iconst 0, 1) := am_row (r := (10, .iconst 0, 1)) ro_Form_isLeastAgain 6 rfl
theorem d_Form_isLeastAgain_11 : decode prog_4_method_6_code 11 = .ok (.istore 6, 2) := am_row (r := (11, .istore 6, 2)) ro_Form_isLeastAgain 7 rfl
theorem d_Form_isLeastAgain_13 : decode prog_4_method_6_code 13 = .ok (.iload_n 2, 1) := am_row (r := (13, .iload_n 2, 1)) ro_Form_isLeastAgain 8 rfl
theorem d_Form_isLeastAgain_14 : decode prog_4_method_6_code 14 = .ok (.istore 7, 2) := am_row (r := (14, .istore 7, 2)) ro_Form_isLeastAgain 9 rfl
theorem d_Form_isLeastAgain_16 : decode prog_4_method_6_code 16 = .ok (.iconst 0, 1) := am_row (r := (16, .iconst 0, 1)) ro_Form_isLeastAgain 10 rfl
theorem d_Form_isLeastAgain_17 : decode prog_4_method_6_code 17 = .ok (.istore 8, 2) := am_row (r := (17, .istore 8, 2)) ro_Form_isLeastAgain 11 rfl
theorem d_Form_isLeastAgain_19 : decode prog_4_method_6_code 19 = .ok (.iload 8, 2) := am_row (r := (19, .iload 8, 2)) ro_Form_isLeastAgain 12 rfl
theorem d_Form_isLeastAgain_21 : decode prog_4_method_6_code 21 = .ok (.aload_n 0, 1) := am_row (r := (21, .aload_n 0, 1)) ro_Form_isLeastAgain 13 rfl
theorem d_Form_isLeastAgain_22 : decode prog_4_method_6_code 22 = .ok (.getfield 22, 3) := am_row (r := (22, .getfield 22, 3)) ro_Form_isLeastAgain 14 rfl
theorem d_Form_isLeastAgain_25 : decode prog_4_method_6_code 25 = .ok (.if_icmp .ge 102, 3) := am_row (r := (25, .if_icmp .ge 102, 3)) ro_Form_isLeastAgain 15 rfl
theorem d_Form_isLeastAgain_28 : decode prog_4_method_6_code 28 = .ok (.aload_n 1, 1) := am_row (r := (28, .aload_n 1, 1)) ro_Form_isLeastAgain 16 rfl
theorem d_Form_isLeastAgain_29 : decode prog_4_method_6_code 29 = .ok (.iload 7, 2) := am_row (r := (29, .iload 7, 2)) ro_Form_isLeastAgain 17 rfl
theorem d_Form_isLeastAgain_31 : decode prog_4_method_6_code 31 = .ok (.iaload, 1) := am_row (r := (31, .iaload, 1)) ro_Form_isLeastAgain 18 rfl
theorem d_Form_isLeastAgain_32 : decode prog_4_method_6_code 32 = .ok (.iload 5, 2) := am_row (r := (32, .iload 5, 2)) ro_Form_isLeastAgain 19 rfl
theorem d_Form_isLeastAgain_34 : decode prog_4_method_6_code 34 = .ok (.if_icmp .eq 23, 3) := am_row (r := (34, .if_icmp .eq 23, 3)) ro_Form_isLeastAgain 20 rfl
theorem d_Form_isLeastAgain_37 : decode prog_4_method_6_code 37 = .ok (.aload_n 1, 1) := am_row (r := (37, .aload_n 1, 1)) ro_Form_isLeastAgain 21 rfl
theorem d_Form_isLeastAgain_38 : decode prog_4_method_6_code 38 = .ok (.iload 7, 2) := am_row (r := (38, .iload 7, 2)) ro_Form_isLeastAgain 22 rfl
theorem d_Form_isLeastAgain_40 : decode prog_4_method_6_code 40 = .ok (.iaload, 1) := am_row (r := (40, .iaload, 1)) ro_Form_isLeastAgain 23 rfl
theorem d_Form_isLeastAgain_41 : decode prog_4_method_6_code 41 = .ok (.istore 5, 2) := am_row (r := (41, .istore 5, 2)) ro_Form_isLeastAgain 24 rfl
theorem d_Form_isLeastAgain_43 : decode prog_4_method_6_code 43 = .ok (.aload_n 0, 1) := am_row (r := (43, .aload_n 0, 1)) ro_Form_isLeastAgain 25 rfl
theorem d_Form_isLeastAgain_44 : decode prog_4_method_6_code 44 = .ok (.iload 5, 2) := am_row (r := (44, .iload 5, 2)) ro_Form_isLeastAgain 26 rfl
theorem d_Form_isLeastAgain_46 : decode prog_4_method_6_code 46 = .ok (.invokevirtual 62, 3) := am_row (r := (46, .invokevirtual 62, 3)) ro_Form_isLeastAgain 27 rfl
theorem d_Form_isLeastAgain_49 : decode prog_4_method_6_code 49 = .ok (.aload_n 0, 1) := am_row (r := (49, .aload_n 0, 1)) ro_Form_isLeastAgain 28 rfl
theorem d_Form_isLeastAgain_50 : decode prog_4_method_6_code 50 = .ok (.iload 5, 2) := am_row (r := (50, .iload 5, 2)) ro_Form_isLeastAgain 29 rfl
theorem d_Form_isLeastAgain_52 : decode prog_4_method_6_code 52 = .ok (.invokevirtual 66, 3) := am_row (r := (52, .invokevirtual 66, 3)) ro_Form_isLeastAgain 30 rfl
theorem d_Form_isLeastAgain_55 : decode prog_4_method_6_code 55 = .ok (.istore 6, 2) := am_row (r := (55, .istore 6, 2)) ro_Form_isLeastAgain 31 rfl
theorem d_Form_isLeastAgain_57 : decode prog_4_method_6_code 57 = .ok (.iload 4, 2) := am_row (r := (57, .iload 4, 2)) ro_Form_isLeastAgain 32 rfl
theorem d_Form_isLeastAgain_59 : decode prog_4_method_6_code 59 = .ok (.ifCond .ne 17, 3) := am_row (r := (59, .ifCond .ne 17, 3)) ro_Form_isLeastAgain 33 rfl
theorem d_Form_isLeastAgain_62 : decode prog_4_method_6_code 62 = .ok (.iload 6, 2) := am_row (r := (62, .iload 6, 2)) ro_Form_isLeastAgain 34 rfl
theorem d_Form_isLeastAgain_64 : decode prog_4_method_6_code 64 = .ok (.aload_n 0, 1) := am_row (r := (64, .aload_n 0, 1)) ro_Form_isLeastAgain 35 rfl
theorem d_Form_isLeastAgain_65 : decode prog_4_method_6_code 65 = .ok (.getfield 9, 3) := am_row (r := (65, .getfield 9, 3)) ro_Form_isLeastAgain 36 rfl
theorem d_Form_isLeastAgain_68 : decode prog_4_method_6_code 68 = .ok (.iload 8, 2) := am_row (r := (68, .iload 8, 2)) ro_Form_isLeastAgain 37 rfl
theorem d_Form_isLeastAgain_70 : decode prog_4_method_6_code 70 = .ok (.iaload, 1) := am_row (r := (70, .iaload, 1)) ro_Form_isLeastAgain 38 rfl
theorem d_Form_isLeastAgain_71 : decode prog_4_method_6_code 71 = .ok (.if_icmp .le 5, 3) := am_row (r := (71, .if_icmp .le 5, 3)) ro_Form_isLeastAgain 39 rfl
theorem d_Form_isLeastAgain_74 : decode prog_4_method_6_code 74 = .ok (.iconst 0, 1) := am_row (r := (74, .iconst 0, 1)) ro_Form_isLeastAgain 40 rfl
theorem d_Form_isLeastAgain_75 : decode prog_4_method_6_code 75 = .ok (.ireturn, 1) := am_row (r := (75, .ireturn, 1)) ro_Form_isLeastAgain 41 rfl
theorem d_Form_isLeastAgain_76 : decode prog_4_method_6_code 76 = .ok (.iload 4, 2) := am_row (r := (76, .iload 4, 2)) ro_Form_isLeastAgain 42 rfl
theorem d_Form_isLeastAgain_78 : decode prog_4_method_6_code 78 = .ok (.ifCond .ne 15, 3) := am_row (r := (78, .ifCond .ne 15, 3)) ro_Form_isLeastAgain 43 rfl
theorem d_Form_isLeastAgain_81 : decode prog_4_method_6_code 81 = .ok (.iload 6, 2) := am_row (r := (81, .iload 6, 2)) ro_Form_isLeastAgain 44 rfl
theorem d_Form_isLeastAgain_83 : decode prog_4_method_6_code 83 = .ok (.aload_n 0, 1) := am_row (r := (83, .aload_n 0, 1)) ro_Form_isLeastAgain 45 rfl
theorem d_Form_isLeastAgain_84 : decode prog_4_method_6_code 84 = .ok (.getfield 9, 3) := am_row (r := (84, .getfield 9, 3)) ro_Form_isLeastAgain 46 rfl
theorem d_Form_isLeastAgain_87 : decode prog_4_method_6_code 87 = .ok (.iload 8, 2) := am_row (r := (87, .iload 8, 2)) ro_Form_isLeastAgain 47 rfl
theorem d_Form_isLeastAgain_89 : decode prog_4_method_6_code 89 = .ok (.iaload, 1) := am_row (r := (89, .iaload, 1)) ro_Form_isLeastAgain 48 rfl
theorem d_Form_isLeastAgain_90 : decode prog_4_method_6_code 90 = .ok (.if_icmp .ge 7, 3) := am_row (r := (90, .if_icmp .ge 7, 3)) ro_Form_isLeastAgain 49 rfl
theorem d_Form_isLeastAgain_93 : decode prog_4_method_6_code 93 = .ok (.iconst 1, 1) := am_row (r := (93, .iconst 1, 1)) ro_Form_isLeastAgain 50 rfl
theorem d_Form_isLeastAgain_94 : decode prog_4_method_6_code 94 = .ok (.goto 4, 3) := am_row (r := (94, .goto 4, 3)) ro_Form_isLeastAgain 51 rfl
theorem d_Form_isLeastAgain_97 : decode prog_4_method_6_code 97 = .ok (.iconst 0, 1) := am_row (r := (97, .iconst 0, 1)) ro_Form_isLeastAgain 52 rfl
theorem d_Form_isLeastAgain_98 : decode prog_4_method_6_code 98 = .ok (.istore 4, 2) := am_row (r := (98, .istore 4, 2)) ro_Form_isLeastAgain 53 rfl
theorem d_Form_isLeastAgain_100 : decode prog_4_method_6_code 100 = .ok (.aload_n 0, 1) := am_row (r := (100, .aload_n 0, 1)) ro_Form_isLeastAgain 54 rfl
theorem d_Form_isLeastAgain_101 : decode prog_4_method_6_code 101 = .ok (.getfield 9, 3) := am_row (r := (101, .getfield 9, 3)) ro_Form_isLeastAgain 55 rfl
theorem d_Form_isLeastAgain_104 : decode prog_4_method_6_code 104 = .ok (.iload 8, 2) := am_row (r := (104, .iload 8, 2)) ro_Form_isLeastAgain 56 rfl
theorem d_Form_isLeastAgain_106 : decode prog_4_method_6_code 106 = .ok (.iload 6, 2) := am_row (r := (106, .iload 6, 2)) ro_Form_isLeastAgain 57 rfl
theorem d_Form_isLeastAgain_108 : decode prog_4_method_6_code 108 = .ok (.iastore, 1) := am_row (r := (108, .iastore, 1)) ro_Form_isLeastAgain 58 rfl
theorem d_Form_isLeastAgain_109 : decode prog_4_method_6_code 109 = .ok (.iload 7, 2) := am_row (r := (109, .iload 7, 2)) ro_Form_isLeastAgain 59 rfl
theorem d_Form_isLeastAgain_111 : decode prog_4_method_6_code 111 = .ok (.iload_n 3, 1) := am_row (r := (111, .iload_n 3, 1)) ro_Form_isLeastAgain 60 rfl
theorem d_Form_isLeastAgain_112 : decode prog_4_method_6_code 112 = .ok (.aload_n 0, 1) := am_row (r := (112, .aload_n 0, 1)) ro_Form_isLeastAgain 61 rfl
theorem d_Form_isLeastAgain_113 : decode prog_4_method_6_code 113 = .ok (.getfield 22, 3) := am_row (r := (113, .getfield 22, 3)) ro_Form_isLeastAgain 62 rfl
theorem d_Form_isLeastAgain_116 : decode prog_4_method_6_code 116 = .ok (.invokestatic 70, 3) := am_row (r := (116, .invokestatic 70, 3)) ro_Form_isLeastAgain 63 rfl
theorem d_Form_isLeastAgain_119 : decode prog_4_method_6_code 119 = .ok (.istore 7, 2) := am_row (r := (119, .istore 7, 2)) ro_Form_isLeastAgain 64 rfl
theorem d_Form_isLeastAgain_121 : decode prog_4_method_6_code 121 = .ok (.iinc 8 1, 3) := am_row (r := (121, .iinc 8 1, 3)) ro_Form_isLeastAgain 65 rfl
theorem d_Form_isLeastAgain_124 : decode prog_4_method_6_code 124 = .ok (.goto (-105), 3) := am_row (r := (124, .goto (-105), 3)) ro_Form_isLeastAgain 66 rfl
theorem d_Form_isLeastAgain_127 : decode prog_4_method_6_code 127 = .ok (.iload 4, 2) := am_row (r := (127, .iload 4, 2)) ro_Form_isLeastAgain 67 rfl
theorem d_Form_isLeastAgain_129 : decode prog_4_method_6_code 129 = .ok (.ifCond .ne 7, 3) := am_row (r := (129, .ifCond .ne 7, 3)) ro_Form_isLeastAgain 68 rfl
theorem d_Form_isLeastAgain_132 : decode prog_4_method_6_code 132 = .ok (.iconst 1, 1) := am_row (r := (132, .iconst 1, 1)) ro_Form_isLeastAgain 69 rfl
theorem d_Form_isLeastAgain_133 : decode prog_4_method_6_code 133 = .ok (.goto 4, 3) := am_row (r := (133, .goto 4, 3)) ro_Form_isLeastAgain 70 rfl
theorem d_Form_isLeastAgain_136 : decode prog_4_method_6_code 136 = .ok (.iconst 0, 1) := am_row (r := (136, .iconst 0, 1)) ro_Form_isLeastAgain 71 rfl
theorem d_Form_isLeastAgain_137 : decode prog_4_method_6_code 137 = .ok (.ireturn, 1) := am_row (r := (137, .ireturn, 1)) ro_Form_isLeastAgain 72 rfl
abbrev y_Form_tryAllStarts : MethodName := ⟨"WheelDisc$Form", "tryAllStarts", "([II)V"⟩
theorem c_Form_tryAllStarts : Cond.code y_Form_tryAllStarts prog_4_method_5_code 4 none ∈ am_T := am_mem 692 (by decide +kernel) rfl
def rw_Form_tryAllStarts : List (Nat × Instr × Nat) := [(0, .iconst 0, 1), (1, .istore_n 3, 1), (2, .iload_n 3, 1), (3, .aload_n 0, 1), (4, .getfield 22, 3), (7, .if_icmp .ge 20, 3), (10, .aload_n 0, 1), (11, .aload_n 1, 1), (12, .iload_n 3, 1), (13, .iload_n 2, 1), (14, .invokevirtual 55, 3), (17, .ifCond .eq 4, 3), (20, .return_, 1), (21, .iinc 3 1, 3), (24, .goto (-22), 3), (27, .return_, 1)]
theorem ro_Form_tryAllStarts : rw_Form_tryAllStarts.all (fun r => decide (decode prog_4_method_5_code r.1 = .ok r.2)) = true := by decide +kernel
theorem d_Form_tryAllStarts_0 : decode prog_4_method_5_code 0 = .ok (.iconst 0, 1) := am_row (r := (0, .iconst 0, 1)) ro_Form_tryAllStarts 0 rfl
theorem d_Form_tryAllStarts_1 : decode prog_4_method_5_code 1 = .ok (.istore_n 3, 1) := am_row (r := (1, .istore_n 3, 1)) ro_Form_tryAllStarts 1 rfl
theorem d_Form_tryAllStarts_2 : decode prog_4_method_5_code 2 = .ok (.iload_n 3, 1) := am_row (r := (2, .iload_n 3, 1)) ro_Form_tryAllStarts 2 rfl
theorem d_Form_tryAllStarts_3 : decode prog_4_method_5_code 3 = .ok (.aload_n 0, 1) := am_row (r := (3, .aload_n 0, 1)) ro_Form_tryAllStarts 3 rfl
theorem d_Form_tryAllStarts_4 : decode prog_4_method_5_code 4 = .ok (.getfield 22, 3) := am_row (r := (4, .getfield 22, 3)) ro_Form_tryAllStarts 4 rfl
theorem d_Form_tryAllStarts_7 : decode prog_4_method_5_code 7 = .ok (.if_icmp .ge 20, 3) := am_row (r := (7, .if_icmp .ge 20, 3)) ro_Form_tryAllStarts 5 rfl
theorem d_Form_tryAllStarts_10 : decode prog_4_method_5_code 10 = .ok (.aload_n 0, 1) := am_row (r := (10, .aload_n 0, 1)) ro_Form_tryAllStarts 6 rfl
theorem d_Form_tryAllStarts_11 : decode prog_4_method_5_code 11 = .ok (.aload_n 1, 1) := am_row (r := (11, .aload_n 1, 1)) ro_Form_tryAllStarts 7 rfl
theorem d_Form_tryAllStarts_12 : decode prog_4_method_5_code 12 = .ok (.iload_n 3, 1) := am_row (r := (12, .iload_n 3, 1)) ro_Form_tryAllStarts 8 rfl
theorem d_Form_tryAllStarts_13 : decode prog_4_method_5_code 13 = .ok (.iload_n 2, 1) := am_row (r := (13, .iload_n 2, 1)) ro_Form_tryAllStarts 9 rfl
theorem d_Form_tryAllStarts_14 : decode prog_4_method_5_code 14 = .ok (.invokevirtual 55, 3) := am_row (r := (14, .invokevirtual 55, 3)) ro_Form_tryAllStarts 10 rfl
theorem d_Form_tryAllStarts_17 : decode prog_4_method_5_code 17 = .ok (.ifCond .eq 4, 3) := am_row (r := (17, .ifCond .eq 4, 3)) ro_Form_tryAllStarts 11 rfl
theorem d_Form_tryAllStarts_20 : decode prog_4_method_5_code 20 = .ok (.return_, 1) := am_row (r := (20, .return_, 1)) ro_Form_tryAllStarts 12 rfl
theorem d_Form_tryAllStarts_21 : decode prog_4_method_5_code 21 = .ok (.iinc 3 1, 3) := am_row (r := (21, .iinc 3 1, 3)) ro_Form_tryAllStarts 13 rfl
theorem d_Form_tryAllStarts_24 : decode prog_4_method_5_code 24 = .ok (.goto (-22), 3) := am_row (r := (24, .goto (-22), 3)) ro_Form_tryAllStarts 14 rfl
theorem d_Form_tryAllStarts_27 : decode prog_4_method_5_code 27 = .ok (.return_, 1) := am_row (r := (27, .return_, 1)) ro_Form_tryAllStarts 15 rfl
abbrev y_Form_find : MethodName := ⟨"WheelDisc$Form", "find", "(LWheelDisc$View;)V"⟩
theorem c_Form_find : Cond.code y_Form_find prog_4_method_4_code 2 none ∈ am_T := am_mem 685 (by decide +kernel) rfl
def rw_Form_find : List (Nat × Instr × Nat) := [(0, .aload_n 0, 1), (1, .getfield 29, 3), (4, .ifCond .ne 4, 3), (7, .return_, 1), (8, .aload_n 0, 1), (9, .aload_n 1, 1), (10, .getfield 39, 3), (13, .putfield 22, 3), (16, .aload_n 0, 1), (17, .aload_n 1, 1), (18, .getfield 42, 3), (21, .putfield 26, 3), (24, .aload_n 0, 1), (25, .getfield 9, 3), (28, .sipush 1024, 3), (31, .invokestatic 43, 3), (34, .aload_n 0, 1), (35, .aload_n 1, 1), (36, .getfield 49, 3), (39, .iconst 1, 1), (40, .invokevirtual 52, 3), (43, .aload_n 0, 1), (44, .aload_n 1, 1), (45, .getfield 49, 3), (48, .iconst (-1), 1), (49, .invokevirtual 52, 3), (52, .aload_n 0, 1), (53, .iconst 0, 1), (54, .putfield 29, 3), (57, .return_, 1)]
theorem ro_Form_find : rw_Form_find.all (fun r => decide (decode prog_4_method_4_code r.1 = .ok r.2)) = true := by decide +kernel
theorem d_Form_find_0 : decode prog_4_method_4_code 0 = .ok (.aload_n 0, 1) := am_row (r := (0, .aload_n 0, 1)) ro_Form_find 0 rfl
theorem d_Form_find_1 : decode prog_4_method_4_code 1 = .ok (.getfield 29, 3) := am_row (r := (1, .getfield 29, 3)) ro_Form_find 1 rfl
theorem d_Form_find_4 : decode prog_4_method_4_code 4 = .ok (.ifCond .ne 4, 3) := am_row (r := (4, .ifCond .ne 4, 3)) ro_Form_find 2 rfl
theorem d_Form_find_7 : decode prog_4_method_4_code 7 = .ok (.return_, 1) := am_row (r := (7, .return_, 1)) ro_Form_find 3 rfl
theorem d_Form_find_8 : decode prog_4_method_4_code 8 = .ok (.aload_n 0, 1) := am_row (r := (8, .aload_n 0, 1)) ro_Form_find 4 rfl
theorem d_Form_find_9 : decode prog_4_method_4_code 9 = .ok (.aload_n 1, 1) := am_row (r := (9, .aload_n 1, 1)) ro_Form_find 5 rfl
theorem d_Form_find_10 : decode prog_4_method_4_code 10 = .ok (.getfield 39, 3) := am_row (r := (10, .getfield 39, 3)) ro_Form_find 6 rfl
theorem d_Form_find_13 : decode prog_4_method_4_code 13 = .ok (.putfield 22, 3) := am_row (r := (13, .putfield 22, 3)) ro_Form_find 7 rfl
theorem d_Form_find_16 : decode prog_4_method_4_code 16 = .ok (.aload_n 0, 1) := am_row (r := (16, .aload_n 0, 1)) ro_Form_find 8 rfl
theorem d_Form_find_17 : decode prog_4_method_4_code 17 = .ok (.aload_n 1, 1) := am_row (r := (17, .aload_n 1, 1)) ro_Form_find 9 rfl
theorem d_Form_find_18 : decode prog_4_method_4_code 18 = .ok (.getfield 42, 3) := am_row (r := (18, .getfield 42, 3)) ro_Form_find 10 rfl
theorem d_Form_find_21 : decode prog_4_method_4_code 21 = .ok (.putfield 26, 3) := am_row (r := (21, .putfield 26, 3)) ro_Form_find 11 rfl
theorem d_Form_find_24 : decode prog_4_method_4_code 24 = .ok (.aload_n 0, 1) := am_row (r := (24, .aload_n 0, 1)) ro_Form_find 12 rfl
theorem d_Form_find_25 : decode prog_4_method_4_code 25 = .ok (.getfield 9, 3) := am_row (r := (25, .getfield 9, 3)) ro_Form_find 13 rfl
theorem d_Form_find_28 : decode prog_4_method_4_code 28 = .ok (.sipush 1024, 3) := am_row (r := (28, .sipush 1024, 3)) ro_Form_find 14 rfl
theorem d_Form_find_31 : decode prog_4_method_4_code 31 = .ok (.invokestatic 43, 3) := am_row (r := (31, .invokestatic 43, 3)) ro_Form_find 15 rfl
theorem d_Form_find_34 : decode prog_4_method_4_code 34 = .ok (.aload_n 0, 1) := am_row (r := (34, .aload_n 0, 1)) ro_Form_find 16 rfl
theorem d_Form_find_35 : decode prog_4_method_4_code 35 = .ok (.aload_n 1, 1) := am_row (r := (35, .aload_n 1, 1)) ro_Form_find 17 rfl
theorem d_Form_find_36 : decode prog_4_method_4_code 36 = .ok (.getfield 49, 3) := am_row (r := (36, .getfield 49, 3)) ro_Form_find 18 rfl
theorem d_Form_find_39 : decode prog_4_method_4_code 39 = .ok (.iconst 1, 1) := am_row (r := (39, .iconst 1, 1)) ro_Form_find 19 rfl
theorem d_Form_find_40 : decode prog_4_method_4_code 40 = .ok (.invokevirtual 52, 3) := am_row (r := (40, .invokevirtual 52, 3)) ro_Form_find 20 rfl
theorem d_Form_find_43 : decode prog_4_method_4_code 43 = .ok (.aload_n 0, 1) := am_row (r := (43, .aload_n 0, 1)) ro_Form_find 21 rfl
theorem d_Form_find_44 : decode prog_4_method_4_code 44 = .ok (.aload_n 1, 1) := am_row (r := (44, .aload_n 1, 1)) ro_Form_find 22 rfl
theorem d_Form_find_45 : decode prog_4_method_4_code 45 = .ok (.getfield 49, 3) := am_row (r := (45, .getfield 49, 3)) ro_Form_find 23 rfl
theorem d_Form_find_48 : decode prog_4_method_4_code 48 = .ok (.iconst (-1), 1) := am_row (r := (48, .iconst (-1), 1)) ro_Form_find 24 rfl
theorem d_Form_find_49 : decode prog_4_method_4_code 49 = .ok (.invokevirtual 52, 3) := am_row (r := (49, .invokevirtual 52, 3)) ro_Form_find 25 rfl
theorem d_Form_find_52 : decode prog_4_method_4_code 52 = .ok (.aload_n 0, 1) := am_row (r := (52, .aload_n 0, 1)) ro_Form_find 26 rfl
theorem d_Form_find_53 : decode prog_4_method_4_code 53 = .ok (.iconst 0, 1) := am_row (r := (53, .iconst 0, 1)) ro_Form_find 27 rfl
theorem d_Form_find_54 : decode prog_4_method_4_code 54 = .ok (.putfield 29, 3) := am_row (r := (54, .putfield 29, 3)) ro_Form_find 28 rfl
theorem d_Form_find_57 : decode prog_4_method_4_code 57 = .ok (.return_, 1) := am_row (r := (57, .return_, 1)) ro_Form_find 29 rfl
abbrev y_WD_formed : MethodName := ⟨"WheelDisc", "formed", "()LWheelDisc$Form;"⟩
theorem c_WD_formed : Cond.code y_WD_formed prog_1_method_48_code 1 (some (.object "WheelDisc$Form")) ∈ am_T := am_mem 681 (by decide +kernel) rfl
def rw_WD_formed : List (Nat × Instr × Nat) := [(0, .aload_n 0, 1), (1, .getfield 40, 3), (4, .aload_n 0, 1), (5, .invokevirtual 187, 3), (8, .invokevirtual 321, 3), (11, .aload_n 0, 1), (12, .getfield 40, 3), (15, .areturn, 1)]
theorem ro_WD_formed : rw_WD_formed.all (fun r => decide (decode prog_1_method_48_code r.1 = .ok r.2)) = true := by decide +kernel
theorem d_WD_formed_0 : decode prog_1_method_48_code 0 = .ok (.aload_n 0, 1) := am_row (r := (0, .aload_n 0, 1)) ro_WD_formed 0 rfl
theorem d_WD_formed_1 : decode prog_1_method_48_code 1 = .ok (.getfield 40, 3) := am_row (r := (1, .getfield 40, 3)) ro_WD_formed 1 rfl
theorem d_WD_formed_4 : decode prog_1_method_48_code 4 = .ok (.aload_n 0, 1) := am_row (r := (4, .aload_n 0, 1)) ro_WD_formed 2 rfl
theorem d_WD_formed_5 : decode prog_1_method_48_code 5 = .ok (.invokevirtual 187, 3) := am_row (r := (5, .invokevirtual 187, 3)) ro_WD_formed 3 rfl
theorem d_WD_formed_8 : decode prog_1_method_48_code 8 = .ok (.invokevirtual 321, 3) := am_row (r := (8, .invokevirtual 321, 3)) ro_WD_formed 4 rfl
theorem d_WD_formed_11 : decode prog_1_method_48_code 11 = .ok (.aload_n 0, 1) := am_row (r := (11, .aload_n 0, 1)) ro_WD_formed 5 rfl
theorem d_WD_formed_12 : decode prog_1_method_48_code 12 = .ok (.getfield 40, 3) := am_row (r := (12, .getfield 40, 3)) ro_WD_formed 6 rfl
theorem d_WD_formed_15 : decode prog_1_method_48_code 15 = .ok (.areturn, 1) := am_row (r := (15, .areturn, 1)) ro_WD_formed 7 rfl
abbrev y_WD_form : MethodName := ⟨"WheelDisc", "form", "(I)I"⟩
theorem c_WD_form : Cond.code y_WD_form prog_1_method_23_code 2 (some .int) ∈ am_T := am_mem 677 (by decide +kernel) rfl
def rw_WD_form : List (Nat × Instr × Nat) := [(0, .aload_n 0, 1), (1, .getfield 19, 3), (4, .iload_n 1, 1), (5, .invokevirtual 146, 3), (8, .ifCond .ne 9, 3), (11, .aload_n 0, 1), (12, .iconst 1, 1), (13, .invokevirtual 95, 3), (16, .ireturn, 1), (17, .aload_n 0, 1), (18, .aload_n 0, 1), (19, .invokevirtual 234, 3), (22, .getfield 238, 3), (25, .iload_n 1, 1), (26, .iaload, 1), (27, .invokevirtual 91, 3), (30, .ireturn, 1)]
theorem ro_WD_form : rw_WD_form.all (fun r => decide (decode prog_1_method_23_code r.1 = .ok r.2)) = true := by decide +kernel
theorem d_WD_form_0 : decode prog_1_method_23_code 0 = .ok (.aload_n 0, 1) := am_row (r := (0, .aload_n 0, 1)) ro_WD_form 0 rfl
theorem d_WD_form_1 : decode prog_1_method_23_code 1 = .ok (.getfield 19, 3) := am_row (r := (1, .getfield 19, 3)) ro_WD_form 1 rfl
theorem d_WD_form_4 : decode prog_1_method_23_code 4 = .ok (.iload_n 1, 1) := am_row (r := (4, .iload_n 1, 1)) ro_WD_form 2 rfl
theorem d_WD_form_5 : decode prog_1_method_23_code 5 = .ok (.invokevirtual 146, 3) := am_row (r := (5, .invokevirtual 146, 3)) ro_WD_form 3 rfl
theorem d_WD_form_8 : decode prog_1_method_23_code 8 = .ok (.ifCond .ne 9, 3) := am_row (r := (8, .ifCond .ne 9, 3)) ro_WD_form 4 rfl
theorem d_WD_form_11 : decode prog_1_method_23_code 11 = .ok (.aload_n 0, 1) := am_row (r := (11, .aload_n 0, 1)) ro_WD_form 5 rfl
theorem d_WD_form_12 : decode prog_1_method_23_code 12 = .ok (.iconst 1, 1) := am_row (r := (12, .iconst 1, 1)) ro_WD_form 6 rfl
theorem d_WD_form_13 : decode prog_1_method_23_code 13 = .ok (.invokevirtual 95, 3) := am_row (r := (13, .invokevirtual 95, 3)) ro_WD_form 7 rfl
theorem d_WD_form_16 : decode prog_1_method_23_code 16 = .ok (.ireturn, 1) := am_row (r := (16, .ireturn, 1)) ro_WD_form 8 rfl
theorem d_WD_form_17 : decode prog_1_method_23_code 17 = .ok (.aload_n 0, 1) := am_row (r := (17, .aload_n 0, 1)) ro_WD_form 9 rfl
theorem d_WD_form_18 : decode prog_1_method_23_code 18 = .ok (.aload_n 0, 1) := am_row (r := (18, .aload_n 0, 1)) ro_WD_form 10 rfl
theorem d_WD_form_19 : decode prog_1_method_23_code 19 = .ok (.invokevirtual 234, 3) := am_row (r := (19, .invokevirtual 234, 3)) ro_WD_form 11 rfl
theorem d_WD_form_22 : decode prog_1_method_23_code 22 = .ok (.getfield 238, 3) := am_row (r := (22, .getfield 238, 3)) ro_WD_form 12 rfl
theorem d_WD_form_25 : decode prog_1_method_23_code 25 = .ok (.iload_n 1, 1) := am_row (r := (25, .iload_n 1, 1)) ro_WD_form 13 rfl
theorem d_WD_form_26 : decode prog_1_method_23_code 26 = .ok (.iaload, 1) := am_row (r := (26, .iaload, 1)) ro_WD_form 14 rfl
theorem d_WD_form_27 : decode prog_1_method_23_code 27 = .ok (.invokevirtual 91, 3) := am_row (r := (27, .invokevirtual 91, 3)) ro_WD_form 15 rfl
theorem d_WD_form_30 : decode prog_1_method_23_code 30 = .ok (.ireturn, 1) := am_row (r := (30, .ireturn, 1)) ro_WD_form 16 rfl
abbrev y_Form_become : MethodName := ⟨"WheelDisc$Form", "become", "(LWheelDisc$Form;)V"⟩
theorem c_Form_become : Cond.code y_Form_become prog_4_method_2_code 2 none ∈ am_T := am_mem 721 (by decide +kernel) rfl
def rw_Form_become : List (Nat × Instr × Nat) := [(0, .aload_n 0, 1), (1, .aload_n 1, 1), (2, .getfield 22, 3), (5, .putfield 22, 3), (8, .aload_n 0, 1), (9, .aload_n 1, 1), (10, .getfield 26, 3), (13, .putfield 26, 3), (16, .aload_n 1, 1), (17, .getfield 9, 3), (20, .iconst 0, 1), (21, .aload_n 0, 1), (22, .getfield 9, 3), (25, .iconst 0, 1), (26, .aload_n 0, 1), (27, .getfield 22, 3), (30, .invokestatic 33, 3), (33, .return_, 1)]
theorem ro_Form_become : rw_Form_become.all (fun r => decide (decode prog_4_method_2_code r.1 = .ok r.2)) = true := by decide +kernel
theorem d_Form_become_0 : decode prog_4_method_2_code 0 = .ok (.aload_n 0, 1) := am_row (r := (0, .aload_n 0, 1)) ro_Form_become 0 rfl
theorem d_Form_become_1 : decode prog_4_method_2_code 1 = .ok (.aload_n 1, 1) := am_row (r := (1, .aload_n 1, 1)) ro_Form_become 1 rfl
theorem d_Form_become_2 : decode prog_4_method_2_code 2 = .ok (.getfield 22, 3) := am_row (r := (2, .getfield 22, 3)) ro_Form_become 2 rfl
theorem d_Form_become_5 : decode prog_4_method_2_code 5 = .ok (.putfield 22, 3) := am_row (r := (5, .putfield 22, 3)) ro_Form_become 3 rfl
theorem d_Form_become_8 : decode prog_4_method_2_code 8 = .ok (.aload_n 0, 1) := am_row (r := (8, .aload_n 0, 1)) ro_Form_become 4 rfl
theorem d_Form_become_9 : decode prog_4_method_2_code 9 = .ok (.aload_n 1, 1) := am_row (r := (9, .aload_n 1, 1)) ro_Form_become 5 rfl
theorem d_Form_become_10 : decode prog_4_method_2_code 10 = .ok (.getfield 26, 3) := am_row (r := (10, .getfield 26, 3)) ro_Form_become 6 rfl
theorem d_Form_become_13 : decode prog_4_method_2_code 13 = .ok (.putfield 26, 3) := am_row (r := (13, .putfield 26, 3)) ro_Form_become 7 rfl
theorem d_Form_become_16 : decode prog_4_method_2_code 16 = .ok (.aload_n 1, 1) := am_row (r := (16, .aload_n 1, 1)) ro_Form_become 8 rfl
theorem d_Form_become_17 : decode prog_4_method_2_code 17 = .ok (.getfield 9, 3) := am_row (r := (17, .getfield 9, 3)) ro_Form_become 9 rfl
theorem d_Form_become_20 : decode prog_4_method_2_code 20 = .ok (.iconst 0, 1) := am_row (r := (20, .iconst 0, 1)) ro_Form_become 10 rfl
theorem d_Form_become_21 : decode prog_4_method_2_code 21 = .ok (.aload_n 0, 1) := am_row (r := (21, .aload_n 0, 1)) ro_Form_become 11 rfl
theorem d_Form_become_22 : decode prog_4_method_2_code 22 = .ok (.getfield 9, 3) := am_row (r := (22, .getfield 9, 3)) ro_Form_become 12 rfl
theorem d_Form_become_25 : decode prog_4_method_2_code 25 = .ok (.iconst 0, 1) := am_row (r := (25, .iconst 0, 1)) ro_Form_become 13 rfl
theorem d_Form_become_26 : decode prog_4_method_2_code 26 = .ok (.aload_n 0, 1) := am_row (r := (26, .aload_n 0, 1)) ro_Form_become 14 rfl
theorem d_Form_become_27 : decode prog_4_method_2_code 27 = .ok (.getfield 22, 3) := am_row (r := (27, .getfield 22, 3)) ro_Form_become 15 rfl
theorem d_Form_become_30 : decode prog_4_method_2_code 30 = .ok (.invokestatic 33, 3) := am_row (r := (30, .invokestatic 33, 3)) ro_Form_become 16 rfl
theorem d_Form_become_33 : decode prog_4_method_2_code 33 = .ok (.return_, 1) := am_row (r := (33, .return_, 1)) ro_Form_become 17 rfl
abbrev y_WD_keep : MethodName := ⟨"WheelDisc", "keep", "()Z"⟩
theorem c_WD_keep : Cond.code y_WD_keep prog_1_method_24_code 1 (some .boolean) ∈ am_T := am_mem 717 (by decide +kernel) rfl
def rw_WD_keep : List (Nat × Instr × Nat) := [(0, .aload_n 0, 1), (1, .getfield 44, 3), (4, .aload_n 0, 1), (5, .invokevirtual 234, 3), (8, .invokevirtual 241, 3), (11, .aload_n 0, 1), (12, .iconst 1, 1), (13, .putfield 79, 3), (16, .aload_n 0, 1), (17, .iconst 1, 1), (18, .invokevirtual 112, 3), (21, .ireturn, 1)]
theorem ro_WD_keep : rw_WD_keep.all (fun r => decide (decode prog_1_method_24_code r.1 = .ok r.2)) = true := by decide +kernel
theorem d_WD_keep_0 : decode prog_1_method_24_code 0 = .ok (.aload_n 0, 1) := am_row (r := (0, .aload_n 0, 1)) ro_WD_keep 0 rfl
theorem d_WD_keep_1 : decode prog_1_method_24_code 1 = .ok (.getfield 44, 3) := am_row (r := (1, .getfield 44, 3)) ro_WD_keep 1 rfl
theorem d_WD_keep_4 : decode prog_1_method_24_code 4 = .ok (.aload_n 0, 1) := am_row (r := (4, .aload_n 0, 1)) ro_WD_keep 2 rfl
theorem d_WD_keep_5 : decode prog_1_method_24_code 5 = .ok (.invokevirtual 234, 3) := am_row (r := (5, .invokevirtual 234, 3)) ro_WD_keep 3 rfl
theorem d_WD_keep_8 : decode prog_1_method_24_code 8 = .ok (.invokevirtual 241, 3) := am_row (r := (8, .invokevirtual 241, 3)) ro_WD_keep 4 rfl
theorem d_WD_keep_11 : decode prog_1_method_24_code 11 = .ok (.aload_n 0, 1) := am_row (r := (11, .aload_n 0, 1)) ro_WD_keep 5 rfl
theorem d_WD_keep_12 : decode prog_1_method_24_code 12 = .ok (.iconst 1, 1) := am_row (r := (12, .iconst 1, 1)) ro_WD_keep 6 rfl
theorem d_WD_keep_13 : decode prog_1_method_24_code 13 = .ok (.putfield 79, 3) := am_row (r := (13, .putfield 79, 3)) ro_WD_keep 7 rfl
theorem d_WD_keep_16 : decode prog_1_method_24_code 16 = .ok (.aload_n 0, 1) := am_row (r := (16, .aload_n 0, 1)) ro_WD_keep 8 rfl
theorem d_WD_keep_17 : decode prog_1_method_24_code 17 = .ok (.iconst 1, 1) := am_row (r := (17, .iconst 1, 1)) ro_WD_keep 9 rfl
theorem d_WD_keep_18 : decode prog_1_method_24_code 18 = .ok (.invokevirtual 112, 3) := am_row (r := (18, .invokevirtual 112, 3)) ro_WD_keep 10 rfl
theorem d_WD_keep_21 : decode prog_1_method_24_code 21 = .ok (.ireturn, 1) := am_row (r := (21, .ireturn, 1)) ro_WD_keep 11 rfl
abbrev y_Form_isLike : MethodName := ⟨"WheelDisc$Form", "isLike", "(LWheelDisc$Form;)Z"⟩
theorem c_Form_isLike : Cond.code y_Form_isLike prog_4_method_3_code 3 (some .boolean) ∈ am_T := am_mem 730 (by decide +kernel) rfl
def rw_Form_isLike : List (Nat × Instr × Nat) := [(0, .aload_n 0, 1), (1, .getfield 22, 3), (4, .aload_n 1, 1), (5, .getfield 22, 3), (8, .if_icmp .ne 14, 3), (11, .aload_n 0, 1), (12, .getfield 26, 3), (15, .aload_n 1, 1), (16, .getfield 26, 3), (19, .if_icmp .eq 5, 3), (22, .iconst 0, 1), (23, .ireturn, 1), (24, .iconst 0, 1), (25, .istore_n 2, 1), (26, .iload_n 2, 1), (27, .aload_n 0, 1), (28, .getfield 22, 3), (31, .if_icmp .ge 26, 3), (34, .aload_n 0, 1), (35, .getfield 9, 3), (38, .iload_n 2, 1), (39, .iaload, 1), (40, .aload_n 1, 1), (41, .getfield 9, 3), (44, .iload_n 2, 1), (45, .iaload, 1), (46, .if_icmp .eq 5, 3), (49, .iconst 0, 1), (50, .ireturn, 1), (51, .iinc 2 1, 3), (54, .goto (-28), 3), (57, .iconst 1, 1), (58, .ireturn, 1)]
theorem ro_Form_isLike : rw_Form_isLike.all (fun r => decide (decode prog_4_method_3_code r.1 = .ok r.2)) = true := by decide +kernel
theorem d_Form_isLike_0 : decode prog_4_method_3_code 0 = .ok (.aload_n 0, 1) := am_row (r := (0, .aload_n 0, 1)) ro_Form_isLike 0 rfl
theorem d_Form_isLike_1 : decode prog_4_method_3_code 1 = .ok (.getfield 22, 3) := am_row (r := (1, .getfield 22, 3)) ro_Form_isLike 1 rfl
theorem d_Form_isLike_4 : decode prog_4_method_3_code 4 = .ok (.aload_n 1, 1) := am_row (r := (4, .aload_n 1, 1)) ro_Form_isLike 2 rfl
theorem d_Form_isLike_5 : decode prog_4_method_3_code 5 = .ok (.getfield 22, 3) := am_row (r := (5, .getfield 22, 3)) ro_Form_isLike 3 rfl
theorem d_Form_isLike_8 : decode prog_4_method_3_code 8 = .ok (.if_icmp .ne 14, 3) := am_row (r := (8, .if_icmp .ne 14, 3)) ro_Form_isLike 4 rfl
theorem d_Form_isLike_11 : decode prog_4_method_3_code 11 = .ok (.aload_n 0, 1) := am_row (r := (11, .aload_n 0, 1)) ro_Form_isLike 5 rfl
theorem d_Form_isLike_12 : decode prog_4_method_3_code 12 = .ok (.getfield 26, 3) := am_row (r := (12, .getfield 26, 3)) ro_Form_isLike 6 rfl
theorem d_Form_isLike_15 : decode prog_4_method_3_code 15 = .ok (.aload_n 1, 1) := am_row (r := (15, .aload_n 1, 1)) ro_Form_isLike 7 rfl
theorem d_Form_isLike_16 : decode prog_4_method_3_code 16 = .ok (.getfield 26, 3) := am_row (r := (16, .getfield 26, 3)) ro_Form_isLike 8 rfl
theorem d_Form_isLike_19 : decode prog_4_method_3_code 19 = .ok (.if_icmp .eq 5, 3) := am_row (r := (19, .if_icmp .eq 5, 3)) ro_Form_isLike 9 rfl
theorem d_Form_isLike_22 : decode prog_4_method_3_code 22 = .ok (.iconst 0, 1) := am_row (r := (22, .iconst 0, 1)) ro_Form_isLike 10 rfl
theorem d_Form_isLike_23 : decode prog_4_method_3_code 23 = .ok (.ireturn, 1) := am_row (r := (23, .ireturn, 1)) ro_Form_isLike 11 rfl
theorem d_Form_isLike_24 : decode prog_4_method_3_code 24 = .ok (.iconst 0, 1) := am_row (r := (24, .iconst 0, 1)) ro_Form_isLike 12 rfl
theorem d_Form_isLike_25 : decode prog_4_method_3_code 25 = .ok (.istore_n 2, 1) := am_row (r := (25, .istore_n 2, 1)) ro_Form_isLike 13 rfl
theorem d_Form_isLike_26 : decode prog_4_method_3_code 26 = .ok (.iload_n 2, 1) := am_row (r := (26, .iload_n 2, 1)) ro_Form_isLike 14 rfl
theorem d_Form_isLike_27 : decode prog_4_method_3_code 27 = .ok (.aload_n 0, 1) := am_row (r := (27, .aload_n 0, 1)) ro_Form_isLike 15 rfl
theorem d_Form_isLike_28 : decode prog_4_method_3_code 28 = .ok (.getfield 22, 3) := am_row (r := (28, .getfield 22, 3)) ro_Form_isLike 16 rfl
theorem d_Form_isLike_31 : decode prog_4_method_3_code 31 = .ok (.if_icmp .ge 26, 3) := am_row (r := (31, .if_icmp .ge 26, 3)) ro_Form_isLike 17 rfl
theorem d_Form_isLike_34 : decode prog_4_method_3_code 34 = .ok (.aload_n 0, 1) := am_row (r := (34, .aload_n 0, 1)) ro_Form_isLike 18 rfl
theorem d_Form_isLike_35 : decode prog_4_method_3_code 35 = .ok (.getfield 9, 3) := am_row (r := (35, .getfield 9, 3)) ro_Form_isLike 19 rfl
theorem d_Form_isLike_38 : decode prog_4_method_3_code 38 = .ok (.iload_n 2, 1) := am_row (r := (38, .iload_n 2, 1)) ro_Form_isLike 20 rfl
theorem d_Form_isLike_39 : decode prog_4_method_3_code 39 = .ok (.iaload, 1) := am_row (r := (39, .iaload, 1)) ro_Form_isLike 21 rfl
theorem d_Form_isLike_40 : decode prog_4_method_3_code 40 = .ok (.aload_n 1, 1) := am_row (r := (40, .aload_n 1, 1)) ro_Form_isLike 22 rfl
theorem d_Form_isLike_41 : decode prog_4_method_3_code 41 = .ok (.getfield 9, 3) := am_row (r := (41, .getfield 9, 3)) ro_Form_isLike 23 rfl
theorem d_Form_isLike_44 : decode prog_4_method_3_code 44 = .ok (.iload_n 2, 1) := am_row (r := (44, .iload_n 2, 1)) ro_Form_isLike 24 rfl
theorem d_Form_isLike_45 : decode prog_4_method_3_code 45 = .ok (.iaload, 1) := am_row (r := (45, .iaload, 1)) ro_Form_isLike 25 rfl
theorem d_Form_isLike_46 : decode prog_4_method_3_code 46 = .ok (.if_icmp .eq 5, 3) := am_row (r := (46, .if_icmp .eq 5, 3)) ro_Form_isLike 26 rfl
theorem d_Form_isLike_49 : decode prog_4_method_3_code 49 = .ok (.iconst 0, 1) := am_row (r := (49, .iconst 0, 1)) ro_Form_isLike 27 rfl
theorem d_Form_isLike_50 : decode prog_4_method_3_code 50 = .ok (.ireturn, 1) := am_row (r := (50, .ireturn, 1)) ro_Form_isLike 28 rfl
theorem d_Form_isLike_51 : decode prog_4_method_3_code 51 = .ok (.iinc 2 1, 3) := am_row (r := (51, .iinc 2 1, 3)) ro_Form_isLike 29 rfl
theorem d_Form_isLike_54 : decode prog_4_method_3_code 54 = .ok (.goto (-28), 3) := am_row (r := (54, .goto (-28), 3)) ro_Form_isLike 30 rfl
theorem d_Form_isLike_57 : decode prog_4_method_3_code 57 = .ok (.iconst 1, 1) := am_row (r := (57, .iconst 1, 1)) ro_Form_isLike 31 rfl
theorem d_Form_isLike_58 : decode prog_4_method_3_code 58 = .ok (.ireturn, 1) := am_row (r := (58, .ireturn, 1)) ro_Form_isLike 32 rfl
abbrev y_WD_same : MethodName := ⟨"WheelDisc", "same", "()Z"⟩
theorem c_WD_same : Cond.code y_WD_same prog_1_method_25_code 1 (some .boolean) ∈ am_T := am_mem 726 (by decide +kernel) rfl
def rw_WD_same : List (Nat × Instr × Nat) := [(0, .aload_n 0, 1), (1, .getfield 79, 3), (4, .ifCond .ne 9, 3), (7, .aload_n 0, 1), (8, .iconst 2, 1), (9, .invokevirtual 102, 3), (12, .ireturn, 1), (13, .aload_n 0, 1), (14, .aload_n 0, 1), (15, .invokevirtual 234, 3), (18, .aload_n 0, 1), (19, .getfield 44, 3), (22, .invokevirtual 244, 3), (25, .invokevirtual 112, 3), (28, .ireturn, 1)]
theorem ro_WD_same : rw_WD_same.all (fun r => decide (decode prog_1_method_25_code r.1 = .ok r.2)) = true := by decide +kernel
theorem d_WD_same_0 : decode prog_1_method_25_code 0 = .ok (.aload_n 0, 1) := am_row (r := (0, .aload_n 0, 1)) ro_WD_same 0 rfl
theorem d_WD_same_1 : decode prog_1_method_25_code 1 = .ok (.getfield 79, 3) := am_row (r := (1, .getfield 79, 3)) ro_WD_same 1 rfl
theorem d_WD_same_4 : decode prog_1_method_25_code 4 = .ok (.ifCond .ne 9, 3) := am_row (r := (4, .ifCond .ne 9, 3)) ro_WD_same 2 rfl
theorem d_WD_same_7 : decode prog_1_method_25_code 7 = .ok (.aload_n 0, 1) := am_row (r := (7, .aload_n 0, 1)) ro_WD_same 3 rfl
theorem d_WD_same_8 : decode prog_1_method_25_code 8 = .ok (.iconst 2, 1) := am_row (r := (8, .iconst 2, 1)) ro_WD_same 4 rfl
theorem d_WD_same_9 : decode prog_1_method_25_code 9 = .ok (.invokevirtual 102, 3) := am_row (r := (9, .invokevirtual 102, 3)) ro_WD_same 5 rfl
theorem d_WD_same_12 : decode prog_1_method_25_code 12 = .ok (.ireturn, 1) := am_row (r := (12, .ireturn, 1)) ro_WD_same 6 rfl
theorem d_WD_same_13 : decode prog_1_method_25_code 13 = .ok (.aload_n 0, 1) := am_row (r := (13, .aload_n 0, 1)) ro_WD_same 7 rfl
theorem d_WD_same_14 : decode prog_1_method_25_code 14 = .ok (.aload_n 0, 1) := am_row (r := (14, .aload_n 0, 1)) ro_WD_same 8 rfl
theorem d_WD_same_15 : decode prog_1_method_25_code 15 = .ok (.invokevirtual 234, 3) := am_row (r := (15, .invokevirtual 234, 3)) ro_WD_same 9 rfl
theorem d_WD_same_18 : decode prog_1_method_25_code 18 = .ok (.aload_n 0, 1) := am_row (r := (18, .aload_n 0, 1)) ro_WD_same 10 rfl
theorem d_WD_same_19 : decode prog_1_method_25_code 19 = .ok (.getfield 44, 3) := am_row (r := (19, .getfield 44, 3)) ro_WD_same 11 rfl
theorem d_WD_same_22 : decode prog_1_method_25_code 22 = .ok (.invokevirtual 244, 3) := am_row (r := (22, .invokevirtual 244, 3)) ro_WD_same 12 rfl
theorem d_WD_same_25 : decode prog_1_method_25_code 25 = .ok (.invokevirtual 112, 3) := am_row (r := (25, .invokevirtual 112, 3)) ro_WD_same 13 rfl
theorem d_WD_same_28 : decode prog_1_method_25_code 28 = .ok (.ireturn, 1) := am_row (r := (28, .ireturn, 1)) ro_WD_same 14 rfl
abbrev y_Maker_makeGray : MethodName := ⟨"WheelDisc$Maker", "makeGray", "(LWheelDisc$Disc;II)V"⟩
theorem c_Maker_makeGray : Cond.code y_Maker_makeGray prog_6_method_2_code 8 none ∈ am_T := am_mem 737 (by decide +kernel) rfl
def rw_Maker_makeGray : List (Nat × Instr × Nat) := [(0, .iconst 4, 1), (1, .istore_n 3, 1), (2, .iload_n 3, 1), (3, .iload_n 1, 1), (4, .if_icmp .ge 17, 3), (7, .iload_n 3, 1), (8, .sipush 512, 3), (11, .if_icmp .ge 10, 3), (14, .iload_n 3, 1), (15, .iconst 2, 1), (16, .imul, 1), (17, .istore_n 3, 1), (18, .goto (-16), 3), (21, .aload_n 0, 1), (22, .iload_n 1, 1), (23, .invokevirtual 9, 3), (26, .iconst 0, 1), (27, .istore 4, 2), (29, .iload 4, 2), (31, .iload_n 2, 1), (32, .if_icmp .ge 19, 3), (35, .aload_n 0, 1), (36, .aload_n 0, 1), (37, .invokevirtual 15, 3), (40, .iconst 0, 1), (41, .invokevirtual 19, 3), (44, .pop, 1), (45, .iinc 4 1, 3), (48, .goto (-19), 3), (51, .iload_n 3, 1), (52, .iload_n 1, 1), (53, .isub, 1), (54, .iconst 2, 1), (55, .idiv, 1), (56, .istore 4, 2), (58, .iconst 0, 1), (59, .istore 5, 2), (61, .iload 5, 2), (63, .iload_n 1, 1), (64, .if_icmp .ge 66, 3), (67, .iload 4, 2), (69, .iload 5, 2), (71, .iadd, 1), (72, .iload 4, 2), (74, .iload 5, 2), (76, .iadd, 1), (77, .iconst 1, 1), (78, .ishr, 1), (79, .ixor, 1), (80, .istore 6, 2), (82, .iconst 0, 1), (83, .istore 7, 2), (85, .iload 7, 2), (87, .iload_n 2, 1), (88, .if_icmp .ge 36, 3), (91, .aload_n 0, 1), (92, .iload 7, 2), (94, .iload 5, 2), (96, .iload 6, 2), (98, .iload_n 2, 1), (99, .iconst 1, 1), (100, .isub, 1), (101, .iload 7, 2), (103, .isub, 1), (104, .ishr, 1), (105, .iconst 1, 1), (106, .iand, 1), (107, .ifCond .eq 7, 3), (110, .iconst 1, 1), (111, .goto 4, 3), (114, .iconst 0, 1), (115, .invokevirtual 23, 3), (118, .iinc 7 1, 3), (121, .goto (-36), 3), (124, .iinc 5 1, 3), (127, .goto (-66), 3), (130, .return_, 1)]
theorem ro_Maker_makeGray : rw_Maker_makeGray.all (fun r => decide (decode prog_6_method_2_code r.1 = .ok r.2)) = true := by decide +kernel
theorem d_Maker_makeGray_0 : decode prog_6_method_2_code 0 = .ok (.iconst 4, 1) := am_row (r := (0, .iconst 4, 1)) ro_Maker_makeGray 0 rfl
theorem d_Maker_makeGray_1 : decode prog_6_method_2_code 1 = .ok (.istore_n 3, 1) := am_row (r := (1, .istore_n 3, 1)) ro_Maker_makeGray 1 rfl
theorem d_Maker_makeGray_2 : decode prog_6_method_2_code 2 = .ok (.iload_n 3, 1) := am_row (r := (2, .iload_n 3, 1)) ro_Maker_makeGray 2 rfl
theorem d_Maker_makeGray_3 : decode prog_6_method_2_code 3 = .ok (.iload_n 1, 1) := am_row (r := (3, .iload_n 1, 1)) ro_Maker_makeGray 3 rfl
theorem d_Maker_makeGray_4 : decode prog_6_method_2_code 4 = .ok (.if_icmp .ge 17, 3) := am_row (r := (4, .if_icmp .ge 17, 3)) ro_Maker_makeGray 4 rfl
theorem d_Maker_makeGray_7 : decode prog_6_method_2_code 7 = .ok (.iload_n 3, 1) := am_row (r := (7, .iload_n 3, 1)) ro_Maker_makeGray 5 rfl
theorem d_Maker_makeGray_8 : decode prog_6_method_2_code 8 = .ok (.sipush 512, 3) := am_row (r := (8, .sipush 512, 3)) ro_Maker_makeGray 6 rfl
theorem d_Maker_makeGray_11 : decode prog_6_method_2_code 11 = .ok (.if_icmp .ge 10, 3) := am_row (r := (11, .if_icmp .ge 10, 3)) ro_Maker_makeGray 7 rfl
theorem d_Maker_makeGray_14 : decode prog_6_method_2_code 14 = .ok (.iload_n 3, 1) := am_row (r := (14, .iload_n 3, 1)) ro_Maker_makeGray 8 rfl
theorem d_Maker_makeGray_15 : decode prog_6_method_2_code 15 = .ok (.iconst 2, 1) := am_row (r := (15, .iconst 2, 1)) ro_Maker_makeGray 9 rfl
theorem d_Maker_makeGray_16 : decode prog_6_method_2_code 16 = .ok (.imul, 1) := am_row (r := (16, .imul, 1)) ro_Maker_makeGray 10 rfl
theorem d_Maker_makeGray_17 : decode prog_6_method_2_code 17 = .ok (.istore_n 3, 1) := am_row (r := (17, .istore_n 3, 1)) ro_Maker_makeGray 11 rfl
theorem d_Maker_makeGray_18 : decode prog_6_method_2_code 18 = .ok (.goto (-16), 3) := am_row (r := (18, .goto (-16), 3)) ro_Maker_makeGray 12 rfl
theorem d_Maker_makeGray_21 : decode prog_6_method_2_code 21 = .ok (.aload_n 0, 1) := am_row (r := (21, .aload_n 0, 1)) ro_Maker_makeGray 13 rfl
theorem d_Maker_makeGray_22 : decode prog_6_method_2_code 22 = .ok (.iload_n 1, 1) := am_row (r := (22, .iload_n 1, 1)) ro_Maker_makeGray 14 rfl
theorem d_Maker_makeGray_23 : decode prog_6_method_2_code 23 = .ok (.invokevirtual 9, 3) := am_row (r := (23, .invokevirtual 9, 3)) ro_Maker_makeGray 15 rfl
theorem d_Maker_makeGray_26 : decode prog_6_method_2_code 26 = .ok (.iconst 0, 1) := am_row (r := (26, .iconst 0, 1)) ro_Maker_makeGray 16 rfl
theorem d_Maker_makeGray_27 : decode prog_6_method_2_code 27 = .ok (.istore 4, 2) := am_row (r := (27, .istore 4, 2)) ro_Maker_makeGray 17 rfl
theorem d_Maker_makeGray_29 : decode prog_6_method_2_code 29 = .ok (.iload 4, 2) := am_row (r := (29, .iload 4, 2)) ro_Maker_makeGray 18 rfl
theorem d_Maker_makeGray_31 : decode prog_6_method_2_code 31 = .ok (.iload_n 2, 1) := am_row (r := (31, .iload_n 2, 1)) ro_Maker_makeGray 19 rfl
theorem d_Maker_makeGray_32 : decode prog_6_method_2_code 32 = .ok (.if_icmp .ge 19, 3) := am_row (r := (32, .if_icmp .ge 19, 3)) ro_Maker_makeGray 20 rfl
theorem d_Maker_makeGray_35 : decode prog_6_method_2_code 35 = .ok (.aload_n 0, 1) := am_row (r := (35, .aload_n 0, 1)) ro_Maker_makeGray 21 rfl
theorem d_Maker_makeGray_36 : decode prog_6_method_2_code 36 = .ok (.aload_n 0, 1) := am_row (r := (36, .aload_n 0, 1)) ro_Maker_makeGray 22 rfl
theorem d_Maker_makeGray_37 : decode prog_6_method_2_code 37 = .ok (.invokevirtual 15, 3) := am_row (r := (37, .invokevirtual 15, 3)) ro_Maker_makeGray 23 rfl
theorem d_Maker_makeGray_40 : decode prog_6_method_2_code 40 = .ok (.iconst 0, 1) := am_row (r := (40, .iconst 0, 1)) ro_Maker_makeGray 24 rfl
theorem d_Maker_makeGray_41 : decode prog_6_method_2_code 41 = .ok (.invokevirtual 19, 3) := am_row (r := (41, .invokevirtual 19, 3)) ro_Maker_makeGray 25 rfl
theorem d_Maker_makeGray_44 : decode prog_6_method_2_code 44 = .ok (.pop, 1) := am_row (r := (44, .pop, 1)) ro_Maker_makeGray 26 rfl
theorem d_Maker_makeGray_45 : decode prog_6_method_2_code 45 = .ok (.iinc 4 1, 3) := am_row (r := (45, .iinc 4 1, 3)) ro_Maker_makeGray 27 rfl
theorem d_Maker_makeGray_48 : decode prog_6_method_2_code 48 = .ok (.goto (-19), 3) := am_row (r := (48, .goto (-19), 3)) ro_Maker_makeGray 28 rfl
theorem d_Maker_makeGray_51 : decode prog_6_method_2_code 51 = .ok (.iload_n 3, 1) := am_row (r := (51, .iload_n 3, 1)) ro_Maker_makeGray 29 rfl
theorem d_Maker_makeGray_52 : decode prog_6_method_2_code 52 = .ok (.iload_n 1, 1) := am_row (r := (52, .iload_n 1, 1)) ro_Maker_makeGray 30 rfl
theorem d_Maker_makeGray_53 : decode prog_6_method_2_code 53 = .ok (.isub, 1) := am_row (r := (53, .isub, 1)) ro_Maker_makeGray 31 rfl
theorem d_Maker_makeGray_54 : decode prog_6_method_2_code 54 = .ok (.iconst 2, 1) := am_row (r := (54, .iconst 2, 1)) ro_Maker_makeGray 32 rfl
theorem d_Maker_makeGray_55 : decode prog_6_method_2_code 55 = .ok (.idiv, 1) := am_row (r := (55, .idiv, 1)) ro_Maker_makeGray 33 rfl
theorem d_Maker_makeGray_56 : decode prog_6_method_2_code 56 = .ok (.istore 4, 2) := am_row (r := (56, .istore 4, 2)) ro_Maker_makeGray 34 rfl
theorem d_Maker_makeGray_58 : decode prog_6_method_2_code 58 = .ok (.iconst 0, 1) := am_row (r := (58, .iconst 0, 1)) ro_Maker_makeGray 35 rfl
theorem d_Maker_makeGray_59 : decode prog_6_method_2_code 59 = .ok (.istore 5, 2) := am_row (r := (59, .istore 5, 2)) ro_Maker_makeGray 36 rfl
theorem d_Maker_makeGray_61 : decode prog_6_method_2_code 61 = .ok (.iload 5, 2) := am_row (r := (61, .iload 5, 2)) ro_Maker_makeGray 37 rfl
theorem d_Maker_makeGray_63 : decode prog_6_method_2_code 63 = .ok (.iload_n 1, 1) := am_row (r := (63, .iload_n 1, 1)) ro_Maker_makeGray 38 rfl
theorem d_Maker_makeGray_64 : decode prog_6_method_2_code 64 = .ok (.if_icmp .ge 66, 3) := am_row (r := (64, .if_icmp .ge 66, 3)) ro_Maker_makeGray 39 rfl
theorem d_Maker_makeGray_67 : decode prog_6_method_2_code 67 = .ok (.iload 4, 2) := am_row (r := (67, .iload 4, 2)) ro_Maker_makeGray 40 rfl
theorem d_Maker_makeGray_69 : decode prog_6_method_2_code 69 = .ok (.iload 5, 2) := am_row (r := (69, .iload 5, 2)) ro_Maker_makeGray 41 rfl
theorem d_Maker_makeGray_71 : decode prog_6_method_2_code 71 = .ok (.iadd, 1) := am_row (r := (71, .iadd, 1)) ro_Maker_makeGray 42 rfl
theorem d_Maker_makeGray_72 : decode prog_6_method_2_code 72 = .ok (.iload 4, 2) := am_row (r := (72, .iload 4, 2)) ro_Maker_makeGray 43 rfl
theorem d_Maker_makeGray_74 : decode prog_6_method_2_code 74 = .ok (.iload 5, 2) := am_row (r := (74, .iload 5, 2)) ro_Maker_makeGray 44 rfl
theorem d_Maker_makeGray_76 : decode prog_6_method_2_code 76 = .ok (.iadd, 1) := am_row (r := (76, .iadd, 1)) ro_Maker_makeGray 45 rfl
theorem d_Maker_makeGray_77 : decode prog_6_method_2_code 77 = .ok (.iconst 1, 1) := am_row (r := (77, .iconst 1, 1)) ro_Maker_makeGray 46 rfl
theorem d_Maker_makeGray_78 : decode prog_6_method_2_code 78 = .ok (.ishr, 1) := am_row (r := (78, .ishr, 1)) ro_Maker_makeGray 47 rfl
theorem d_Maker_makeGray_79 : decode prog_6_method_2_code 79 = .ok (.ixor, 1) := am_row (r := (79, .ixor, 1)) ro_Maker_makeGray 48 rfl
theorem d_Maker_makeGray_80 : decode prog_6_method_2_code 80 = .ok (.istore 6, 2) := am_row (r := (80, .istore 6, 2)) ro_Maker_makeGray 49 rfl
theorem d_Maker_makeGray_82 : decode prog_6_method_2_code 82 = .ok (.iconst 0, 1) := am_row (r := (82, .iconst 0, 1)) ro_Maker_makeGray 50 rfl
theorem d_Maker_makeGray_83 : decode prog_6_method_2_code 83 = .ok (.istore 7, 2) := am_row (r := (83, .istore 7, 2)) ro_Maker_makeGray 51 rfl
theorem d_Maker_makeGray_85 : decode prog_6_method_2_code 85 = .ok (.iload 7, 2) := am_row (r := (85, .iload 7, 2)) ro_Maker_makeGray 52 rfl
theorem d_Maker_makeGray_87 : decode prog_6_method_2_code 87 = .ok (.iload_n 2, 1) := am_row (r := (87, .iload_n 2, 1)) ro_Maker_makeGray 53 rfl
theorem d_Maker_makeGray_88 : decode prog_6_method_2_code 88 = .ok (.if_icmp .ge 36, 3) := am_row (r := (88, .if_icmp .ge 36, 3)) ro_Maker_makeGray 54 rfl
theorem d_Maker_makeGray_91 : decode prog_6_method_2_code 91 = .ok (.aload_n 0, 1) := am_row (r := (91, .aload_n 0, 1)) ro_Maker_makeGray 55 rfl
theorem d_Maker_makeGray_92 : decode prog_6_method_2_code 92 = .ok (.iload 7, 2) := am_row (r := (92, .iload 7, 2)) ro_Maker_makeGray 56 rfl
theorem d_Maker_makeGray_94 : decode prog_6_method_2_code 94 = .ok (.iload 5, 2) := am_row (r := (94, .iload 5, 2)) ro_Maker_makeGray 57 rfl
theorem d_Maker_makeGray_96 : decode prog_6_method_2_code 96 = .ok (.iload 6, 2) := am_row (r := (96, .iload 6, 2)) ro_Maker_makeGray 58 rfl
theorem d_Maker_makeGray_98 : decode prog_6_method_2_code 98 = .ok (.iload_n 2, 1) := am_row (r := (98, .iload_n 2, 1)) ro_Maker_makeGray 59 rfl
theorem d_Maker_makeGray_99 : decode prog_6_method_2_code 99 = .ok (.iconst 1, 1) := am_row (r := (99, .iconst 1, 1)) ro_Maker_makeGray 60 rfl
theorem d_Maker_makeGray_100 : decode prog_6_method_2_code 100 = .ok (.isub, 1) := am_row (r := (100, .isub, 1)) ro_Maker_makeGray 61 rfl
theorem d_Maker_makeGray_101 : decode prog_6_method_2_code 101 = .ok (.iload 7, 2) := am_row (r := (101, .iload 7, 2)) ro_Maker_makeGray 62 rfl
theorem d_Maker_makeGray_103 : decode prog_6_method_2_code 103 = .ok (.isub, 1) := am_row (r := (103, .isub, 1)) ro_Maker_makeGray 63 rfl
theorem d_Maker_makeGray_104 : decode prog_6_method_2_code 104 = .ok (.ishr, 1) := am_row (r := (104, .ishr, 1)) ro_Maker_makeGray 64 rfl
theorem d_Maker_makeGray_105 : decode prog_6_method_2_code 105 = .ok (.iconst 1, 1) := am_row (r := (105, .iconst 1, 1)) ro_Maker_makeGray 65 rfl
theorem d_Maker_makeGray_106 : decode prog_6_method_2_code 106 = .ok (.iand, 1) := am_row (r := (106, .iand, 1)) ro_Maker_makeGray 66 rfl
theorem d_Maker_makeGray_107 : decode prog_6_method_2_code 107 = .ok (.ifCond .eq 7, 3) := am_row (r := (107, .ifCond .eq 7, 3)) ro_Maker_makeGray 67 rfl
theorem d_Maker_makeGray_110 : decode prog_6_method_2_code 110 = .ok (.iconst 1, 1) := am_row (r := (110, .iconst 1, 1)) ro_Maker_makeGray 68 rfl
theorem d_Maker_makeGray_111 : decode prog_6_method_2_code 111 = .ok (.goto 4, 3) := am_row (r := (111, .goto 4, 3)) ro_Maker_makeGray 69 rfl
theorem d_Maker_makeGray_114 : decode prog_6_method_2_code 114 = .ok (.iconst 0, 1) := am_row (r := (114, .iconst 0, 1)) ro_Maker_makeGray 70 rfl
theorem d_Maker_makeGray_115 : decode prog_6_method_2_code 115 = .ok (.invokevirtual 23, 3) := am_row (r := (115, .invokevirtual 23, 3)) ro_Maker_makeGray 71 rfl
theorem d_Maker_makeGray_118 : decode prog_6_method_2_code 118 = .ok (.iinc 7 1, 3) := am_row (r := (118, .iinc 7 1, 3)) ro_Maker_makeGray 72 rfl
theorem d_Maker_makeGray_121 : decode prog_6_method_2_code 121 = .ok (.goto (-36), 3) := am_row (r := (121, .goto (-36), 3)) ro_Maker_makeGray 73 rfl
theorem d_Maker_makeGray_124 : decode prog_6_method_2_code 124 = .ok (.iinc 5 1, 3) := am_row (r := (124, .iinc 5 1, 3)) ro_Maker_makeGray 74 rfl
theorem d_Maker_makeGray_127 : decode prog_6_method_2_code 127 = .ok (.goto (-66), 3) := am_row (r := (127, .goto (-66), 3)) ro_Maker_makeGray 75 rfl
theorem d_Maker_makeGray_130 : decode prog_6_method_2_code 130 = .ok (.return_, 1) := am_row (r := (130, .return_, 1)) ro_Maker_makeGray 76 rfl
abbrev y_WD_gray : MethodName := ⟨"WheelDisc", "gray", "(II)Z"⟩
theorem c_WD_gray : Cond.code y_WD_gray prog_1_method_26_code 3 (some .boolean) ∈ am_T := am_mem 734 (by decide +kernel) rfl
def rw_WD_gray : List (Nat × Instr × Nat) := [(0, .iload_n 1, 1), (1, .iconst 4, 1), (2, .if_icmp .lt 16, 3), (5, .iload_n 1, 1), (6, .sipush 512, 3), (9, .if_icmp .gt 9, 3), (12, .iload_n 1, 1), (13, .iconst 2, 1), (14, .irem, 1), (15, .ifCond .eq 9, 3), (18, .aload_n 0, 1), (19, .iconst 1, 1), (20, .invokevirtual 102, 3), (23, .ireturn, 1), (24, .iload_n 2, 1), (25, .iconst 2, 1), (26, .if_icmp .lt 16, 3), (29, .iload_n 2, 1), (30, .bipush 10, 2), (32, .if_icmp .gt 10, 3), (35, .iconst 1, 1), (36, .iload_n 2, 1), (37, .ishl, 1), (38, .iload_n 1, 1), (39, .if_icmp .ge 9, 3), (42, .aload_n 0, 1), (43, .iconst 1, 1), (44, .invokevirtual 102, 3), (47, .ireturn, 1), (48, .aload_n 0, 1), (49, .invokevirtual 116, 3), (52, .aload_n 0, 1), (53, .getfield 19, 3), (56, .iload_n 1, 1), (57, .iload_n 2, 1), (58, .invokestatic 248, 3), (61, .aload_n 0, 1), (62, .iconst 1, 1), (63, .invokevirtual 112, 3), (66, .ireturn, 1)]
theorem ro_WD_gray : rw_WD_gray.all (fun r => decide (decode prog_1_method_26_code r.1 = .ok r.2)) = true := by decide +kernel
theorem d_WD_gray_0 : decode prog_1_method_26_code 0 = .ok (.iload_n 1, 1) := am_row (r := (0, .iload_n 1, 1)) ro_WD_gray 0 rfl
theorem d_WD_gray_1 : decode prog_1_method_26_code 1 = .ok (.iconst 4, 1) := am_row (r := (1, .iconst 4, 1)) ro_WD_gray 1 rfl
theorem d_WD_gray_2 : decode prog_1_method_26_code 2 = .ok (.if_icmp .lt 16, 3) := am_row (r := (2, .if_icmp .lt 16, 3)) ro_WD_gray 2 rfl
theorem d_WD_gray_5 : decode prog_1_method_26_code 5 = .ok (.iload_n 1, 1) := am_row (r := (5, .iload_n 1, 1)) ro_WD_gray 3 rfl
theorem d_WD_gray_6 : decode prog_1_method_26_code 6 = .ok (.sipush 512, 3) := am_row (r := (6, .sipush 512, 3)) ro_WD_gray 4 rfl
theorem d_WD_gray_9 : decode prog_1_method_26_code 9 = .ok (.if_icmp .gt 9, 3) := am_row (r := (9, .if_icmp .gt 9, 3)) ro_WD_gray 5 rfl
theorem d_WD_gray_12 : decode prog_1_method_26_code 12 = .ok (.iload_n 1, 1) := am_row (r := (12, .iload_n 1, 1)) ro_WD_gray 6 rfl
theorem d_WD_gray_13 : decode prog_1_method_26_code 13 = .ok (.iconst 2, 1) := am_row (r := (13, .iconst 2, 1)) ro_WD_gray 7 rfl
theorem d_WD_gray_14 : decode prog_1_method_26_code 14 = .ok (.irem, 1) := am_row (r := (14, .irem, 1)) ro_WD_gray 8 rfl
theorem d_WD_gray_15 : decode prog_1_method_26_code 15 = .ok (.ifCond .eq 9, 3) := am_row (r := (15, .ifCond .eq 9, 3)) ro_WD_gray 9 rfl
theorem d_WD_gray_18 : decode prog_1_method_26_code 18 = .ok (.aload_n 0, 1) := am_row (r := (18, .aload_n 0, 1)) ro_WD_gray 10 rfl
theorem d_WD_gray_19 : decode prog_1_method_26_code 19 = .ok (.iconst 1, 1) := am_row (r := (19, .iconst 1, 1)) ro_WD_gray 11 rfl
theorem d_WD_gray_20 : decode prog_1_method_26_code 20 = .ok (.invokevirtual 102, 3) := am_row (r := (20, .invokevirtual 102, 3)) ro_WD_gray 12 rfl
theorem d_WD_gray_23 : decode prog_1_method_26_code 23 = .ok (.ireturn, 1) := am_row (r := (23, .ireturn, 1)) ro_WD_gray 13 rfl
theorem d_WD_gray_24 : decode prog_1_method_26_code 24 = .ok (.iload_n 2, 1) := am_row (r := (24, .iload_n 2, 1)) ro_WD_gray 14 rfl
theorem d_WD_gray_25 : decode prog_1_method_26_code 25 = .ok (.iconst 2, 1) := am_row (r := (25, .iconst 2, 1)) ro_WD_gray 15 rfl
theorem d_WD_gray_26 : decode prog_1_method_26_code 26 = .ok (.if_icmp .lt 16, 3) := am_row (r := (26, .if_icmp .lt 16, 3)) ro_WD_gray 16 rfl
theorem d_WD_gray_29 : decode prog_1_method_26_code 29 = .ok (.iload_n 2, 1) := am_row (r := (29, .iload_n 2, 1)) ro_WD_gray 17 rfl
theorem d_WD_gray_30 : decode prog_1_method_26_code 30 = .ok (.bipush 10, 2) := am_row (r := (30, .bipush 10, 2)) ro_WD_gray 18 rfl
theorem d_WD_gray_32 : decode prog_1_method_26_code 32 = .ok (.if_icmp .gt 10, 3) := am_row (r := (32, .if_icmp .gt 10, 3)) ro_WD_gray 19 rfl
theorem d_WD_gray_35 : decode prog_1_method_26_code 35 = .ok (.iconst 1, 1) := am_row (r := (35, .iconst 1, 1)) ro_WD_gray 20 rfl
theorem d_WD_gray_36 : decode prog_1_method_26_code 36 = .ok (.iload_n 2, 1) := am_row (r := (36, .iload_n 2, 1)) ro_WD_gray 21 rfl
theorem d_WD_gray_37 : decode prog_1_method_26_code 37 = .ok (.ishl, 1) := am_row (r := (37, .ishl, 1)) ro_WD_gray 22 rfl
theorem d_WD_gray_38 : decode prog_1_method_26_code 38 = .ok (.iload_n 1, 1) := am_row (r := (38, .iload_n 1, 1)) ro_WD_gray 23 rfl
theorem d_WD_gray_39 : decode prog_1_method_26_code 39 = .ok (.if_icmp .ge 9, 3) := am_row (r := (39, .if_icmp .ge 9, 3)) ro_WD_gray 24 rfl
theorem d_WD_gray_42 : decode prog_1_method_26_code 42 = .ok (.aload_n 0, 1) := am_row (r := (42, .aload_n 0, 1)) ro_WD_gray 25 rfl
theorem d_WD_gray_43 : decode prog_1_method_26_code 43 = .ok (.iconst 1, 1) := am_row (r := (43, .iconst 1, 1)) ro_WD_gray 26 rfl
theorem d_WD_gray_44 : decode prog_1_method_26_code 44 = .ok (.invokevirtual 102, 3) := am_row (r := (44, .invokevirtual 102, 3)) ro_WD_gray 27 rfl
theorem d_WD_gray_47 : decode prog_1_method_26_code 47 = .ok (.ireturn, 1) := am_row (r := (47, .ireturn, 1)) ro_WD_gray 28 rfl
theorem d_WD_gray_48 : decode prog_1_method_26_code 48 = .ok (.aload_n 0, 1) := am_row (r := (48, .aload_n 0, 1)) ro_WD_gray 29 rfl
theorem d_WD_gray_49 : decode prog_1_method_26_code 49 = .ok (.invokevirtual 116, 3) := am_row (r := (49, .invokevirtual 116, 3)) ro_WD_gray 30 rfl
theorem d_WD_gray_52 : decode prog_1_method_26_code 52 = .ok (.aload_n 0, 1) := am_row (r := (52, .aload_n 0, 1)) ro_WD_gray 31 rfl
theorem d_WD_gray_53 : decode prog_1_method_26_code 53 = .ok (.getfield 19, 3) := am_row (r := (53, .getfield 19, 3)) ro_WD_gray 32 rfl
theorem d_WD_gray_56 : decode prog_1_method_26_code 56 = .ok (.iload_n 1, 1) := am_row (r := (56, .iload_n 1, 1)) ro_WD_gray 33 rfl
theorem d_WD_gray_57 : decode prog_1_method_26_code 57 = .ok (.iload_n 2, 1) := am_row (r := (57, .iload_n 2, 1)) ro_WD_gray 34 rfl
theorem d_WD_gray_58 : decode prog_1_method_26_code 58 = .ok (.invokestatic 248, 3) := am_row (r := (58, .invokestatic 248, 3)) ro_WD_gray 35 rfl
theorem d_WD_gray_61 : decode prog_1_method_26_code 61 = .ok (.aload_n 0, 1) := am_row (r := (61, .aload_n 0, 1)) ro_WD_gray 36 rfl
theorem d_WD_gray_62 : decode prog_1_method_26_code 62 = .ok (.iconst 1, 1) := am_row (r := (62, .iconst 1, 1)) ro_WD_gray 37 rfl
theorem d_WD_gray_63 : decode prog_1_method_26_code 63 = .ok (.invokevirtual 112, 3) := am_row (r := (63, .invokevirtual 112, 3)) ro_WD_gray 38 rfl
theorem d_WD_gray_66 : decode prog_1_method_26_code 66 = .ok (.ireturn, 1) := am_row (r := (66, .ireturn, 1)) ro_WD_gray 39 rfl
abbrev y_Maker_makeChain : MethodName := ⟨"WheelDisc$Maker", "makeChain", "(LWheelDisc$Disc;IILWheelDisc$Marks;)I"⟩
theorem c_Maker_makeChain : Cond.code y_Maker_makeChain prog_6_method_3_code 8 (some .int) ∈ am_T := am_mem 748 (by decide +kernel) rfl
def rw_Maker_makeChain : List (Nat × Instr × Nat) := [(0, .iconst 1, 1), (1, .iload_n 1, 1), (2, .ishl, 1), (3, .istore 4, 2), (5, .aload_n 0, 1), (6, .iload 4, 2), (8, .invokevirtual 9, 3), (11, .aload_n 0, 1), (12, .invokevirtual 15, 3), (15, .pop, 1), (16, .iconst 0, 1), (17, .istore 5, 2), (19, .iload 5, 2), (21, .iload_n 1, 1), (22, .if_icmp .ge 17, 3), (25, .aload_n 0, 1), (26, .iconst 0, 1), (27, .iload 5, 2), (29, .invokevirtual 19, 3), (32, .pop, 1), (33, .iinc 5 1, 3), (36, .goto (-17), 3), (39, .aload_n 3, 1), (40, .invokevirtual 27, 3), (43, .iload 4, 2), (45, .iconst 1, 1), (46, .isub, 1), (47, .istore 5, 2), (49, .iconst 0, 1), (50, .istore 6, 2), (52, .iconst 0, 1), (53, .istore 7, 2), (55, .iload 7, 2), (57, .iload 4, 2), (59, .if_icmp .ge 79, 3), (62, .iload 5, 2), (64, .iconst 1, 1), (65, .ishl, 1), (66, .iload 4, 2), (68, .iconst 1, 1), (69, .isub, 1), (70, .iand, 1), (71, .istore 5, 2), (73, .aload_n 3, 1), (74, .iload 5, 2), (76, .invokevirtual 32, 3), (79, .ifCond .eq 9, 3), (82, .iload 5, 2), (84, .iconst 1, 1), (85, .ior, 1), (86, .istore 5, 2), (88, .aload_n 3, 1), (89, .iload 5, 2), (91, .invokevirtual 36, 3), (94, .aload_n 0, 1), (95, .iconst 0, 1), (96, .iload 7, 2), (98, .iload 5, 2), (100, .iconst 1, 1), (101, .iand, 1), (102, .ifCond .eq 7, 3), (105, .iconst 1, 1), (106, .goto 4, 3), (109, .iconst 0, 1), (110, .invokevirtual 23, 3), (113, .iload 5, 2), (115, .iload_n 2, 1), (116, .if_icmp .ne 16, 3), (119, .iload 7, 2), (121, .iload_n 1, 1), (122, .isub, 1), (123, .iconst 1, 1), (124, .iadd, 1), (125, .iload 4, 2), (127, .iconst 1, 1), (128, .isub, 1), (129, .iand, 1), (130, .istore 6, 2), (132, .iinc 7 1, 3), (135, .goto (-80), 3), (138, .iload 6, 2), (140, .ireturn, 1)]
theorem ro_Maker_makeChain : rw_Maker_makeChain.all (fun r => decide (decode prog_6_method_3_code r.1 = .ok r.2)) = true := by decide +kernel
theorem d_Maker_makeChain_0 : decode prog_6_method_3_code 0 = .ok (.iconst 1, 1) := am_row (r := (0, .iconst 1, 1)) ro_Maker_makeChain 0 rfl
theorem d_Maker_makeChain_1 : decode prog_6_method_3_code 1 = .ok (.iload_n 1, 1) := am_row (r := (1, .iload_n 1, 1)) ro_Maker_makeChain 1 rfl
theorem d_Maker_makeChain_2 : decode prog_6_method_3_code 2 = .ok (.ishl, 1) := am_row (r := (2, .ishl, 1)) ro_Maker_makeChain 2 rfl
theorem d_Maker_makeChain_3 : decode prog_6_method_3_code 3 = .ok (.istore 4, 2) := am_row (r := (3, .istore 4, 2)) ro_Maker_makeChain 3 rfl
theorem d_Maker_makeChain_5 : decode prog_6_method_3_code 5 = .ok (.aload_n 0, 1) := am_row (r := (5, .aload_n 0, 1)) ro_Maker_makeChain 4 rfl
theorem d_Maker_makeChain_6 : decode prog_6_method_3_code 6 = .ok (.iload 4, 2) := am_row (r := (6, .iload 4, 2)) ro_Maker_makeChain 5 rfl
theorem d_Maker_makeChain_8 : decode prog_6_method_3_code 8 = .ok (.invokevirtual 9, 3) := am_row (r := (8, .invokevirtual 9, 3)) ro_Maker_makeChain 6 rfl
theorem d_Maker_makeChain_11 : decode prog_6_method_3_code 11 = .ok (.aload_n 0, 1) := am_row (r := (11, .aload_n 0, 1)) ro_Maker_makeChain 7 rfl
theorem d_Maker_makeChain_12 : decode prog_6_method_3_code 12 = .ok (.invokevirtual 15, 3) := am_row (r := (12, .invokevirtual 15, 3)) ro_Maker_makeChain 8 rfl
theorem d_Maker_makeChain_15 : decode prog_6_method_3_code 15 = .ok (.pop, 1) := am_row (r := (15, .pop, 1)) ro_Maker_makeChain 9 rfl
theorem d_Maker_makeChain_16 : decode prog_6_method_3_code 16 = .ok (.iconst 0, 1) := am_row (r := (16, .iconst 0, 1)) ro_Maker_makeChain 10 rfl
theorem d_Maker_makeChain_17 : decode prog_6_method_3_code 17 = .ok (.istore 5, 2) := am_row (r := (17, .istore 5, 2)) ro_Maker_makeChain 11 rfl
theorem d_Maker_makeChain_19 : decode prog_6_method_3_code 19 = .ok (.iload 5, 2) := am_row (r := (19, .iload 5, 2)) ro_Maker_makeChain 12 rfl
theorem d_Maker_makeChain_21 : decode prog_6_method_3_code 21 = .ok (.iload_n 1, 1) := am_row (r := (21, .iload_n 1, 1)) ro_Maker_makeChain 13 rfl
theorem d_Maker_makeChain_22 : decode prog_6_method_3_code 22 = .ok (.if_icmp .ge 17, 3) := am_row (r := (22, .if_icmp .ge 17, 3)) ro_Maker_makeChain 14 rfl
theorem d_Maker_makeChain_25 : decode prog_6_method_3_code 25 = .ok (.aload_n 0, 1) := am_row (r := (25, .aload_n 0, 1)) ro_Maker_makeChain 15 rfl
theorem d_Maker_makeChain_26 : decode prog_6_method_3_code 26 = .ok (.iconst 0, 1) := am_row (r := (26, .iconst 0, 1)) ro_Maker_makeChain 16 rfl
theorem d_Maker_makeChain_27 : decode prog_6_method_3_code 27 = .ok (.iload 5, 2) := am_row (r := (27, .iload 5, 2)) ro_Maker_makeChain 17 rfl
theorem d_Maker_makeChain_29 : decode prog_6_method_3_code 29 = .ok (.invokevirtual 19, 3) := am_row (r := (29, .invokevirtual 19, 3)) ro_Maker_makeChain 18 rfl
theorem d_Maker_makeChain_32 : decode prog_6_method_3_code 32 = .ok (.pop, 1) := am_row (r := (32, .pop, 1)) ro_Maker_makeChain 19 rfl
theorem d_Maker_makeChain_33 : decode prog_6_method_3_code 33 = .ok (.iinc 5 1, 3) := am_row (r := (33, .iinc 5 1, 3)) ro_Maker_makeChain 20 rfl
theorem d_Maker_makeChain_36 : decode prog_6_method_3_code 36 = .ok (.goto (-17), 3) := am_row (r := (36, .goto (-17), 3)) ro_Maker_makeChain 21 rfl
theorem d_Maker_makeChain_39 : decode prog_6_method_3_code 39 = .ok (.aload_n 3, 1) := am_row (r := (39, .aload_n 3, 1)) ro_Maker_makeChain 22 rfl
theorem d_Maker_makeChain_40 : decode prog_6_method_3_code 40 = .ok (.invokevirtual 27, 3) := am_row (r := (40, .invokevirtual 27, 3)) ro_Maker_makeChain 23 rfl
theorem d_Maker_makeChain_43 : decode prog_6_method_3_code 43 = .ok (.iload 4, 2) := am_row (r := (43, .iload 4, 2)) ro_Maker_makeChain 24 rfl
theorem d_Maker_makeChain_45 : decode prog_6_method_3_code 45 = .ok (.iconst 1, 1) := am_row (r := (45, .iconst 1, 1)) ro_Maker_makeChain 25 rfl
theorem d_Maker_makeChain_46 : decode prog_6_method_3_code 46 = .ok (.isub, 1) := am_row (r := (46, .isub, 1)) ro_Maker_makeChain 26 rfl
theorem d_Maker_makeChain_47 : decode prog_6_method_3_code 47 = .ok (.istore 5, 2) := am_row (r := (47, .istore 5, 2)) ro_Maker_makeChain 27 rfl
theorem d_Maker_makeChain_49 : decode prog_6_method_3_code 49 = .ok (.iconst 0, 1) := am_row (r := (49, .iconst 0, 1)) ro_Maker_makeChain 28 rfl
theorem d_Maker_makeChain_50 : decode prog_6_method_3_code 50 = .ok (.istore 6, 2) := am_row (r := (50, .istore 6, 2)) ro_Maker_makeChain 29 rfl
theorem d_Maker_makeChain_52 : decode prog_6_method_3_code 52 = .ok (.iconst 0, 1) := am_row (r := (52, .iconst 0, 1)) ro_Maker_makeChain 30 rfl
theorem d_Maker_makeChain_53 : decode prog_6_method_3_code 53 = .ok (.istore 7, 2) := am_row (r := (53, .istore 7, 2)) ro_Maker_makeChain 31 rfl
theorem d_Maker_makeChain_55 : decode prog_6_method_3_code 55 = .ok (.iload 7, 2) := am_row (r := (55, .iload 7, 2)) ro_Maker_makeChain 32 rfl
theorem d_Maker_makeChain_57 : decode prog_6_method_3_code 57 = .ok (.iload 4, 2) := am_row (r := (57, .iload 4, 2)) ro_Maker_makeChain 33 rfl
theorem d_Maker_makeChain_59 : decode prog_6_method_3_code 59 = .ok (.if_icmp .ge 79, 3) := am_row (r := (59, .if_icmp .ge 79, 3)) ro_Maker_makeChain 34 rfl
theorem d_Maker_makeChain_62 : decode prog_6_method_3_code 62 = .ok (.iload 5, 2) := am_row (r := (62, .iload 5, 2)) ro_Maker_makeChain 35 rfl
theorem d_Maker_makeChain_64 : decode prog_6_method_3_code 64 = .ok (.iconst 1, 1) := am_row (r := (64, .iconst 1, 1)) ro_Maker_makeChain 36 rfl
theorem d_Maker_makeChain_65 : decode prog_6_method_3_code 65 = .ok (.ishl, 1) := am_row (r := (65, .ishl, 1)) ro_Maker_makeChain 37 rfl
theorem d_Maker_makeChain_66 : decode prog_6_method_3_code 66 = .ok (.iload 4, 2) := am_row (r := (66, .iload 4, 2)) ro_Maker_makeChain 38 rfl
theorem d_Maker_makeChain_68 : decode prog_6_method_3_code 68 = .ok (.iconst 1, 1) := am_row (r := (68, .iconst 1, 1)) ro_Maker_makeChain 39 rfl
theorem d_Maker_makeChain_69 : decode prog_6_method_3_code 69 = .ok (.isub, 1) := am_row (r := (69, .isub, 1)) ro_Maker_makeChain 40 rfl
theorem d_Maker_makeChain_70 : decode prog_6_method_3_code 70 = .ok (.iand, 1) := am_row (r := (70, .iand, 1)) ro_Maker_makeChain 41 rfl
theorem d_Maker_makeChain_71 : decode prog_6_method_3_code 71 = .ok (.istore 5, 2) := am_row (r := (71, .istore 5, 2)) ro_Maker_makeChain 42 rfl
theorem d_Maker_makeChain_73 : decode prog_6_method_3_code 73 = .ok (.aload_n 3, 1) := am_row (r := (73, .aload_n 3, 1)) ro_Maker_makeChain 43 rfl
theorem d_Maker_makeChain_74 : decode prog_6_method_3_code 74 = .ok (.iload 5, 2) := am_row (r := (74, .iload 5, 2)) ro_Maker_makeChain 44 rfl
theorem d_Maker_makeChain_76 : decode prog_6_method_3_code 76 = .ok (.invokevirtual 32, 3) := am_row (r := (76, .invokevirtual 32, 3)) ro_Maker_makeChain 45 rfl
theorem d_Maker_makeChain_79 : decode prog_6_method_3_code 79 = .ok (.ifCond .eq 9, 3) := am_row (r := (79, .ifCond .eq 9, 3)) ro_Maker_makeChain 46 rfl
theorem d_Maker_makeChain_82 : decode prog_6_method_3_code 82 = .ok (.iload 5, 2) := am_row (r := (82, .iload 5, 2)) ro_Maker_makeChain 47 rfl
theorem d_Maker_makeChain_84 : decode prog_6_method_3_code 84 = .ok (.iconst 1, 1) := am_row (r := (84, .iconst 1, 1)) ro_Maker_makeChain 48 rfl
theorem d_Maker_makeChain_85 : decode prog_6_method_3_code 85 = .ok (.ior, 1) := am_row (r := (85, .ior, 1)) ro_Maker_makeChain 49 rfl
theorem d_Maker_makeChain_86 : decode prog_6_method_3_code 86 = .ok (.istore 5, 2) := am_row (r := (86, .istore 5, 2)) ro_Maker_makeChain 50 rfl
theorem d_Maker_makeChain_88 : decode prog_6_method_3_code 88 = .ok (.aload_n 3, 1) := am_row (r := (88, .aload_n 3, 1)) ro_Maker_makeChain 51 rfl
theorem d_Maker_makeChain_89 : decode prog_6_method_3_code 89 = .ok (.iload 5, 2) := am_row (r := (89, .iload 5, 2)) ro_Maker_makeChain 52 rfl
theorem d_Maker_makeChain_91 : decode prog_6_method_3_code 91 = .ok (.invokevirtual 36, 3) := am_row (r := (91, .invokevirtual 36, 3)) ro_Maker_makeChain 53 rfl
theorem d_Maker_makeChain_94 : decode prog_6_method_3_code 94 = .ok (.aload_n 0, 1) := am_row (r := (94, .aload_n 0, 1)) ro_Maker_makeChain 54 rfl
theorem d_Maker_makeChain_95 : decode prog_6_method_3_code 95 = .ok (.iconst 0, 1) := am_row (r := (95, .iconst 0, 1)) ro_Maker_makeChain 55 rfl
theorem d_Maker_makeChain_96 : decode prog_6_method_3_code 96 = .ok (.iload 7, 2) := am_row (r := (96, .iload 7, 2)) ro_Maker_makeChain 56 rfl
theorem d_Maker_makeChain_98 : decode prog_6_method_3_code 98 = .ok (.iload 5, 2) := am_row (r := (98, .iload 5, 2)) ro_Maker_makeChain 57 rfl
theorem d_Maker_makeChain_100 : decode prog_6_method_3_code 100 = .ok (.iconst 1, 1) := am_row (r := (100, .iconst 1, 1)) ro_Maker_makeChain 58 rfl
theorem d_Maker_makeChain_101 : decode prog_6_method_3_code 101 = .ok (.iand, 1) := am_row (r := (101, .iand, 1)) ro_Maker_makeChain 59 rfl
theorem d_Maker_makeChain_102 : decode prog_6_method_3_code 102 = .ok (.ifCond .eq 7, 3) := am_row (r := (102, .ifCond .eq 7, 3)) ro_Maker_makeChain 60 rfl
theorem d_Maker_makeChain_105 : decode prog_6_method_3_code 105 = .ok (.iconst 1, 1) := am_row (r := (105, .iconst 1, 1)) ro_Maker_makeChain 61 rfl
theorem d_Maker_makeChain_106 : decode prog_6_method_3_code 106 = .ok (.goto 4, 3) := am_row (r := (106, .goto 4, 3)) ro_Maker_makeChain 62 rfl
theorem d_Maker_makeChain_109 : decode prog_6_method_3_code 109 = .ok (.iconst 0, 1) := am_row (r := (109, .iconst 0, 1)) ro_Maker_makeChain 63 rfl
theorem d_Maker_makeChain_110 : decode prog_6_method_3_code 110 = .ok (.invokevirtual 23, 3) := am_row (r := (110, .invokevirtual 23, 3)) ro_Maker_makeChain 64 rfl
theorem d_Maker_makeChain_113 : decode prog_6_method_3_code 113 = .ok (.iload 5, 2) := am_row (r := (113, .iload 5, 2)) ro_Maker_makeChain 65 rfl
theorem d_Maker_makeChain_115 : decode prog_6_method_3_code 115 = .ok (.iload_n 2, 1) := am_row (r := (115, .iload_n 2, 1)) ro_Maker_makeChain 66 rfl
theorem d_Maker_makeChain_116 : decode prog_6_method_3_code 116 = .ok (.if_icmp .ne 16, 3) := am_row (r := (116, .if_icmp .ne 16, 3)) ro_Maker_makeChain 67 rfl
theorem d_Maker_makeChain_119 : decode prog_6_method_3_code 119 = .ok (.iload 7, 2) := am_row (r := (119, .iload 7, 2)) ro_Maker_makeChain 68 rfl
theorem d_Maker_makeChain_121 : decode prog_6_method_3_code 121 = .ok (.iload_n 1, 1) := am_row (r := (121, .iload_n 1, 1)) ro_Maker_makeChain 69 rfl
theorem d_Maker_makeChain_122 : decode prog_6_method_3_code 122 = .ok (.isub, 1) := am_row (r := (122, .isub, 1)) ro_Maker_makeChain 70 rfl
theorem d_Maker_makeChain_123 : decode prog_6_method_3_code 123 = .ok (.iconst 1, 1) := am_row (r := (123, .iconst 1, 1)) ro_Maker_makeChain 71 rfl
theorem d_Maker_makeChain_124 : decode prog_6_method_3_code 124 = .ok (.iadd, 1) := am_row (r := (124, .iadd, 1)) ro_Maker_makeChain 72 rfl
theorem d_Maker_makeChain_125 : decode prog_6_method_3_code 125 = .ok (.iload 4, 2) := am_row (r := (125, .iload 4, 2)) ro_Maker_makeChain 73 rfl
theorem d_Maker_makeChain_127 : decode prog_6_method_3_code 127 = .ok (.iconst 1, 1) := am_row (r := (127, .iconst 1, 1)) ro_Maker_makeChain 74 rfl
theorem d_Maker_makeChain_128 : decode prog_6_method_3_code 128 = .ok (.isub, 1) := am_row (r := (128, .isub, 1)) ro_Maker_makeChain 75 rfl
theorem d_Maker_makeChain_129 : decode prog_6_method_3_code 129 = .ok (.iand, 1) := am_row (r := (129, .iand, 1)) ro_Maker_makeChain 76 rfl
theorem d_Maker_makeChain_130 : decode prog_6_method_3_code 130 = .ok (.istore 6, 2) := am_row (r := (130, .istore 6, 2)) ro_Maker_makeChain 77 rfl
theorem d_Maker_makeChain_132 : decode prog_6_method_3_code 132 = .ok (.iinc 7 1, 3) := am_row (r := (132, .iinc 7 1, 3)) ro_Maker_makeChain 78 rfl
theorem d_Maker_makeChain_135 : decode prog_6_method_3_code 135 = .ok (.goto (-80), 3) := am_row (r := (135, .goto (-80), 3)) ro_Maker_makeChain 79 rfl
theorem d_Maker_makeChain_138 : decode prog_6_method_3_code 138 = .ok (.iload 6, 2) := am_row (r := (138, .iload 6, 2)) ro_Maker_makeChain 80 rfl
theorem d_Maker_makeChain_140 : decode prog_6_method_3_code 140 = .ok (.ireturn, 1) := am_row (r := (140, .ireturn, 1)) ro_Maker_makeChain 81 rfl
abbrev y_WD_chain : MethodName := ⟨"WheelDisc", "chain", "(II)Z"⟩
theorem c_WD_chain : Cond.code y_WD_chain prog_1_method_27_code 4 (some .boolean) ∈ am_T := am_mem 745 (by decide +kernel) rfl
def rw_WD_chain : List (Nat × Instr × Nat) := [(0, .iload_n 1, 1), (1, .iconst 1, 1), (2, .if_icmp .lt 20, 3), (5, .iload_n 1, 1), (6, .bipush 9, 2), (8, .if_icmp .gt 14, 3), (11, .iload_n 2, 1), (12, .ifCond .lt 10, 3), (15, .iload_n 2, 1), (16, .iconst 1, 1), (17, .iload_n 1, 1), (18, .ishl, 1), (19, .if_icmp .lt 9, 3), (22, .aload_n 0, 1), (23, .iconst 1, 1), (24, .invokevirtual 102, 3), (27, .ireturn, 1), (28, .aload_n 0, 1), (29, .invokevirtual 116, 3), (32, .aload_n 0, 1), (33, .getfield 19, 3), (36, .iload_n 1, 1), (37, .iload_n 2, 1), (38, .aload_n 0, 1), (39, .getfield 71, 3), (42, .invokestatic 254, 3), (45, .istore_n 3, 1), (46, .aload_n 0, 1), (47, .getfield 19, 3), (50, .iload_n 3, 1), (51, .aload_n 0, 1), (52, .getfield 75, 3), (55, .invokevirtual 168, 3), (58, .aload_n 0, 1), (59, .iconst 1, 1), (60, .invokevirtual 112, 3), (63, .ireturn, 1)]
theorem ro_WD_chain : rw_WD_chain.all (fun r => decide (decode prog_1_method_27_code r.1 = .ok r.2)) = true := by decide +kernel
theorem d_WD_chain_0 : decode prog_1_method_27_code 0 = .ok (.iload_n 1, 1) := am_row (r := (0, .iload_n 1, 1)) ro_WD_chain 0 rfl
theorem d_WD_chain_1 : decode prog_1_method_27_code 1 = .ok (.iconst 1, 1) := am_row (r := (1, .iconst 1, 1)) ro_WD_chain 1 rfl
theorem d_WD_chain_2 : decode prog_1_method_27_code 2 = .ok (.if_icmp .lt 20, 3) := am_row (r := (2, .if_icmp .lt 20, 3)) ro_WD_chain 2 rfl
theorem d_WD_chain_5 : decode prog_1_method_27_code 5 = .ok (.iload_n 1, 1) := am_row (r := (5, .iload_n 1, 1)) ro_WD_chain 3 rfl
theorem d_WD_chain_6 : decode prog_1_method_27_code 6 = .ok (.bipush 9, 2) := am_row (r := (6, .bipush 9, 2)) ro_WD_chain 4 rfl
theorem d_WD_chain_8 : decode prog_1_method_27_code 8 = .ok (.if_icmp .gt 14, 3) := am_row (r := (8, .if_icmp .gt 14, 3)) ro_WD_chain 5 rfl
theorem d_WD_chain_11 : decode prog_1_method_27_code 11 = .ok (.iload_n 2, 1) := am_row (r := (11, .iload_n 2, 1)) ro_WD_chain 6 rfl
theorem d_WD_chain_12 : decode prog_1_method_27_code 12 = .ok (.ifCond .lt 10, 3) := am_row (r := (12, .ifCond .lt 10, 3)) ro_WD_chain 7 rfl
theorem d_WD_chain_15 : decode prog_1_method_27_code 15 = .ok (.iload_n 2, 1) := am_row (r := (15, .iload_n 2, 1)) ro_WD_chain 8 rfl
theorem d_WD_chain_16 : decode prog_1_method_27_code 16 = .ok (.iconst 1, 1) := am_row (r := (16, .iconst 1, 1)) ro_WD_chain 9 rfl
theorem d_WD_chain_17 : decode prog_1_method_27_code 17 = .ok (.iload_n 1, 1) := am_row (r := (17, .iload_n 1, 1)) ro_WD_chain 10 rfl
theorem d_WD_chain_18 : decode prog_1_method_27_code 18 = .ok (.ishl, 1) := am_row (r := (18, .ishl, 1)) ro_WD_chain 11 rfl
theorem d_WD_chain_19 : decode prog_1_method_27_code 19 = .ok (.if_icmp .lt 9, 3) := am_row (r := (19, .if_icmp .lt 9, 3)) ro_WD_chain 12 rfl
theorem d_WD_chain_22 : decode prog_1_method_27_code 22 = .ok (.aload_n 0, 1) := am_row (r := (22, .aload_n 0, 1)) ro_WD_chain 13 rfl
theorem d_WD_chain_23 : decode prog_1_method_27_code 23 = .ok (.iconst 1, 1) := am_row (r := (23, .iconst 1, 1)) ro_WD_chain 14 rfl
theorem d_WD_chain_24 : decode prog_1_method_27_code 24 = .ok (.invokevirtual 102, 3) := am_row (r := (24, .invokevirtual 102, 3)) ro_WD_chain 15 rfl
theorem d_WD_chain_27 : decode prog_1_method_27_code 27 = .ok (.ireturn, 1) := am_row (r := (27, .ireturn, 1)) ro_WD_chain 16 rfl
theorem d_WD_chain_28 : decode prog_1_method_27_code 28 = .ok (.aload_n 0, 1) := am_row (r := (28, .aload_n 0, 1)) ro_WD_chain 17 rfl
theorem d_WD_chain_29 : decode prog_1_method_27_code 29 = .ok (.invokevirtual 116, 3) := am_row (r := (29, .invokevirtual 116, 3)) ro_WD_chain 18 rfl
theorem d_WD_chain_32 : decode prog_1_method_27_code 32 = .ok (.aload_n 0, 1) := am_row (r := (32, .aload_n 0, 1)) ro_WD_chain 19 rfl
theorem d_WD_chain_33 : decode prog_1_method_27_code 33 = .ok (.getfield 19, 3) := am_row (r := (33, .getfield 19, 3)) ro_WD_chain 20 rfl
theorem d_WD_chain_36 : decode prog_1_method_27_code 36 = .ok (.iload_n 1, 1) := am_row (r := (36, .iload_n 1, 1)) ro_WD_chain 21 rfl
theorem d_WD_chain_37 : decode prog_1_method_27_code 37 = .ok (.iload_n 2, 1) := am_row (r := (37, .iload_n 2, 1)) ro_WD_chain 22 rfl
theorem d_WD_chain_38 : decode prog_1_method_27_code 38 = .ok (.aload_n 0, 1) := am_row (r := (38, .aload_n 0, 1)) ro_WD_chain 23 rfl
theorem d_WD_chain_39 : decode prog_1_method_27_code 39 = .ok (.getfield 71, 3) := am_row (r := (39, .getfield 71, 3)) ro_WD_chain 24 rfl
theorem d_WD_chain_42 : decode prog_1_method_27_code 42 = .ok (.invokestatic 254, 3) := am_row (r := (42, .invokestatic 254, 3)) ro_WD_chain 25 rfl
theorem d_WD_chain_45 : decode prog_1_method_27_code 45 = .ok (.istore_n 3, 1) := am_row (r := (45, .istore_n 3, 1)) ro_WD_chain 26 rfl
theorem d_WD_chain_46 : decode prog_1_method_27_code 46 = .ok (.aload_n 0, 1) := am_row (r := (46, .aload_n 0, 1)) ro_WD_chain 27 rfl
theorem d_WD_chain_47 : decode prog_1_method_27_code 47 = .ok (.getfield 19, 3) := am_row (r := (47, .getfield 19, 3)) ro_WD_chain 28 rfl
theorem d_WD_chain_50 : decode prog_1_method_27_code 50 = .ok (.iload_n 3, 1) := am_row (r := (50, .iload_n 3, 1)) ro_WD_chain 29 rfl
theorem d_WD_chain_51 : decode prog_1_method_27_code 51 = .ok (.aload_n 0, 1) := am_row (r := (51, .aload_n 0, 1)) ro_WD_chain 30 rfl
theorem d_WD_chain_52 : decode prog_1_method_27_code 52 = .ok (.getfield 75, 3) := am_row (r := (52, .getfield 75, 3)) ro_WD_chain 31 rfl
theorem d_WD_chain_55 : decode prog_1_method_27_code 55 = .ok (.invokevirtual 168, 3) := am_row (r := (55, .invokevirtual 168, 3)) ro_WD_chain 32 rfl
theorem d_WD_chain_58 : decode prog_1_method_27_code 58 = .ok (.aload_n 0, 1) := am_row (r := (58, .aload_n 0, 1)) ro_WD_chain 33 rfl
theorem d_WD_chain_59 : decode prog_1_method_27_code 59 = .ok (.iconst 1, 1) := am_row (r := (59, .iconst 1, 1)) ro_WD_chain 34 rfl
theorem d_WD_chain_60 : decode prog_1_method_27_code 60 = .ok (.invokevirtual 112, 3) := am_row (r := (60, .invokevirtual 112, 3)) ro_WD_chain 35 rfl
theorem d_WD_chain_63 : decode prog_1_method_27_code 63 = .ok (.ireturn, 1) := am_row (r := (63, .ireturn, 1)) ro_WD_chain 36 rfl
abbrev y_Search_fits : MethodName := ⟨"WheelDisc$Search", "fits", "(II)Z"⟩
theorem c_Search_fits : Cond.code y_Search_fits prog_9_method_2_code 2 (some .boolean) ∈ am_T := am_mem 758 (by decide +kernel) rfl
def rw_Search_fits : List (Nat × Instr × Nat) := [(0, .iload_n 0, 1), (1, .iconst 2, 1), (2, .if_icmp .lt 29, 3), (5, .iload_n 0, 1), (6, .bipush 20, 2), (8, .if_icmp .gt 23, 3), (11, .iload_n 1, 1), (12, .iconst 2, 1), (13, .if_icmp .lt 18, 3), (16, .iload_n 1, 1), (17, .iconst 5, 1), (18, .if_icmp .gt 13, 3), (21, .iload_n 0, 1), (22, .iload_n 1, 1), (23, .irem, 1), (24, .ifCond .ne 7, 3), (27, .iconst 1, 1), (28, .goto 4, 3), (31, .iconst 0, 1), (32, .ireturn, 1)]
theorem ro_Search_fits : rw_Search_fits.all (fun r => decide (decode prog_9_method_2_code r.1 = .ok r.2)) = true := by decide +kernel
theorem d_Search_fits_0 : decode prog_9_method_2_code 0 = .ok (.iload_n 0, 1) := am_row (r := (0, .iload_n 0, 1)) ro_Search_fits 0 rfl
theorem d_Search_fits_1 : decode prog_9_method_2_code 1 = .ok (.iconst 2, 1) := am_row (r := (1, .iconst 2, 1)) ro_Search_fits 1 rfl
theorem d_Search_fits_2 : decode prog_9_method_2_code 2 = .ok (.if_icmp .lt 29, 3) := am_row (r := (2, .if_icmp .lt 29, 3)) ro_Search_fits 2 rfl
theorem d_Search_fits_5 : decode prog_9_method_2_code 5 = .ok (.iload_n 0, 1) := am_row (r := (5, .iload_n 0, 1)) ro_Search_fits 3 rfl
theorem d_Search_fits_6 : decode prog_9_method_2_code 6 = .ok (.bipush 20, 2) := am_row (r := (6, .bipush 20, 2)) ro_Search_fits 4 rfl
theorem d_Search_fits_8 : decode prog_9_method_2_code 8 = .ok (.if_icmp .gt 23, 3) := am_row (r := (8, .if_icmp .gt 23, 3)) ro_Search_fits 5 rfl
theorem d_Search_fits_11 : decode prog_9_method_2_code 11 = .ok (.iload_n 1, 1) := am_row (r := (11, .iload_n 1, 1)) ro_Search_fits 6 rfl
theorem d_Search_fits_12 : decode prog_9_method_2_code 12 = .ok (.iconst 2, 1) := am_row (r := (12, .iconst 2, 1)) ro_Search_fits 7 rfl
theorem d_Search_fits_13 : decode prog_9_method_2_code 13 = .ok (.if_icmp .lt 18, 3) := am_row (r := (13, .if_icmp .lt 18, 3)) ro_Search_fits 8 rfl
theorem d_Search_fits_16 : decode prog_9_method_2_code 16 = .ok (.iload_n 1, 1) := am_row (r := (16, .iload_n 1, 1)) ro_Search_fits 9 rfl
theorem d_Search_fits_17 : decode prog_9_method_2_code 17 = .ok (.iconst 5, 1) := am_row (r := (17, .iconst 5, 1)) ro_Search_fits 10 rfl
theorem d_Search_fits_18 : decode prog_9_method_2_code 18 = .ok (.if_icmp .gt 13, 3) := am_row (r := (18, .if_icmp .gt 13, 3)) ro_Search_fits 11 rfl
theorem d_Search_fits_21 : decode prog_9_method_2_code 21 = .ok (.iload_n 0, 1) := am_row (r := (21, .iload_n 0, 1)) ro_Search_fits 12 rfl
theorem d_Search_fits_22 : decode prog_9_method_2_code 22 = .ok (.iload_n 1, 1) := am_row (r := (22, .iload_n 1, 1)) ro_Search_fits 13 rfl
theorem d_Search_fits_23 : decode prog_9_method_2_code 23 = .ok (.irem, 1) := am_row (r := (23, .irem, 1)) ro_Search_fits 14 rfl
theorem d_Search_fits_24 : decode prog_9_method_2_code 24 = .ok (.ifCond .ne 7, 3) := am_row (r := (24, .ifCond .ne 7, 3)) ro_Search_fits 15 rfl
theorem d_Search_fits_27 : decode prog_9_method_2_code 27 = .ok (.iconst 1, 1) := am_row (r := (27, .iconst 1, 1)) ro_Search_fits 16 rfl
theorem d_Search_fits_28 : decode prog_9_method_2_code 28 = .ok (.goto 4, 3) := am_row (r := (28, .goto 4, 3)) ro_Search_fits 17 rfl
theorem d_Search_fits_31 : decode prog_9_method_2_code 31 = .ok (.iconst 0, 1) := am_row (r := (31, .iconst 0, 1)) ro_Search_fits 18 rfl
theorem d_Search_fits_32 : decode prog_9_method_2_code 32 = .ok (.ireturn, 1) := am_row (r := (32, .ireturn, 1)) ro_Search_fits 19 rfl
abbrev y_Search_isStepCount : MethodName := ⟨"WheelDisc$Search", "isStepCount", "(I)Z"⟩
theorem c_Search_isStepCount : Cond.code y_Search_isStepCount prog_9_method_3_code 1 (some .boolean) ∈ am_T := am_mem 761 (by decide +kernel) rfl
def rw_Search_isStepCount : List (Nat × Instr × Nat) := [(0, .iload_n 0, 1), (1, .ifCond .lt 13, 3), (4, .iload_n 0, 1), (5, .ldc 40, 2), (7, .if_icmp .gt 7, 3), (10, .iconst 1, 1), (11, .goto 4, 3), (14, .iconst 0, 1), (15, .ireturn, 1)]
theorem ro_Search_isStepCount : rw_Search_isStepCount.all (fun r => decide (decode prog_9_method_3_code r.1 = .ok r.2)) = true := by decide +kernel
theorem d_Search_isStepCount_0 : decode prog_9_method_3_code 0 = .ok (.iload_n 0, 1) := am_row (r := (0, .iload_n 0, 1)) ro_Search_isStepCount 0 rfl
theorem d_Search_isStepCount_1 : decode prog_9_method_3_code 1 = .ok (.ifCond .lt 13, 3) := am_row (r := (1, .ifCond .lt 13, 3)) ro_Search_isStepCount 1 rfl
theorem d_Search_isStepCount_4 : decode prog_9_method_3_code 4 = .ok (.iload_n 0, 1) := am_row (r := (4, .iload_n 0, 1)) ro_Search_isStepCount 2 rfl
theorem d_Search_isStepCount_5 : decode prog_9_method_3_code 5 = .ok (.ldc 40, 2) := am_row (r := (5, .ldc 40, 2)) ro_Search_isStepCount 3 rfl
theorem d_Search_isStepCount_7 : decode prog_9_method_3_code 7 = .ok (.if_icmp .gt 7, 3) := am_row (r := (7, .if_icmp .gt 7, 3)) ro_Search_isStepCount 4 rfl
theorem d_Search_isStepCount_10 : decode prog_9_method_3_code 10 = .ok (.iconst 1, 1) := am_row (r := (10, .iconst 1, 1)) ro_Search_isStepCount 5 rfl
theorem d_Search_isStepCount_11 : decode prog_9_method_3_code 11 = .ok (.goto 4, 3) := am_row (r := (11, .goto 4, 3)) ro_Search_isStepCount 6 rfl
theorem d_Search_isStepCount_14 : decode prog_9_method_3_code 14 = .ok (.iconst 0, 1) := am_row (r := (14, .iconst 0, 1)) ro_Search_isStepCount 7 rfl
theorem d_Search_isStepCount_15 : decode prog_9_method_3_code 15 = .ok (.ireturn, 1) := am_row (r := (15, .ireturn, 1)) ro_Search_isStepCount 8 rfl
abbrev y_Search_affords : MethodName := ⟨"WheelDisc$Search", "affords", "(I)Z"⟩
theorem c_Search_affords : Cond.code y_Search_affords prog_9_method_4_code 2 (some .boolean) ∈ am_T := am_mem 766 (by decide +kernel) rfl
def rw_Search_affords : List (Nat × Instr × Nat) := [(0, .iload_n 1, 1), (1, .ldc 41, 2), (3, .aload_n 0, 1), (4, .getfield 33, 3), (7, .isub, 1), (8, .if_icmp .gt 7, 3), (11, .iconst 1, 1), (12, .goto 4, 3), (15, .iconst 0, 1), (16, .ireturn, 1)]
theorem ro_Search_affords : rw_Search_affords.all (fun r => decide (decode prog_9_method_4_code r.1 = .ok r.2)) = true := by decide +kernel
theorem d_Search_affords_0 : decode prog_9_method_4_code 0 = .ok (.iload_n 1, 1) := am_row (r := (0, .iload_n 1, 1)) ro_Search_affords 0 rfl
theorem d_Search_affords_1 : decode prog_9_method_4_code 1 = .ok (.ldc 41, 2) := am_row (r := (1, .ldc 41, 2)) ro_Search_affords 1 rfl
theorem d_Search_affords_3 : decode prog_9_method_4_code 3 = .ok (.aload_n 0, 1) := am_row (r := (3, .aload_n 0, 1)) ro_Search_affords 2 rfl
theorem d_Search_affords_4 : decode prog_9_method_4_code 4 = .ok (.getfield 33, 3) := am_row (r := (4, .getfield 33, 3)) ro_Search_affords 3 rfl
theorem d_Search_affords_7 : decode prog_9_method_4_code 7 = .ok (.isub, 1) := am_row (r := (7, .isub, 1)) ro_Search_affords 4 rfl
theorem d_Search_affords_8 : decode prog_9_method_4_code 8 = .ok (.if_icmp .gt 7, 3) := am_row (r := (8, .if_icmp .gt 7, 3)) ro_Search_affords 5 rfl
theorem d_Search_affords_11 : decode prog_9_method_4_code 11 = .ok (.iconst 1, 1) := am_row (r := (11, .iconst 1, 1)) ro_Search_affords 6 rfl
theorem d_Search_affords_12 : decode prog_9_method_4_code 12 = .ok (.goto 4, 3) := am_row (r := (12, .goto 4, 3)) ro_Search_affords 7 rfl
theorem d_Search_affords_15 : decode prog_9_method_4_code 15 = .ok (.iconst 0, 1) := am_row (r := (15, .iconst 0, 1)) ro_Search_affords 8 rfl
theorem d_Search_affords_16 : decode prog_9_method_4_code 16 = .ok (.ireturn, 1) := am_row (r := (16, .ireturn, 1)) ro_Search_affords 9 rfl
abbrev y_Search_begin : MethodName := ⟨"WheelDisc$Search", "begin", "(II)V"⟩
theorem c_Search_begin : Cond.code y_Search_begin prog_9_method_5_code 3 none ∈ am_T := am_mem 771 (by decide +kernel) rfl
def rw_Search_begin : List (Nat × Instr × Nat) := [(0, .iload_n 1, 1), (1, .iload_n 2, 1), (2, .invokestatic 42, 3), (5, .ifCond .ne 4, 3), (8, .return_, 1), (9, .aload_n 0, 1), (10, .iload_n 1, 1), (11, .putfield 9, 3), (14, .aload_n 0, 1), (15, .iload_n 2, 1), (16, .putfield 15, 3), (19, .aload_n 0, 1), (20, .iload_n 1, 1), (21, .iload_n 2, 1), (22, .idiv, 1), (23, .putfield 18, 3), (26, .aload_n 0, 1), (27, .iconst 1, 1), (28, .iload_n 1, 1), (29, .ishl, 1), (30, .putfield 21, 3), (33, .aload_n 0, 1), (34, .iconst 0, 1), (35, .putfield 24, 3), (38, .aload_n 0, 1), (39, .iconst 0, 1), (40, .putfield 27, 3), (43, .aload_n 0, 1), (44, .iconst 1, 1), (45, .putfield 36, 3), (48, .return_, 1)]
theorem ro_Search_begin : rw_Search_begin.all (fun r => decide (decode prog_9_method_5_code r.1 = .ok r.2)) = true := by decide +kernel
theorem d_Search_begin_0 : decode prog_9_method_5_code 0 = .ok (.iload_n 1, 1) := am_row (r := (0, .iload_n 1, 1)) ro_Search_begin 0 rfl
theorem d_Search_begin_1 : decode prog_9_method_5_code 1 = .ok (.iload_n 2, 1) := am_row (r := (1, .iload_n 2, 1)) ro_Search_begin 1 rfl
theorem d_Search_begin_2 : decode prog_9_method_5_code 2 = .ok (.invokestatic 42, 3) := am_row (r := (2, .invokestatic 42, 3)) ro_Search_begin 2 rfl
theorem d_Search_begin_5 : decode prog_9_method_5_code 5 = .ok (.ifCond .ne 4, 3) := am_row (r := (5, .ifCond .ne 4, 3)) ro_Search_begin 3 rfl
theorem d_Search_begin_8 : decode prog_9_method_5_code 8 = .ok (.return_, 1) := am_row (r := (8, .return_, 1)) ro_Search_begin 4 rfl
theorem d_Search_begin_9 : decode prog_9_method_5_code 9 = .ok (.aload_n 0, 1) := am_row (r := (9, .aload_n 0, 1)) ro_Search_begin 5 rfl
theorem d_Search_begin_10 : decode prog_9_method_5_code 10 = .ok (.iload_n 1, 1) := am_row (r := (10, .iload_n 1, 1)) ro_Search_begin 6 rfl
theorem d_Search_begin_11 : decode prog_9_method_5_code 11 = .ok (.putfield 9, 3) := am_row (r := (11, .putfield 9, 3)) ro_Search_begin 7 rfl
theorem d_Search_begin_14 : decode prog_9_method_5_code 14 = .ok (.aload_n 0, 1) := am_row (r := (14, .aload_n 0, 1)) ro_Search_begin 8 rfl
theorem d_Search_begin_15 : decode prog_9_method_5_code 15 = .ok (.iload_n 2, 1) := am_row (r := (15, .iload_n 2, 1)) ro_Search_begin 9 rfl
theorem d_Search_begin_16 : decode prog_9_method_5_code 16 = .ok (.putfield 15, 3) := am_row (r := (16, .putfield 15, 3)) ro_Search_begin 10 rfl
theorem d_Search_begin_19 : decode prog_9_method_5_code 19 = .ok (.aload_n 0, 1) := am_row (r := (19, .aload_n 0, 1)) ro_Search_begin 11 rfl
theorem d_Search_begin_20 : decode prog_9_method_5_code 20 = .ok (.iload_n 1, 1) := am_row (r := (20, .iload_n 1, 1)) ro_Search_begin 12 rfl
theorem d_Search_begin_21 : decode prog_9_method_5_code 21 = .ok (.iload_n 2, 1) := am_row (r := (21, .iload_n 2, 1)) ro_Search_begin 13 rfl
theorem d_Search_begin_22 : decode prog_9_method_5_code 22 = .ok (.idiv, 1) := am_row (r := (22, .idiv, 1)) ro_Search_begin 14 rfl
theorem d_Search_begin_23 : decode prog_9_method_5_code 23 = .ok (.putfield 18, 3) := am_row (r := (23, .putfield 18, 3)) ro_Search_begin 15 rfl
theorem d_Search_begin_26 : decode prog_9_method_5_code 26 = .ok (.aload_n 0, 1) := am_row (r := (26, .aload_n 0, 1)) ro_Search_begin 16 rfl
theorem d_Search_begin_27 : decode prog_9_method_5_code 27 = .ok (.iconst 1, 1) := am_row (r := (27, .iconst 1, 1)) ro_Search_begin 17 rfl
theorem d_Search_begin_28 : decode prog_9_method_5_code 28 = .ok (.iload_n 1, 1) := am_row (r := (28, .iload_n 1, 1)) ro_Search_begin 18 rfl
theorem d_Search_begin_29 : decode prog_9_method_5_code 29 = .ok (.ishl, 1) := am_row (r := (29, .ishl, 1)) ro_Search_begin 19 rfl
theorem d_Search_begin_30 : decode prog_9_method_5_code 30 = .ok (.putfield 21, 3) := am_row (r := (30, .putfield 21, 3)) ro_Search_begin 20 rfl
theorem d_Search_begin_33 : decode prog_9_method_5_code 33 = .ok (.aload_n 0, 1) := am_row (r := (33, .aload_n 0, 1)) ro_Search_begin 21 rfl
theorem d_Search_begin_34 : decode prog_9_method_5_code 34 = .ok (.iconst 0, 1) := am_row (r := (34, .iconst 0, 1)) ro_Search_begin 22 rfl
theorem d_Search_begin_35 : decode prog_9_method_5_code 35 = .ok (.putfield 24, 3) := am_row (r := (35, .putfield 24, 3)) ro_Search_begin 23 rfl
theorem d_Search_begin_38 : decode prog_9_method_5_code 38 = .ok (.aload_n 0, 1) := am_row (r := (38, .aload_n 0, 1)) ro_Search_begin 24 rfl
theorem d_Search_begin_39 : decode prog_9_method_5_code 39 = .ok (.iconst 0, 1) := am_row (r := (39, .iconst 0, 1)) ro_Search_begin 25 rfl
theorem d_Search_begin_40 : decode prog_9_method_5_code 40 = .ok (.putfield 27, 3) := am_row (r := (40, .putfield 27, 3)) ro_Search_begin 26 rfl
theorem d_Search_begin_43 : decode prog_9_method_5_code 43 = .ok (.aload_n 0, 1) := am_row (r := (43, .aload_n 0, 1)) ro_Search_begin 27 rfl
theorem d_Search_begin_44 : decode prog_9_method_5_code 44 = .ok (.iconst 1, 1) := am_row (r := (44, .iconst 1, 1)) ro_Search_begin 28 rfl
theorem d_Search_begin_45 : decode prog_9_method_5_code 45 = .ok (.putfield 36, 3) := am_row (r := (45, .putfield 36, 3)) ro_Search_begin 29 rfl
theorem d_Search_begin_48 : decode prog_9_method_5_code 48 = .ok (.return_, 1) := am_row (r := (48, .return_, 1)) ro_Search_begin 30 rfl
