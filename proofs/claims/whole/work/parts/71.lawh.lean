/-! THE LAW: its code, row by row -/
def rw_Law630 : List (Nat × Instr × Nat) := [(1030, .iaload, 1), (1031, .invokevirtual 155, 3), (1034, .if_icmp .eq 123, 3), (1037, .iconst 0, 1), (1038, .ireturn, 1), (1039, .aload_n 1, 1), (1040, .invokevirtual 156, 3), (1043, .aload_n 2, 1), (1044, .invokevirtual 159, 3), (1047, .if_icmp .eq 110, 3), (1050, .iconst 0, 1), (1051, .ireturn, 1), (1052, .aload_n 1, 1), (1053, .aload_n 0, 1), (1054, .iload_n 3, 1), (1055, .iconst 1, 1), (1056, .iadd, 1), (1057, .iaload, 1), (1058, .invokevirtual 160, 3), (1061, .aload_n 2, 1), (1062, .aload_n 0, 1), (1063, .iload_n 3, 1), (1064, .iconst 1, 1), (1065, .iadd, 1), (1066, .iaload, 1), (1067, .invokevirtual 163, 3), (1070, .if_icmp .eq 87, 3), (1073, .iconst 0, 1), (1074, .ireturn, 1), (1075, .aload_n 1, 1), (1076, .aload_n 0, 1), (1077, .iload_n 3, 1), (1078, .iconst 1, 1), (1079, .iadd, 1), (1080, .iaload, 1), (1081, .aload_n 0, 1), (1082, .iload_n 3, 1), (1083, .iconst 2, 1), (1084, .iadd, 1), (1085, .iaload, 1), (1086, .invokevirtual 164, 3), (1089, .aload_n 2, 1), (1090, .aload_n 0, 1), (1091, .iload_n 3, 1), (1092, .iconst 1, 1)]
theorem ro_Law630 : rw_Law630.all (fun r => decide (decode code r.1 = .ok r.2)) = true := by decide +kernel
theorem d_Law_1030 : decode code 1030 = .ok (.iaload, 1) := am_row (r := (1030, .iaload, 1)) ro_Law630 0 rfl
theorem d_Law_1031 : decode code 1031 = .ok (.invokevirtual 155, 3) := am_row (r := (1031, .invokevirtual 155, 3)) ro_Law630 1 rfl
theorem d_Law_1034 : decode code 1034 = .ok (.if_icmp .eq 123, 3) := am_row (r := (1034, .if_icmp .eq 123, 3)) ro_Law630 2 rfl
theorem d_Law_1037 : decode code 1037 = .ok (.iconst 0, 1) := am_row (r := (1037, .iconst 0, 1)) ro_Law630 3 rfl
theorem d_Law_1038 : decode code 1038 = .ok (.ireturn, 1) := am_row (r := (1038, .ireturn, 1)) ro_Law630 4 rfl
theorem d_Law_1039 : decode code 1039 = .ok (.aload_n 1, 1) := am_row (r := (1039, .aload_n 1, 1)) ro_Law630 5 rfl
theorem d_Law_1040 : decode code 1040 = .ok (.invokevirtual 156, 3) := am_row (r := (1040, .invokevirtual 156, 3)) ro_Law630 6 rfl
theorem d_Law_1043 : decode code 1043 = .ok (.aload_n 2, 1) := am_row (r := (1043, .aload_n 2, 1)) ro_Law630 7 rfl
theorem d_Law_1044 : decode code 1044 = .ok (.invokevirtual 159, 3) := am_row (r := (1044, .invokevirtual 159, 3)) ro_Law630 8 rfl
theorem d_Law_1047 : decode code 1047 = .ok (.if_icmp .eq 110, 3) := am_row (r := (1047, .if_icmp .eq 110, 3)) ro_Law630 9 rfl
theorem d_Law_1050 : decode code 1050 = .ok (.iconst 0, 1) := am_row (r := (1050, .iconst 0, 1)) ro_Law630 10 rfl
theorem d_Law_1051 : decode code 1051 = .ok (.ireturn, 1) := am_row (r := (1051, .ireturn, 1)) ro_Law630 11 rfl
theorem d_Law_1052 : decode code 1052 = .ok (.aload_n 1, 1) := am_row (r := (1052, .aload_n 1, 1)) ro_Law630 12 rfl
theorem d_Law_1053 : decode code 1053 = .ok (.aload_n 0, 1) := am_row (r := (1053, .aload_n 0, 1)) ro_Law630 13 rfl
theorem d_Law_1054 : decode code 1054 = .ok (.iload_n 3, 1) := am_row (r := (1054, .iload_n 3, 1)) ro_Law630 14 rfl
theorem d_Law_1055 : decode code 1055 = .ok (.iconst 1, 1) := am_row (r := (1055, .iconst 1, 1)) ro_Law630 15 rfl
theorem d_Law_1056 : decode code 1056 = .ok (.iadd, 1) := am_row (r := (1056, .iadd, 1)) ro_Law630 16 rfl
theorem d_Law_1057 : decode code 1057 = .ok (.iaload, 1) := am_row (r := (1057, .iaload, 1)) ro_Law630 17 rfl
theorem d_Law_1058 : decode code 1058 = .ok (.invokevirtual 160, 3) := am_row (r := (1058, .invokevirtual 160, 3)) ro_Law630 18 rfl
theorem d_Law_1061 : decode code 1061 = .ok (.aload_n 2, 1) := am_row (r := (1061, .aload_n 2, 1)) ro_Law630 19 rfl
theorem d_Law_1062 : decode code 1062 = .ok (.aload_n 0, 1) := am_row (r := (1062, .aload_n 0, 1)) ro_Law630 20 rfl
theorem d_Law_1063 : decode code 1063 = .ok (.iload_n 3, 1) := am_row (r := (1063, .iload_n 3, 1)) ro_Law630 21 rfl
theorem d_Law_1064 : decode code 1064 = .ok (.iconst 1, 1) := am_row (r := (1064, .iconst 1, 1)) ro_Law630 22 rfl
theorem d_Law_1065 : decode code 1065 = .ok (.iadd, 1) := am_row (r := (1065, .iadd, 1)) ro_Law630 23 rfl
theorem d_Law_1066 : decode code 1066 = .ok (.iaload, 1) := am_row (r := (1066, .iaload, 1)) ro_Law630 24 rfl
theorem d_Law_1067 : decode code 1067 = .ok (.invokevirtual 163, 3) := am_row (r := (1067, .invokevirtual 163, 3)) ro_Law630 25 rfl
theorem d_Law_1070 : decode code 1070 = .ok (.if_icmp .eq 87, 3) := am_row (r := (1070, .if_icmp .eq 87, 3)) ro_Law630 26 rfl
theorem d_Law_1073 : decode code 1073 = .ok (.iconst 0, 1) := am_row (r := (1073, .iconst 0, 1)) ro_Law630 27 rfl
theorem d_Law_1074 : decode code 1074 = .ok (.ireturn, 1) := am_row (r := (1074, .ireturn, 1)) ro_Law630 28 rfl
theorem d_Law_1075 : decode code 1075 = .ok (.aload_n 1, 1) := am_row (r := (1075, .aload_n 1, 1)) ro_Law630 29 rfl
theorem d_Law_1076 : decode code 1076 = .ok (.aload_n 0, 1) := am_row (r := (1076, .aload_n 0, 1)) ro_Law630 30 rfl
theorem d_Law_1077 : decode code 1077 = .ok (.iload_n 3, 1) := am_row (r := (1077, .iload_n 3, 1)) ro_Law630 31 rfl
theorem d_Law_1078 : decode code 1078 = .ok (.iconst 1, 1) := am_row (r := (1078, .iconst 1, 1)) ro_Law630 32 rfl
theorem d_Law_1079 : decode code 1079 = .ok (.iadd, 1) := am_row (r := (1079, .iadd, 1)) ro_Law630 33 rfl
theorem d_Law_1080 : decode code 1080 = .ok (.iaload, 1) := am_row (r := (1080, .iaload, 1)) ro_Law630 34 rfl
theorem d_Law_1081 : decode code 1081 = .ok (.aload_n 0, 1) := am_row (r := (1081, .aload_n 0, 1)) ro_Law630 35 rfl
theorem d_Law_1082 : decode code 1082 = .ok (.iload_n 3, 1) := am_row (r := (1082, .iload_n 3, 1)) ro_Law630 36 rfl
theorem d_Law_1083 : decode code 1083 = .ok (.iconst 2, 1) := am_row (r := (1083, .iconst 2, 1)) ro_Law630 37 rfl
theorem d_Law_1084 : decode code 1084 = .ok (.iadd, 1) := am_row (r := (1084, .iadd, 1)) ro_Law630 38 rfl
theorem d_Law_1085 : decode code 1085 = .ok (.iaload, 1) := am_row (r := (1085, .iaload, 1)) ro_Law630 39 rfl
theorem d_Law_1086 : decode code 1086 = .ok (.invokevirtual 164, 3) := am_row (r := (1086, .invokevirtual 164, 3)) ro_Law630 40 rfl
theorem d_Law_1089 : decode code 1089 = .ok (.aload_n 2, 1) := am_row (r := (1089, .aload_n 2, 1)) ro_Law630 41 rfl
theorem d_Law_1090 : decode code 1090 = .ok (.aload_n 0, 1) := am_row (r := (1090, .aload_n 0, 1)) ro_Law630 42 rfl
theorem d_Law_1091 : decode code 1091 = .ok (.iload_n 3, 1) := am_row (r := (1091, .iload_n 3, 1)) ro_Law630 43 rfl
theorem d_Law_1092 : decode code 1092 = .ok (.iconst 1, 1) := am_row (r := (1092, .iconst 1, 1)) ro_Law630 44 rfl
def rw_Law675 : List (Nat × Instr × Nat) := [(1093, .iadd, 1), (1094, .iaload, 1), (1095, .aload_n 0, 1), (1096, .iload_n 3, 1), (1097, .iconst 2, 1), (1098, .iadd, 1), (1099, .iaload, 1), (1100, .invokevirtual 167, 3), (1103, .if_icmp .eq 54, 3), (1106, .iconst 0, 1), (1107, .ireturn, 1), (1108, .aload_n 1, 1), (1109, .aload_n 0, 1), (1110, .iload_n 3, 1), (1111, .iconst 1, 1), (1112, .iadd, 1), (1113, .iaload, 1), (1114, .invokevirtual 168, 3), (1117, .aload_n 2, 1), (1118, .aload_n 0, 1), (1119, .iload_n 3, 1), (1120, .iconst 1, 1), (1121, .iadd, 1), (1122, .iaload, 1), (1123, .invokevirtual 171, 3), (1126, .if_icmp .eq 31, 3), (1129, .iconst 0, 1), (1130, .ireturn, 1), (1131, .aload_n 1, 1), (1132, .invokevirtual 172, 3), (1135, .aload_n 2, 1), (1136, .invokevirtual 175, 3), (1139, .if_icmp .eq 18, 3), (1142, .iconst 0, 1), (1143, .ireturn, 1), (1144, .aload_n 1, 1), (1145, .invokevirtual 176, 3), (1148, .aload_n 2, 1), (1149, .invokevirtual 179, 3), (1152, .if_icmp .eq 5, 3), (1155, .iconst 0, 1), (1156, .ireturn, 1), (1157, .iinc 3 4, 3), (1160, .goto (-1142), 3), (1163, .iconst 1, 1)]
theorem ro_Law675 : rw_Law675.all (fun r => decide (decode code r.1 = .ok r.2)) = true := by decide +kernel
theorem d_Law_1093 : decode code 1093 = .ok (.iadd, 1) := am_row (r := (1093, .iadd, 1)) ro_Law675 0 rfl
theorem d_Law_1094 : decode code 1094 = .ok (.iaload, 1) := am_row (r := (1094, .iaload, 1)) ro_Law675 1 rfl
theorem d_Law_1095 : decode code 1095 = .ok (.aload_n 0, 1) := am_row (r := (1095, .aload_n 0, 1)) ro_Law675 2 rfl
theorem d_Law_1096 : decode code 1096 = .ok (.iload_n 3, 1) := am_row (r := (1096, .iload_n 3, 1)) ro_Law675 3 rfl
theorem d_Law_1097 : decode code 1097 = .ok (.iconst 2, 1) := am_row (r := (1097, .iconst 2, 1)) ro_Law675 4 rfl
theorem d_Law_1098 : decode code 1098 = .ok (.iadd, 1) := am_row (r := (1098, .iadd, 1)) ro_Law675 5 rfl
theorem d_Law_1099 : decode code 1099 = .ok (.iaload, 1) := am_row (r := (1099, .iaload, 1)) ro_Law675 6 rfl
theorem d_Law_1100 : decode code 1100 = .ok (.invokevirtual 167, 3) := am_row (r := (1100, .invokevirtual 167, 3)) ro_Law675 7 rfl
theorem d_Law_1103 : decode code 1103 = .ok (.if_icmp .eq 54, 3) := am_row (r := (1103, .if_icmp .eq 54, 3)) ro_Law675 8 rfl
theorem d_Law_1106 : decode code 1106 = .ok (.iconst 0, 1) := am_row (r := (1106, .iconst 0, 1)) ro_Law675 9 rfl
theorem d_Law_1107 : decode code 1107 = .ok (.ireturn, 1) := am_row (r := (1107, .ireturn, 1)) ro_Law675 10 rfl
theorem d_Law_1108 : decode code 1108 = .ok (.aload_n 1, 1) := am_row (r := (1108, .aload_n 1, 1)) ro_Law675 11 rfl
theorem d_Law_1109 : decode code 1109 = .ok (.aload_n 0, 1) := am_row (r := (1109, .aload_n 0, 1)) ro_Law675 12 rfl
theorem d_Law_1110 : decode code 1110 = .ok (.iload_n 3, 1) := am_row (r := (1110, .iload_n 3, 1)) ro_Law675 13 rfl
theorem d_Law_1111 : decode code 1111 = .ok (.iconst 1, 1) := am_row (r := (1111, .iconst 1, 1)) ro_Law675 14 rfl
theorem d_Law_1112 : decode code 1112 = .ok (.iadd, 1) := am_row (r := (1112, .iadd, 1)) ro_Law675 15 rfl
theorem d_Law_1113 : decode code 1113 = .ok (.iaload, 1) := am_row (r := (1113, .iaload, 1)) ro_Law675 16 rfl
theorem d_Law_1114 : decode code 1114 = .ok (.invokevirtual 168, 3) := am_row (r := (1114, .invokevirtual 168, 3)) ro_Law675 17 rfl
theorem d_Law_1117 : decode code 1117 = .ok (.aload_n 2, 1) := am_row (r := (1117, .aload_n 2, 1)) ro_Law675 18 rfl
theorem d_Law_1118 : decode code 1118 = .ok (.aload_n 0, 1) := am_row (r := (1118, .aload_n 0, 1)) ro_Law675 19 rfl
theorem d_Law_1119 : decode code 1119 = .ok (.iload_n 3, 1) := am_row (r := (1119, .iload_n 3, 1)) ro_Law675 20 rfl
theorem d_Law_1120 : decode code 1120 = .ok (.iconst 1, 1) := am_row (r := (1120, .iconst 1, 1)) ro_Law675 21 rfl
theorem d_Law_1121 : decode code 1121 = .ok (.iadd, 1) := am_row (r := (1121, .iadd, 1)) ro_Law675 22 rfl
theorem d_Law_1122 : decode code 1122 = .ok (.iaload, 1) := am_row (r := (1122, .iaload, 1)) ro_Law675 23 rfl
theorem d_Law_1123 : decode code 1123 = .ok (.invokevirtual 171, 3) := am_row (r := (1123, .invokevirtual 171, 3)) ro_Law675 24 rfl
theorem d_Law_1126 : decode code 1126 = .ok (.if_icmp .eq 31, 3) := am_row (r := (1126, .if_icmp .eq 31, 3)) ro_Law675 25 rfl
theorem d_Law_1129 : decode code 1129 = .ok (.iconst 0, 1) := am_row (r := (1129, .iconst 0, 1)) ro_Law675 26 rfl
theorem d_Law_1130 : decode code 1130 = .ok (.ireturn, 1) := am_row (r := (1130, .ireturn, 1)) ro_Law675 27 rfl
theorem d_Law_1131 : decode code 1131 = .ok (.aload_n 1, 1) := am_row (r := (1131, .aload_n 1, 1)) ro_Law675 28 rfl
theorem d_Law_1132 : decode code 1132 = .ok (.invokevirtual 172, 3) := am_row (r := (1132, .invokevirtual 172, 3)) ro_Law675 29 rfl
theorem d_Law_1135 : decode code 1135 = .ok (.aload_n 2, 1) := am_row (r := (1135, .aload_n 2, 1)) ro_Law675 30 rfl
theorem d_Law_1136 : decode code 1136 = .ok (.invokevirtual 175, 3) := am_row (r := (1136, .invokevirtual 175, 3)) ro_Law675 31 rfl
theorem d_Law_1139 : decode code 1139 = .ok (.if_icmp .eq 18, 3) := am_row (r := (1139, .if_icmp .eq 18, 3)) ro_Law675 32 rfl
theorem d_Law_1142 : decode code 1142 = .ok (.iconst 0, 1) := am_row (r := (1142, .iconst 0, 1)) ro_Law675 33 rfl
theorem d_Law_1143 : decode code 1143 = .ok (.ireturn, 1) := am_row (r := (1143, .ireturn, 1)) ro_Law675 34 rfl
theorem d_Law_1144 : decode code 1144 = .ok (.aload_n 1, 1) := am_row (r := (1144, .aload_n 1, 1)) ro_Law675 35 rfl
theorem d_Law_1145 : decode code 1145 = .ok (.invokevirtual 176, 3) := am_row (r := (1145, .invokevirtual 176, 3)) ro_Law675 36 rfl
theorem d_Law_1148 : decode code 1148 = .ok (.aload_n 2, 1) := am_row (r := (1148, .aload_n 2, 1)) ro_Law675 37 rfl
theorem d_Law_1149 : decode code 1149 = .ok (.invokevirtual 179, 3) := am_row (r := (1149, .invokevirtual 179, 3)) ro_Law675 38 rfl
theorem d_Law_1152 : decode code 1152 = .ok (.if_icmp .eq 5, 3) := am_row (r := (1152, .if_icmp .eq 5, 3)) ro_Law675 39 rfl
theorem d_Law_1155 : decode code 1155 = .ok (.iconst 0, 1) := am_row (r := (1155, .iconst 0, 1)) ro_Law675 40 rfl
theorem d_Law_1156 : decode code 1156 = .ok (.ireturn, 1) := am_row (r := (1156, .ireturn, 1)) ro_Law675 41 rfl
theorem d_Law_1157 : decode code 1157 = .ok (.iinc 3 4, 3) := am_row (r := (1157, .iinc 3 4, 3)) ro_Law675 42 rfl
theorem d_Law_1160 : decode code 1160 = .ok (.goto (-1142), 3) := am_row (r := (1160, .goto (-1142), 3)) ro_Law675 43 rfl
theorem d_Law_1163 : decode code 1163 = .ok (.iconst 1, 1) := am_row (r := (1163, .iconst 1, 1)) ro_Law675 44 rfl
