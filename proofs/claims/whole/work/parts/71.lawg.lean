/-! THE LAW: its code, row by row -/
def rw_Law540 : List (Nat × Instr × Nat) := [(904, .iload_n 3, 1), (905, .iconst 2, 1), (906, .iadd, 1), (907, .iaload, 1), (908, .aload_n 0, 1), (909, .iload_n 3, 1), (910, .iconst 3, 1), (911, .iadd, 1), (912, .iaload, 1), (913, .invokevirtual 131, 3), (916, .if_icmp .eq 241, 3), (919, .iconst 0, 1), (920, .ireturn, 1), (921, .aload_n 1, 1), (922, .aload_n 0, 1), (923, .iload_n 3, 1), (924, .iconst 1, 1), (925, .iadd, 1), (926, .iaload, 1), (927, .invokevirtual 132, 3), (930, .aload_n 2, 1), (931, .aload_n 0, 1), (932, .iload_n 3, 1), (933, .iconst 1, 1), (934, .iadd, 1), (935, .iaload, 1), (936, .invokevirtual 135, 3), (939, .if_icmp .eq 218, 3), (942, .iconst 0, 1), (943, .ireturn, 1), (944, .aload_n 1, 1), (945, .aload_n 0, 1), (946, .iload_n 3, 1), (947, .iconst 1, 1), (948, .iadd, 1), (949, .iaload, 1), (950, .invokevirtual 136, 3), (953, .aload_n 2, 1), (954, .aload_n 0, 1), (955, .iload_n 3, 1), (956, .iconst 1, 1), (957, .iadd, 1), (958, .iaload, 1), (959, .invokevirtual 139, 3), (962, .if_icmp .eq 195, 3)]
theorem ro_Law540 : rw_Law540.all (fun r => decide (decode code r.1 = .ok r.2)) = true := by decide +kernel
theorem d_Law_904 : decode code 904 = .ok (.iload_n 3, 1) := am_row (r := (904, .iload_n 3, 1)) ro_Law540 0 rfl
theorem d_Law_905 : decode code 905 = .ok (.iconst 2, 1) := am_row (r := (905, .iconst 2, 1)) ro_Law540 1 rfl
theorem d_Law_906 : decode code 906 = .ok (.iadd, 1) := am_row (r := (906, .iadd, 1)) ro_Law540 2 rfl
theorem d_Law_907 : decode code 907 = .ok (.iaload, 1) := am_row (r := (907, .iaload, 1)) ro_Law540 3 rfl
theorem d_Law_908 : decode code 908 = .ok (.aload_n 0, 1) := am_row (r := (908, .aload_n 0, 1)) ro_Law540 4 rfl
theorem d_Law_909 : decode code 909 = .ok (.iload_n 3, 1) := am_row (r := (909, .iload_n 3, 1)) ro_Law540 5 rfl
theorem d_Law_910 : decode code 910 = .ok (.iconst 3, 1) := am_row (r := (910, .iconst 3, 1)) ro_Law540 6 rfl
theorem d_Law_911 : decode code 911 = .ok (.iadd, 1) := am_row (r := (911, .iadd, 1)) ro_Law540 7 rfl
theorem d_Law_912 : decode code 912 = .ok (.iaload, 1) := am_row (r := (912, .iaload, 1)) ro_Law540 8 rfl
theorem d_Law_913 : decode code 913 = .ok (.invokevirtual 131, 3) := am_row (r := (913, .invokevirtual 131, 3)) ro_Law540 9 rfl
theorem d_Law_916 : decode code 916 = .ok (.if_icmp .eq 241, 3) := am_row (r := (916, .if_icmp .eq 241, 3)) ro_Law540 10 rfl
theorem d_Law_919 : decode code 919 = .ok (.iconst 0, 1) := am_row (r := (919, .iconst 0, 1)) ro_Law540 11 rfl
theorem d_Law_920 : decode code 920 = .ok (.ireturn, 1) := am_row (r := (920, .ireturn, 1)) ro_Law540 12 rfl
theorem d_Law_921 : decode code 921 = .ok (.aload_n 1, 1) := am_row (r := (921, .aload_n 1, 1)) ro_Law540 13 rfl
theorem d_Law_922 : decode code 922 = .ok (.aload_n 0, 1) := am_row (r := (922, .aload_n 0, 1)) ro_Law540 14 rfl
theorem d_Law_923 : decode code 923 = .ok (.iload_n 3, 1) := am_row (r := (923, .iload_n 3, 1)) ro_Law540 15 rfl
theorem d_Law_924 : decode code 924 = .ok (.iconst 1, 1) := am_row (r := (924, .iconst 1, 1)) ro_Law540 16 rfl
theorem d_Law_925 : decode code 925 = .ok (.iadd, 1) := am_row (r := (925, .iadd, 1)) ro_Law540 17 rfl
theorem d_Law_926 : decode code 926 = .ok (.iaload, 1) := am_row (r := (926, .iaload, 1)) ro_Law540 18 rfl
theorem d_Law_927 : decode code 927 = .ok (.invokevirtual 132, 3) := am_row (r := (927, .invokevirtual 132, 3)) ro_Law540 19 rfl
theorem d_Law_930 : decode code 930 = .ok (.aload_n 2, 1) := am_row (r := (930, .aload_n 2, 1)) ro_Law540 20 rfl
theorem d_Law_931 : decode code 931 = .ok (.aload_n 0, 1) := am_row (r := (931, .aload_n 0, 1)) ro_Law540 21 rfl
theorem d_Law_932 : decode code 932 = .ok (.iload_n 3, 1) := am_row (r := (932, .iload_n 3, 1)) ro_Law540 22 rfl
theorem d_Law_933 : decode code 933 = .ok (.iconst 1, 1) := am_row (r := (933, .iconst 1, 1)) ro_Law540 23 rfl
theorem d_Law_934 : decode code 934 = .ok (.iadd, 1) := am_row (r := (934, .iadd, 1)) ro_Law540 24 rfl
theorem d_Law_935 : decode code 935 = .ok (.iaload, 1) := am_row (r := (935, .iaload, 1)) ro_Law540 25 rfl
theorem d_Law_936 : decode code 936 = .ok (.invokevirtual 135, 3) := am_row (r := (936, .invokevirtual 135, 3)) ro_Law540 26 rfl
theorem d_Law_939 : decode code 939 = .ok (.if_icmp .eq 218, 3) := am_row (r := (939, .if_icmp .eq 218, 3)) ro_Law540 27 rfl
theorem d_Law_942 : decode code 942 = .ok (.iconst 0, 1) := am_row (r := (942, .iconst 0, 1)) ro_Law540 28 rfl
theorem d_Law_943 : decode code 943 = .ok (.ireturn, 1) := am_row (r := (943, .ireturn, 1)) ro_Law540 29 rfl
theorem d_Law_944 : decode code 944 = .ok (.aload_n 1, 1) := am_row (r := (944, .aload_n 1, 1)) ro_Law540 30 rfl
theorem d_Law_945 : decode code 945 = .ok (.aload_n 0, 1) := am_row (r := (945, .aload_n 0, 1)) ro_Law540 31 rfl
theorem d_Law_946 : decode code 946 = .ok (.iload_n 3, 1) := am_row (r := (946, .iload_n 3, 1)) ro_Law540 32 rfl
theorem d_Law_947 : decode code 947 = .ok (.iconst 1, 1) := am_row (r := (947, .iconst 1, 1)) ro_Law540 33 rfl
theorem d_Law_948 : decode code 948 = .ok (.iadd, 1) := am_row (r := (948, .iadd, 1)) ro_Law540 34 rfl
theorem d_Law_949 : decode code 949 = .ok (.iaload, 1) := am_row (r := (949, .iaload, 1)) ro_Law540 35 rfl
theorem d_Law_950 : decode code 950 = .ok (.invokevirtual 136, 3) := am_row (r := (950, .invokevirtual 136, 3)) ro_Law540 36 rfl
theorem d_Law_953 : decode code 953 = .ok (.aload_n 2, 1) := am_row (r := (953, .aload_n 2, 1)) ro_Law540 37 rfl
theorem d_Law_954 : decode code 954 = .ok (.aload_n 0, 1) := am_row (r := (954, .aload_n 0, 1)) ro_Law540 38 rfl
theorem d_Law_955 : decode code 955 = .ok (.iload_n 3, 1) := am_row (r := (955, .iload_n 3, 1)) ro_Law540 39 rfl
theorem d_Law_956 : decode code 956 = .ok (.iconst 1, 1) := am_row (r := (956, .iconst 1, 1)) ro_Law540 40 rfl
theorem d_Law_957 : decode code 957 = .ok (.iadd, 1) := am_row (r := (957, .iadd, 1)) ro_Law540 41 rfl
theorem d_Law_958 : decode code 958 = .ok (.iaload, 1) := am_row (r := (958, .iaload, 1)) ro_Law540 42 rfl
theorem d_Law_959 : decode code 959 = .ok (.invokevirtual 139, 3) := am_row (r := (959, .invokevirtual 139, 3)) ro_Law540 43 rfl
theorem d_Law_962 : decode code 962 = .ok (.if_icmp .eq 195, 3) := am_row (r := (962, .if_icmp .eq 195, 3)) ro_Law540 44 rfl
def rw_Law585 : List (Nat × Instr × Nat) := [(965, .iconst 0, 1), (966, .ireturn, 1), (967, .aload_n 1, 1), (968, .invokevirtual 140, 3), (971, .aload_n 2, 1), (972, .invokevirtual 143, 3), (975, .if_icmp .eq 182, 3), (978, .iconst 0, 1), (979, .ireturn, 1), (980, .aload_n 1, 1), (981, .invokevirtual 144, 3), (984, .aload_n 2, 1), (985, .invokevirtual 147, 3), (988, .if_icmp .eq 169, 3), (991, .iconst 0, 1), (992, .ireturn, 1), (993, .aload_n 1, 1), (994, .aload_n 0, 1), (995, .iload_n 3, 1), (996, .iconst 1, 1), (997, .iadd, 1), (998, .iaload, 1), (999, .invokevirtual 148, 3), (1002, .aload_n 2, 1), (1003, .aload_n 0, 1), (1004, .iload_n 3, 1), (1005, .iconst 1, 1), (1006, .iadd, 1), (1007, .iaload, 1), (1008, .invokevirtual 151, 3), (1011, .if_icmp .eq 146, 3), (1014, .iconst 0, 1), (1015, .ireturn, 1), (1016, .aload_n 1, 1), (1017, .aload_n 0, 1), (1018, .iload_n 3, 1), (1019, .iconst 1, 1), (1020, .iadd, 1), (1021, .iaload, 1), (1022, .invokevirtual 152, 3), (1025, .aload_n 2, 1), (1026, .aload_n 0, 1), (1027, .iload_n 3, 1), (1028, .iconst 1, 1), (1029, .iadd, 1)]
theorem ro_Law585 : rw_Law585.all (fun r => decide (decode code r.1 = .ok r.2)) = true := by decide +kernel
theorem d_Law_965 : decode code 965 = .ok (.iconst 0, 1) := am_row (r := (965, .iconst 0, 1)) ro_Law585 0 rfl
theorem d_Law_966 : decode code 966 = .ok (.ireturn, 1) := am_row (r := (966, .ireturn, 1)) ro_Law585 1 rfl
theorem d_Law_967 : decode code 967 = .ok (.aload_n 1, 1) := am_row (r := (967, .aload_n 1, 1)) ro_Law585 2 rfl
theorem d_Law_968 : decode code 968 = .ok (.invokevirtual 140, 3) := am_row (r := (968, .invokevirtual 140, 3)) ro_Law585 3 rfl
theorem d_Law_971 : decode code 971 = .ok (.aload_n 2, 1) := am_row (r := (971, .aload_n 2, 1)) ro_Law585 4 rfl
theorem d_Law_972 : decode code 972 = .ok (.invokevirtual 143, 3) := am_row (r := (972, .invokevirtual 143, 3)) ro_Law585 5 rfl
theorem d_Law_975 : decode code 975 = .ok (.if_icmp .eq 182, 3) := am_row (r := (975, .if_icmp .eq 182, 3)) ro_Law585 6 rfl
theorem d_Law_978 : decode code 978 = .ok (.iconst 0, 1) := am_row (r := (978, .iconst 0, 1)) ro_Law585 7 rfl
theorem d_Law_979 : decode code 979 = .ok (.ireturn, 1) := am_row (r := (979, .ireturn, 1)) ro_Law585 8 rfl
theorem d_Law_980 : decode code 980 = .ok (.aload_n 1, 1) := am_row (r := (980, .aload_n 1, 1)) ro_Law585 9 rfl
theorem d_Law_981 : decode code 981 = .ok (.invokevirtual 144, 3) := am_row (r := (981, .invokevirtual 144, 3)) ro_Law585 10 rfl
theorem d_Law_984 : decode code 984 = .ok (.aload_n 2, 1) := am_row (r := (984, .aload_n 2, 1)) ro_Law585 11 rfl
theorem d_Law_985 : decode code 985 = .ok (.invokevirtual 147, 3) := am_row (r := (985, .invokevirtual 147, 3)) ro_Law585 12 rfl
theorem d_Law_988 : decode code 988 = .ok (.if_icmp .eq 169, 3) := am_row (r := (988, .if_icmp .eq 169, 3)) ro_Law585 13 rfl
theorem d_Law_991 : decode code 991 = .ok (.iconst 0, 1) := am_row (r := (991, .iconst 0, 1)) ro_Law585 14 rfl
theorem d_Law_992 : decode code 992 = .ok (.ireturn, 1) := am_row (r := (992, .ireturn, 1)) ro_Law585 15 rfl
theorem d_Law_993 : decode code 993 = .ok (.aload_n 1, 1) := am_row (r := (993, .aload_n 1, 1)) ro_Law585 16 rfl
theorem d_Law_994 : decode code 994 = .ok (.aload_n 0, 1) := am_row (r := (994, .aload_n 0, 1)) ro_Law585 17 rfl
theorem d_Law_995 : decode code 995 = .ok (.iload_n 3, 1) := am_row (r := (995, .iload_n 3, 1)) ro_Law585 18 rfl
theorem d_Law_996 : decode code 996 = .ok (.iconst 1, 1) := am_row (r := (996, .iconst 1, 1)) ro_Law585 19 rfl
theorem d_Law_997 : decode code 997 = .ok (.iadd, 1) := am_row (r := (997, .iadd, 1)) ro_Law585 20 rfl
theorem d_Law_998 : decode code 998 = .ok (.iaload, 1) := am_row (r := (998, .iaload, 1)) ro_Law585 21 rfl
theorem d_Law_999 : decode code 999 = .ok (.invokevirtual 148, 3) := am_row (r := (999, .invokevirtual 148, 3)) ro_Law585 22 rfl
theorem d_Law_1002 : decode code 1002 = .ok (.aload_n 2, 1) := am_row (r := (1002, .aload_n 2, 1)) ro_Law585 23 rfl
theorem d_Law_1003 : decode code 1003 = .ok (.aload_n 0, 1) := am_row (r := (1003, .aload_n 0, 1)) ro_Law585 24 rfl
theorem d_Law_1004 : decode code 1004 = .ok (.iload_n 3, 1) := am_row (r := (1004, .iload_n 3, 1)) ro_Law585 25 rfl
theorem d_Law_1005 : decode code 1005 = .ok (.iconst 1, 1) := am_row (r := (1005, .iconst 1, 1)) ro_Law585 26 rfl
theorem d_Law_1006 : decode code 1006 = .ok (.iadd, 1) := am_row (r := (1006, .iadd, 1)) ro_Law585 27 rfl
theorem d_Law_1007 : decode code 1007 = .ok (.iaload, 1) := am_row (r := (1007, .iaload, 1)) ro_Law585 28 rfl
theorem d_Law_1008 : decode code 1008 = .ok (.invokevirtual 151, 3) := am_row (r := (1008, .invokevirtual 151, 3)) ro_Law585 29 rfl
theorem d_Law_1011 : decode code 1011 = .ok (.if_icmp .eq 146, 3) := am_row (r := (1011, .if_icmp .eq 146, 3)) ro_Law585 30 rfl
theorem d_Law_1014 : decode code 1014 = .ok (.iconst 0, 1) := am_row (r := (1014, .iconst 0, 1)) ro_Law585 31 rfl
theorem d_Law_1015 : decode code 1015 = .ok (.ireturn, 1) := am_row (r := (1015, .ireturn, 1)) ro_Law585 32 rfl
theorem d_Law_1016 : decode code 1016 = .ok (.aload_n 1, 1) := am_row (r := (1016, .aload_n 1, 1)) ro_Law585 33 rfl
theorem d_Law_1017 : decode code 1017 = .ok (.aload_n 0, 1) := am_row (r := (1017, .aload_n 0, 1)) ro_Law585 34 rfl
theorem d_Law_1018 : decode code 1018 = .ok (.iload_n 3, 1) := am_row (r := (1018, .iload_n 3, 1)) ro_Law585 35 rfl
theorem d_Law_1019 : decode code 1019 = .ok (.iconst 1, 1) := am_row (r := (1019, .iconst 1, 1)) ro_Law585 36 rfl
theorem d_Law_1020 : decode code 1020 = .ok (.iadd, 1) := am_row (r := (1020, .iadd, 1)) ro_Law585 37 rfl
theorem d_Law_1021 : decode code 1021 = .ok (.iaload, 1) := am_row (r := (1021, .iaload, 1)) ro_Law585 38 rfl
theorem d_Law_1022 : decode code 1022 = .ok (.invokevirtual 152, 3) := am_row (r := (1022, .invokevirtual 152, 3)) ro_Law585 39 rfl
theorem d_Law_1025 : decode code 1025 = .ok (.aload_n 2, 1) := am_row (r := (1025, .aload_n 2, 1)) ro_Law585 40 rfl
theorem d_Law_1026 : decode code 1026 = .ok (.aload_n 0, 1) := am_row (r := (1026, .aload_n 0, 1)) ro_Law585 41 rfl
theorem d_Law_1027 : decode code 1027 = .ok (.iload_n 3, 1) := am_row (r := (1027, .iload_n 3, 1)) ro_Law585 42 rfl
theorem d_Law_1028 : decode code 1028 = .ok (.iconst 1, 1) := am_row (r := (1028, .iconst 1, 1)) ro_Law585 43 rfl
theorem d_Law_1029 : decode code 1029 = .ok (.iadd, 1) := am_row (r := (1029, .iadd, 1)) ro_Law585 44 rfl
