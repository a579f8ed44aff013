/-! THE LAW: its code, row by row -/
def rw_Law0 : List (Nat × Instr × Nat) := [(18, .iload_n 3, 1), (19, .aload_n 0, 1), (20, .arraylength, 1), (21, .iconst 4, 1), (22, .isub, 1), (23, .if_icmp .gt 1140, 3), (26, .aload_n 0, 1), (27, .iload_n 3, 1), (28, .iaload, 1), (29, .bipush 63, 2), (31, .iand, 1), (32, .tableswitch 1125 0 38 #[172, 205, 268, 291, 304, 363, 396, 419, 442, 455, 488, 501, 524, 547, 580, 603, 636, 659, 692, 705, 718, 731, 754, 767, 780, 813, 846, 889, 912, 935, 948, 961, 984, 1007, 1020, 1043, 1076, 1099, 1112], 172), (204, .aload_n 1, 1), (205, .aload_n 0, 1), (206, .iload_n 3, 1), (207, .iconst 1, 1), (208, .iadd, 1), (209, .iaload, 1), (210, .aload_n 0, 1), (211, .iload_n 3, 1), (212, .iconst 2, 1), (213, .iadd, 1), (214, .iaload, 1), (215, .invokevirtual 13, 3), (218, .aload_n 2, 1), (219, .aload_n 0, 1), (220, .iload_n 3, 1), (221, .iconst 1, 1), (222, .iadd, 1), (223, .iaload, 1), (224, .aload_n 0, 1), (225, .iload_n 3, 1), (226, .iconst 2, 1), (227, .iadd, 1), (228, .iaload, 1), (229, .invokevirtual 17, 3), (232, .if_icmp .eq 925, 3), (235, .iconst 0, 1), (236, .ireturn, 1), (237, .aload_n 1, 1), (238, .aload_n 0, 1), (239, .iload_n 3, 1), (240, .iconst 1, 1), (241, .iadd, 1), (242, .iaload, 1)]
theorem ro_Law0 : rw_Law0.all (fun r => decide (decode code r.1 = .ok r.2)) = true := by decide +kernel
theorem d_Law_18 : decode code 18 = .ok (.iload_n 3, 1) := am_row (r := (18, .iload_n 3, 1)) ro_Law0 0 rfl
theorem d_Law_19 : decode code 19 = .ok (.aload_n 0, 1) := am_row (r := (19, .aload_n 0, 1)) ro_Law0 1 rfl
theorem d_Law_20 : decode code 20 = .ok (.arraylength, 1) := am_row (r := (20, .arraylength, 1)) ro_Law0 2 rfl
theorem d_Law_21 : decode code 21 = .ok (.iconst 4, 1) := am_row (r := (21, .iconst 4, 1)) ro_Law0 3 rfl
theorem d_Law_22 : decode code 22 = .ok (.isub, 1) := am_row (r := (22, .isub, 1)) ro_Law0 4 rfl
theorem d_Law_23 : decode code 23 = .ok (.if_icmp .gt 1140, 3) := am_row (r := (23, .if_icmp .gt 1140, 3)) ro_Law0 5 rfl
theorem d_Law_26 : decode code 26 = .ok (.aload_n 0, 1) := am_row (r := (26, .aload_n 0, 1)) ro_Law0 6 rfl
theorem d_Law_27 : decode code 27 = .ok (.iload_n 3, 1) := am_row (r := (27, .iload_n 3, 1)) ro_Law0 7 rfl
theorem d_Law_28 : decode code 28 = .ok (.iaload, 1) := am_row (r := (28, .iaload, 1)) ro_Law0 8 rfl
theorem d_Law_29 : decode code 29 = .ok (.bipush 63, 2) := am_row (r := (29, .bipush 63, 2)) ro_Law0 9 rfl
theorem d_Law_31 : decode code 31 = .ok (.iand, 1) := am_row (r := (31, .iand, 1)) ro_Law0 10 rfl
theorem d_Law_32 : decode code 32 = .ok (.tableswitch 1125 0 38 #[172, 205, 268, 291, 304, 363, 396, 419, 442, 455, 488, 501, 524, 547, 580, 603, 636, 659, 692, 705, 718, 731, 754, 767, 780, 813, 846, 889, 912, 935, 948, 961, 984, 1007, 1020, 1043, 1076, 1099, 1112], 172) := am_row (r := (32, .tableswitch 1125 0 38 #[172, 205, 268, 291, 304, 363, 396, 419, 442, 455, 488, 501, 524, 547, 580, 603, 636, 659, 692, 705, 718, 731, 754, 767, 780, 813, 846, 889, 912, 935, 948, 961, 984, 1007, 1020, 1043, 1076, 1099, 1112], 172)) ro_Law0 11 rfl
theorem d_Law_204 : decode code 204 = .ok (.aload_n 1, 1) := am_row (r := (204, .aload_n 1, 1)) ro_Law0 12 rfl
theorem d_Law_205 : decode code 205 = .ok (.aload_n 0, 1) := am_row (r := (205, .aload_n 0, 1)) ro_Law0 13 rfl
theorem d_Law_206 : decode code 206 = .ok (.iload_n 3, 1) := am_row (r := (206, .iload_n 3, 1)) ro_Law0 14 rfl
theorem d_Law_207 : decode code 207 = .ok (.iconst 1, 1) := am_row (r := (207, .iconst 1, 1)) ro_Law0 15 rfl
theorem d_Law_208 : decode code 208 = .ok (.iadd, 1) := am_row (r := (208, .iadd, 1)) ro_Law0 16 rfl
theorem d_Law_209 : decode code 209 = .ok (.iaload, 1) := am_row (r := (209, .iaload, 1)) ro_Law0 17 rfl
theorem d_Law_210 : decode code 210 = .ok (.aload_n 0, 1) := am_row (r := (210, .aload_n 0, 1)) ro_Law0 18 rfl
theorem d_Law_211 : decode code 211 = .ok (.iload_n 3, 1) := am_row (r := (211, .iload_n 3, 1)) ro_Law0 19 rfl
theorem d_Law_212 : decode code 212 = .ok (.iconst 2, 1) := am_row (r := (212, .iconst 2, 1)) ro_Law0 20 rfl
theorem d_Law_213 : decode code 213 = .ok (.iadd, 1) := am_row (r := (213, .iadd, 1)) ro_Law0 21 rfl
theorem d_Law_214 : decode code 214 = .ok (.iaload, 1) := am_row (r := (214, .iaload, 1)) ro_Law0 22 rfl
theorem d_Law_215 : decode code 215 = .ok (.invokevirtual 13, 3) := am_row (r := (215, .invokevirtual 13, 3)) ro_Law0 23 rfl
theorem d_Law_218 : decode code 218 = .ok (.aload_n 2, 1) := am_row (r := (218, .aload_n 2, 1)) ro_Law0 24 rfl
theorem d_Law_219 : decode code 219 = .ok (.aload_n 0, 1) := am_row (r := (219, .aload_n 0, 1)) ro_Law0 25 rfl
theorem d_Law_220 : decode code 220 = .ok (.iload_n 3, 1) := am_row (r := (220, .iload_n 3, 1)) ro_Law0 26 rfl
theorem d_Law_221 : decode code 221 = .ok (.iconst 1, 1) := am_row (r := (221, .iconst 1, 1)) ro_Law0 27 rfl
theorem d_Law_222 : decode code 222 = .ok (.iadd, 1) := am_row (r := (222, .iadd, 1)) ro_Law0 28 rfl
theorem d_Law_223 : decode code 223 = .ok (.iaload, 1) := am_row (r := (223, .iaload, 1)) ro_Law0 29 rfl
theorem d_Law_224 : decode code 224 = .ok (.aload_n 0, 1) := am_row (r := (224, .aload_n 0, 1)) ro_Law0 30 rfl
theorem d_Law_225 : decode code 225 = .ok (.iload_n 3, 1) := am_row (r := (225, .iload_n 3, 1)) ro_Law0 31 rfl
theorem d_Law_226 : decode code 226 = .ok (.iconst 2, 1) := am_row (r := (226, .iconst 2, 1)) ro_Law0 32 rfl
theorem d_Law_227 : decode code 227 = .ok (.iadd, 1) := am_row (r := (227, .iadd, 1)) ro_Law0 33 rfl
theorem d_Law_228 : decode code 228 = .ok (.iaload, 1) := am_row (r := (228, .iaload, 1)) ro_Law0 34 rfl
theorem d_Law_229 : decode code 229 = .ok (.invokevirtual 17, 3) := am_row (r := (229, .invokevirtual 17, 3)) ro_Law0 35 rfl
theorem d_Law_232 : decode code 232 = .ok (.if_icmp .eq 925, 3) := am_row (r := (232, .if_icmp .eq 925, 3)) ro_Law0 36 rfl
theorem d_Law_235 : decode code 235 = .ok (.iconst 0, 1) := am_row (r := (235, .iconst 0, 1)) ro_Law0 37 rfl
theorem d_Law_236 : decode code 236 = .ok (.ireturn, 1) := am_row (r := (236, .ireturn, 1)) ro_Law0 38 rfl
theorem d_Law_237 : decode code 237 = .ok (.aload_n 1, 1) := am_row (r := (237, .aload_n 1, 1)) ro_Law0 39 rfl
theorem d_Law_238 : decode code 238 = .ok (.aload_n 0, 1) := am_row (r := (238, .aload_n 0, 1)) ro_Law0 40 rfl
theorem d_Law_239 : decode code 239 = .ok (.iload_n 3, 1) := am_row (r := (239, .iload_n 3, 1)) ro_Law0 41 rfl
theorem d_Law_240 : decode code 240 = .ok (.iconst 1, 1) := am_row (r := (240, .iconst 1, 1)) ro_Law0 42 rfl
theorem d_Law_241 : decode code 241 = .ok (.iadd, 1) := am_row (r := (241, .iadd, 1)) ro_Law0 43 rfl
theorem d_Law_242 : decode code 242 = .ok (.iaload, 1) := am_row (r := (242, .iaload, 1)) ro_Law0 44 rfl
def rw_Law45 : List (Nat × Instr × Nat) := [(243, .aload_n 0, 1), (244, .iload_n 3, 1), (245, .iconst 2, 1), (246, .iadd, 1), (247, .iaload, 1), (248, .i2l, 1), (249, .bipush 32, 2), (251, .lshl, 1), (252, .aload_n 0, 1), (253, .iload_n 3, 1), (254, .iconst 3, 1), (255, .iadd, 1), (256, .iaload, 1), (257, .i2l, 1), (258, .ldc2_w 18, 3), (261, .land, 1), (262, .lor, 1), (263, .invokevirtual 20, 3), (266, .aload_n 2, 1), (267, .aload_n 0, 1), (268, .iload_n 3, 1), (269, .iconst 1, 1), (270, .iadd, 1), (271, .iaload, 1), (272, .aload_n 0, 1), (273, .iload_n 3, 1), (274, .iconst 2, 1), (275, .iadd, 1), (276, .iaload, 1), (277, .i2l, 1), (278, .bipush 32, 2), (280, .lshl, 1), (281, .aload_n 0, 1), (282, .iload_n 3, 1), (283, .iconst 3, 1), (284, .iadd, 1), (285, .iaload, 1), (286, .i2l, 1), (287, .ldc2_w 18, 3), (290, .land, 1), (291, .lor, 1), (292, .invokevirtual 24, 3), (295, .if_icmp .eq 862, 3), (298, .iconst 0, 1), (299, .ireturn, 1)]
theorem ro_Law45 : rw_Law45.all (fun r => decide (decode code r.1 = .ok r.2)) = true := by decide +kernel
theorem d_Law_243 : decode code 243 = .ok (.aload_n 0, 1) := am_row (r := (243, .aload_n 0, 1)) ro_Law45 0 rfl
theorem d_Law_244 : decode code 244 = .ok (.iload_n 3, 1) := am_row (r := (244, .iload_n 3, 1)) ro_Law45 1 rfl
theorem d_Law_245 : decode code 245 = .ok (.iconst 2, 1) := am_row (r := (245, .iconst 2, 1)) ro_Law45 2 rfl
theorem d_Law_246 : decode code 246 = .ok (.iadd, 1) := am_row (r := (246, .iadd, 1)) ro_Law45 3 rfl
theorem d_Law_247 : decode code 247 = .ok (.iaload, 1) := am_row (r := (247, .iaload, 1)) ro_Law45 4 rfl
theorem d_Law_248 : decode code 248 = .ok (.i2l, 1) := am_row (r := (248, .i2l, 1)) ro_Law45 5 rfl
theorem d_Law_249 : decode code 249 = .ok (.bipush 32, 2) := am_row (r := (249, .bipush 32, 2)) ro_Law45 6 rfl
theorem d_Law_251 : decode code 251 = .ok (.lshl, 1) := am_row (r := (251, .lshl, 1)) ro_Law45 7 rfl
theorem d_Law_252 : decode code 252 = .ok (.aload_n 0, 1) := am_row (r := (252, .aload_n 0, 1)) ro_Law45 8 rfl
theorem d_Law_253 : decode code 253 = .ok (.iload_n 3, 1) := am_row (r := (253, .iload_n 3, 1)) ro_Law45 9 rfl
theorem d_Law_254 : decode code 254 = .ok (.iconst 3, 1) := am_row (r := (254, .iconst 3, 1)) ro_Law45 10 rfl
theorem d_Law_255 : decode code 255 = .ok (.iadd, 1) := am_row (r := (255, .iadd, 1)) ro_Law45 11 rfl
theorem d_Law_256 : decode code 256 = .ok (.iaload, 1) := am_row (r := (256, .iaload, 1)) ro_Law45 12 rfl
theorem d_Law_257 : decode code 257 = .ok (.i2l, 1) := am_row (r := (257, .i2l, 1)) ro_Law45 13 rfl
theorem d_Law_258 : decode code 258 = .ok (.ldc2_w 18, 3) := am_row (r := (258, .ldc2_w 18, 3)) ro_Law45 14 rfl
theorem d_Law_261 : decode code 261 = .ok (.land, 1) := am_row (r := (261, .land, 1)) ro_Law45 15 rfl
theorem d_Law_262 : decode code 262 = .ok (.lor, 1) := am_row (r := (262, .lor, 1)) ro_Law45 16 rfl
theorem d_Law_263 : decode code 263 = .ok (.invokevirtual 20, 3) := am_row (r := (263, .invokevirtual 20, 3)) ro_Law45 17 rfl
theorem d_Law_266 : decode code 266 = .ok (.aload_n 2, 1) := am_row (r := (266, .aload_n 2, 1)) ro_Law45 18 rfl
theorem d_Law_267 : decode code 267 = .ok (.aload_n 0, 1) := am_row (r := (267, .aload_n 0, 1)) ro_Law45 19 rfl
theorem d_Law_268 : decode code 268 = .ok (.iload_n 3, 1) := am_row (r := (268, .iload_n 3, 1)) ro_Law45 20 rfl
theorem d_Law_269 : decode code 269 = .ok (.iconst 1, 1) := am_row (r := (269, .iconst 1, 1)) ro_Law45 21 rfl
theorem d_Law_270 : decode code 270 = .ok (.iadd, 1) := am_row (r := (270, .iadd, 1)) ro_Law45 22 rfl
theorem d_Law_271 : decode code 271 = .ok (.iaload, 1) := am_row (r := (271, .iaload, 1)) ro_Law45 23 rfl
theorem d_Law_272 : decode code 272 = .ok (.aload_n 0, 1) := am_row (r := (272, .aload_n 0, 1)) ro_Law45 24 rfl
theorem d_Law_273 : decode code 273 = .ok (.iload_n 3, 1) := am_row (r := (273, .iload_n 3, 1)) ro_Law45 25 rfl
theorem d_Law_274 : decode code 274 = .ok (.iconst 2, 1) := am_row (r := (274, .iconst 2, 1)) ro_Law45 26 rfl
theorem d_Law_275 : decode code 275 = .ok (.iadd, 1) := am_row (r := (275, .iadd, 1)) ro_Law45 27 rfl
theorem d_Law_276 : decode code 276 = .ok (.iaload, 1) := am_row (r := (276, .iaload, 1)) ro_Law45 28 rfl
theorem d_Law_277 : decode code 277 = .ok (.i2l, 1) := am_row (r := (277, .i2l, 1)) ro_Law45 29 rfl
theorem d_Law_278 : decode code 278 = .ok (.bipush 32, 2) := am_row (r := (278, .bipush 32, 2)) ro_Law45 30 rfl
theorem d_Law_280 : decode code 280 = .ok (.lshl, 1) := am_row (r := (280, .lshl, 1)) ro_Law45 31 rfl
theorem d_Law_281 : decode code 281 = .ok (.aload_n 0, 1) := am_row (r := (281, .aload_n 0, 1)) ro_Law45 32 rfl
theorem d_Law_282 : decode code 282 = .ok (.iload_n 3, 1) := am_row (r := (282, .iload_n 3, 1)) ro_Law45 33 rfl
theorem d_Law_283 : decode code 283 = .ok (.iconst 3, 1) := am_row (r := (283, .iconst 3, 1)) ro_Law45 34 rfl
theorem d_Law_284 : decode code 284 = .ok (.iadd, 1) := am_row (r := (284, .iadd, 1)) ro_Law45 35 rfl
theorem d_Law_285 : decode code 285 = .ok (.iaload, 1) := am_row (r := (285, .iaload, 1)) ro_Law45 36 rfl
theorem d_Law_286 : decode code 286 = .ok (.i2l, 1) := am_row (r := (286, .i2l, 1)) ro_Law45 37 rfl
theorem d_Law_287 : decode code 287 = .ok (.ldc2_w 18, 3) := am_row (r := (287, .ldc2_w 18, 3)) ro_Law45 38 rfl
theorem d_Law_290 : decode code 290 = .ok (.land, 1) := am_row (r := (290, .land, 1)) ro_Law45 39 rfl
theorem d_Law_291 : decode code 291 = .ok (.lor, 1) := am_row (r := (291, .lor, 1)) ro_Law45 40 rfl
theorem d_Law_292 : decode code 292 = .ok (.invokevirtual 24, 3) := am_row (r := (292, .invokevirtual 24, 3)) ro_Law45 41 rfl
theorem d_Law_295 : decode code 295 = .ok (.if_icmp .eq 862, 3) := am_row (r := (295, .if_icmp .eq 862, 3)) ro_Law45 42 rfl
theorem d_Law_298 : decode code 298 = .ok (.iconst 0, 1) := am_row (r := (298, .iconst 0, 1)) ro_Law45 43 rfl
theorem d_Law_299 : decode code 299 = .ok (.ireturn, 1) := am_row (r := (299, .ireturn, 1)) ro_Law45 44 rfl
