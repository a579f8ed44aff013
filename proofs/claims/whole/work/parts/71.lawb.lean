/-! THE LAW: its code, row by row -/
def rw_Law90 : List (Nat × Instr × Nat) := [(300, .aload_n 1, 1), (301, .aload_n 0, 1), (302, .iload_n 3, 1), (303, .iconst 1, 1), (304, .iadd, 1), (305, .iaload, 1), (306, .invokevirtual 25, 3), (309, .aload_n 2, 1), (310, .aload_n 0, 1), (311, .iload_n 3, 1), (312, .iconst 1, 1), (313, .iadd, 1), (314, .iaload, 1), (315, .invokevirtual 29, 3), (318, .if_icmp .eq 839, 3), (321, .iconst 0, 1), (322, .ireturn, 1), (323, .aload_n 1, 1), (324, .invokevirtual 30, 3), (327, .aload_n 2, 1), (328, .invokevirtual 34, 3), (331, .if_icmp .eq 826, 3), (334, .iconst 0, 1), (335, .ireturn, 1), (336, .aload_n 1, 1), (337, .aload_n 0, 1), (338, .iload_n 3, 1), (339, .iconst 1, 1), (340, .iadd, 1), (341, .iaload, 1), (342, .aload_n 0, 1), (343, .iload_n 3, 1), (344, .iconst 2, 1), (345, .iadd, 1), (346, .iaload, 1), (347, .aload_n 0, 1), (348, .iload_n 3, 1), (349, .iconst 3, 1), (350, .iadd, 1), (351, .iaload, 1), (352, .ifCond .eq 7, 3), (355, .iconst 1, 1), (356, .goto 4, 3), (359, .iconst 0, 1), (360, .invokevirtual 35, 3)]
theorem ro_Law90 : rw_Law90.all (fun r => decide (decode code r.1 = .ok r.2)) = true := by decide +kernel
theorem d_Law_300 : decode code 300 = .ok (.aload_n 1, 1) := am_row (r := (300, .aload_n 1, 1)) ro_Law90 0 rfl
theorem d_Law_301 : decode code 301 = .ok (.aload_n 0, 1) := am_row (r := (301, .aload_n 0, 1)) ro_Law90 1 rfl
theorem d_Law_302 : decode code 302 = .ok (.iload_n 3, 1) := am_row (r := (302, .iload_n 3, 1)) ro_Law90 2 rfl
theorem d_Law_303 : decode code 303 = .ok (.iconst 1, 1) := am_row (r := (303, .iconst 1, 1)) ro_Law90 3 rfl
theorem d_Law_304 : decode code 304 = .ok (.iadd, 1) := am_row (r := (304, .iadd, 1)) ro_Law90 4 rfl
theorem d_Law_305 : decode code 305 = .ok (.iaload, 1) := am_row (r := (305, .iaload, 1)) ro_Law90 5 rfl
theorem d_Law_306 : decode code 306 = .ok (.invokevirtual 25, 3) := am_row (r := (306, .invokevirtual 25, 3)) ro_Law90 6 rfl
theorem d_Law_309 : decode code 309 = .ok (.aload_n 2, 1) := am_row (r := (309, .aload_n 2, 1)) ro_Law90 7 rfl
theorem d_Law_310 : decode code 310 = .ok (.aload_n 0, 1) := am_row (r := (310, .aload_n 0, 1)) ro_Law90 8 rfl
theorem d_Law_311 : decode code 311 = .ok (.iload_n 3, 1) := am_row (r := (311, .iload_n 3, 1)) ro_Law90 9 rfl
theorem d_Law_312 : decode code 312 = .ok (.iconst 1, 1) := am_row (r := (312, .iconst 1, 1)) ro_Law90 10 rfl
theorem d_Law_313 : decode code 313 = .ok (.iadd, 1) := am_row (r := (313, .iadd, 1)) ro_Law90 11 rfl
theorem d_Law_314 : decode code 314 = .ok (.iaload, 1) := am_row (r := (314, .iaload, 1)) ro_Law90 12 rfl
theorem d_Law_315 : decode code 315 = .ok (.invokevirtual 29, 3) := am_row (r := (315, .invokevirtual 29, 3)) ro_Law90 13 rfl
theorem d_Law_318 : decode code 318 = .ok (.if_icmp .eq 839, 3) := am_row (r := (318, .if_icmp .eq 839, 3)) ro_Law90 14 rfl
theorem d_Law_321 : decode code 321 = .ok (.iconst 0, 1) := am_row (r := (321, .iconst 0, 1)) ro_Law90 15 rfl
theorem d_Law_322 : decode code 322 = .ok (.ireturn, 1) := am_row (r := (322, .ireturn, 1)) ro_Law90 16 rfl
theorem d_Law_323 : decode code 323 = .ok (.aload_n 1, 1) := am_row (r := (323, .aload_n 1, 1)) ro_Law90 17 rfl
theorem d_Law_324 : decode code 324 = .ok (.invokevirtual 30, 3) := am_row (r := (324, .invokevirtual 30, 3)) ro_Law90 18 rfl
theorem d_Law_327 : decode code 327 = .ok (.aload_n 2, 1) := am_row (r := (327, .aload_n 2, 1)) ro_Law90 19 rfl
theorem d_Law_328 : decode code 328 = .ok (.invokevirtual 34, 3) := am_row (r := (328, .invokevirtual 34, 3)) ro_Law90 20 rfl
theorem d_Law_331 : decode code 331 = .ok (.if_icmp .eq 826, 3) := am_row (r := (331, .if_icmp .eq 826, 3)) ro_Law90 21 rfl
theorem d_Law_334 : decode code 334 = .ok (.iconst 0, 1) := am_row (r := (334, .iconst 0, 1)) ro_Law90 22 rfl
theorem d_Law_335 : decode code 335 = .ok (.ireturn, 1) := am_row (r := (335, .ireturn, 1)) ro_Law90 23 rfl
theorem d_Law_336 : decode code 336 = .ok (.aload_n 1, 1) := am_row (r := (336, .aload_n 1, 1)) ro_Law90 24 rfl
theorem d_Law_337 : decode code 337 = .ok (.aload_n 0, 1) := am_row (r := (337, .aload_n 0, 1)) ro_Law90 25 rfl
theorem d_Law_338 : decode code 338 = .ok (.iload_n 3, 1) := am_row (r := (338, .iload_n 3, 1)) ro_Law90 26 rfl
theorem d_Law_339 : decode code 339 = .ok (.iconst 1, 1) := am_row (r := (339, .iconst 1, 1)) ro_Law90 27 rfl
theorem d_Law_340 : decode code 340 = .ok (.iadd, 1) := am_row (r := (340, .iadd, 1)) ro_Law90 28 rfl
theorem d_Law_341 : decode code 341 = .ok (.iaload, 1) := am_row (r := (341, .iaload, 1)) ro_Law90 29 rfl
theorem d_Law_342 : decode code 342 = .ok (.aload_n 0, 1) := am_row (r := (342, .aload_n 0, 1)) ro_Law90 30 rfl
theorem d_Law_343 : decode code 343 = .ok (.iload_n 3, 1) := am_row (r := (343, .iload_n 3, 1)) ro_Law90 31 rfl
theorem d_Law_344 : decode code 344 = .ok (.iconst 2, 1) := am_row (r := (344, .iconst 2, 1)) ro_Law90 32 rfl
theorem d_Law_345 : decode code 345 = .ok (.iadd, 1) := am_row (r := (345, .iadd, 1)) ro_Law90 33 rfl
theorem d_Law_346 : decode code 346 = .ok (.iaload, 1) := am_row (r := (346, .iaload, 1)) ro_Law90 34 rfl
theorem d_Law_347 : decode code 347 = .ok (.aload_n 0, 1) := am_row (r := (347, .aload_n 0, 1)) ro_Law90 35 rfl
theorem d_Law_348 : decode code 348 = .ok (.iload_n 3, 1) := am_row (r := (348, .iload_n 3, 1)) ro_Law90 36 rfl
theorem d_Law_349 : decode code 349 = .ok (.iconst 3, 1) := am_row (r := (349, .iconst 3, 1)) ro_Law90 37 rfl
theorem d_Law_350 : decode code 350 = .ok (.iadd, 1) := am_row (r := (350, .iadd, 1)) ro_Law90 38 rfl
theorem d_Law_351 : decode code 351 = .ok (.iaload, 1) := am_row (r := (351, .iaload, 1)) ro_Law90 39 rfl
theorem d_Law_352 : decode code 352 = .ok (.ifCond .eq 7, 3) := am_row (r := (352, .ifCond .eq 7, 3)) ro_Law90 40 rfl
theorem d_Law_355 : decode code 355 = .ok (.iconst 1, 1) := am_row (r := (355, .iconst 1, 1)) ro_Law90 41 rfl
theorem d_Law_356 : decode code 356 = .ok (.goto 4, 3) := am_row (r := (356, .goto 4, 3)) ro_Law90 42 rfl
theorem d_Law_359 : decode code 359 = .ok (.iconst 0, 1) := am_row (r := (359, .iconst 0, 1)) ro_Law90 43 rfl
theorem d_Law_360 : decode code 360 = .ok (.invokevirtual 35, 3) := am_row (r := (360, .invokevirtual 35, 3)) ro_Law90 44 rfl
def rw_Law135 : List (Nat × Instr × Nat) := [(363, .aload_n 2, 1), (364, .aload_n 0, 1), (365, .iload_n 3, 1), (366, .iconst 1, 1), (367, .iadd, 1), (368, .iaload, 1), (369, .aload_n 0, 1), (370, .iload_n 3, 1), (371, .iconst 2, 1), (372, .iadd, 1), (373, .iaload, 1), (374, .aload_n 0, 1), (375, .iload_n 3, 1), (376, .iconst 3, 1), (377, .iadd, 1), (378, .iaload, 1), (379, .ifCond .eq 7, 3), (382, .iconst 1, 1), (383, .goto 4, 3), (386, .iconst 0, 1), (387, .invokevirtual 39, 3), (390, .if_icmp .eq 767, 3), (393, .iconst 0, 1), (394, .ireturn, 1), (395, .aload_n 1, 1), (396, .aload_n 0, 1), (397, .iload_n 3, 1), (398, .iconst 1, 1), (399, .iadd, 1), (400, .iaload, 1), (401, .aload_n 0, 1), (402, .iload_n 3, 1), (403, .iconst 2, 1), (404, .iadd, 1), (405, .iaload, 1), (406, .invokevirtual 40, 3), (409, .aload_n 2, 1), (410, .aload_n 0, 1), (411, .iload_n 3, 1), (412, .iconst 1, 1), (413, .iadd, 1), (414, .iaload, 1), (415, .aload_n 0, 1), (416, .iload_n 3, 1), (417, .iconst 2, 1)]
theorem ro_Law135 : rw_Law135.all (fun r => decide (decode code r.1 = .ok r.2)) = true := by decide +kernel
theorem d_Law_363 : decode code 363 = .ok (.aload_n 2, 1) := am_row (r := (363, .aload_n 2, 1)) ro_Law135 0 rfl
theorem d_Law_364 : decode code 364 = .ok (.aload_n 0, 1) := am_row (r := (364, .aload_n 0, 1)) ro_Law135 1 rfl
theorem d_Law_365 : decode code 365 = .ok (.iload_n 3, 1) := am_row (r := (365, .iload_n 3, 1)) ro_Law135 2 rfl
theorem d_Law_366 : decode code 366 = .ok (.iconst 1, 1) := am_row (r := (366, .iconst 1, 1)) ro_Law135 3 rfl
theorem d_Law_367 : decode code 367 = .ok (.iadd, 1) := am_row (r := (367, .iadd, 1)) ro_Law135 4 rfl
theorem d_Law_368 : decode code 368 = .ok (.iaload, 1) := am_row (r := (368, .iaload, 1)) ro_Law135 5 rfl
theorem d_Law_369 : decode code 369 = .ok (.aload_n 0, 1) := am_row (r := (369, .aload_n 0, 1)) ro_Law135 6 rfl
theorem d_Law_370 : decode code 370 = .ok (.iload_n 3, 1) := am_row (r := (370, .iload_n 3, 1)) ro_Law135 7 rfl
theorem d_Law_371 : decode code 371 = .ok (.iconst 2, 1) := am_row (r := (371, .iconst 2, 1)) ro_Law135 8 rfl
theorem d_Law_372 : decode code 372 = .ok (.iadd, 1) := am_row (r := (372, .iadd, 1)) ro_Law135 9 rfl
theorem d_Law_373 : decode code 373 = .ok (.iaload, 1) := am_row (r := (373, .iaload, 1)) ro_Law135 10 rfl
theorem d_Law_374 : decode code 374 = .ok (.aload_n 0, 1) := am_row (r := (374, .aload_n 0, 1)) ro_Law135 11 rfl
theorem d_Law_375 : decode code 375 = .ok (.iload_n 3, 1) := am_row (r := (375, .iload_n 3, 1)) ro_Law135 12 rfl
theorem d_Law_376 : decode code 376 = .ok (.iconst 3, 1) := am_row (r := (376, .iconst 3, 1)) ro_Law135 13 rfl
theorem d_Law_377 : decode code 377 = .ok (.iadd, 1) := am_row (r := (377, .iadd, 1)) ro_Law135 14 rfl
theorem d_Law_378 : decode code 378 = .ok (.iaload, 1) := am_row (r := (378, .iaload, 1)) ro_Law135 15 rfl
theorem d_Law_379 : decode code 379 = .ok (.ifCond .eq 7, 3) := am_row (r := (379, .ifCond .eq 7, 3)) ro_Law135 16 rfl
theorem d_Law_382 : decode code 382 = .ok (.iconst 1, 1) := am_row (r := (382, .iconst 1, 1)) ro_Law135 17 rfl
theorem d_Law_383 : decode code 383 = .ok (.goto 4, 3) := am_row (r := (383, .goto 4, 3)) ro_Law135 18 rfl
theorem d_Law_386 : decode code 386 = .ok (.iconst 0, 1) := am_row (r := (386, .iconst 0, 1)) ro_Law135 19 rfl
theorem d_Law_387 : decode code 387 = .ok (.invokevirtual 39, 3) := am_row (r := (387, .invokevirtual 39, 3)) ro_Law135 20 rfl
theorem d_Law_390 : decode code 390 = .ok (.if_icmp .eq 767, 3) := am_row (r := (390, .if_icmp .eq 767, 3)) ro_Law135 21 rfl
theorem d_Law_393 : decode code 393 = .ok (.iconst 0, 1) := am_row (r := (393, .iconst 0, 1)) ro_Law135 22 rfl
theorem d_Law_394 : decode code 394 = .ok (.ireturn, 1) := am_row (r := (394, .ireturn, 1)) ro_Law135 23 rfl
theorem d_Law_395 : decode code 395 = .ok (.aload_n 1, 1) := am_row (r := (395, .aload_n 1, 1)) ro_Law135 24 rfl
theorem d_Law_396 : decode code 396 = .ok (.aload_n 0, 1) := am_row (r := (396, .aload_n 0, 1)) ro_Law135 25 rfl
theorem d_Law_397 : decode code 397 = .ok (.iload_n 3, 1) := am_row (r := (397, .iload_n 3, 1)) ro_Law135 26 rfl
theorem d_Law_398 : decode code 398 = .ok (.iconst 1, 1) := am_row (r := (398, .iconst 1, 1)) ro_Law135 27 rfl
theorem d_Law_399 : decode code 399 = .ok (.iadd, 1) := am_row (r := (399, .iadd, 1)) ro_Law135 28 rfl
theorem d_Law_400 : decode code 400 = .ok (.iaload, 1) := am_row (r := (400, .iaload, 1)) ro_Law135 29 rfl
theorem d_Law_401 : decode code 401 = .ok (.aload_n 0, 1) := am_row (r := (401, .aload_n 0, 1)) ro_Law135 30 rfl
theorem d_Law_402 : decode code 402 = .ok (.iload_n 3, 1) := am_row (r := (402, .iload_n 3, 1)) ro_Law135 31 rfl
theorem d_Law_403 : decode code 403 = .ok (.iconst 2, 1) := am_row (r := (403, .iconst 2, 1)) ro_Law135 32 rfl
theorem d_Law_404 : decode code 404 = .ok (.iadd, 1) := am_row (r := (404, .iadd, 1)) ro_Law135 33 rfl
theorem d_Law_405 : decode code 405 = .ok (.iaload, 1) := am_row (r := (405, .iaload, 1)) ro_Law135 34 rfl
theorem d_Law_406 : decode code 406 = .ok (.invokevirtual 40, 3) := am_row (r := (406, .invokevirtual 40, 3)) ro_Law135 35 rfl
theorem d_Law_409 : decode code 409 = .ok (.aload_n 2, 1) := am_row (r := (409, .aload_n 2, 1)) ro_Law135 36 rfl
theorem d_Law_410 : decode code 410 = .ok (.aload_n 0, 1) := am_row (r := (410, .aload_n 0, 1)) ro_Law135 37 rfl
theorem d_Law_411 : decode code 411 = .ok (.iload_n 3, 1) := am_row (r := (411, .iload_n 3, 1)) ro_Law135 38 rfl
theorem d_Law_412 : decode code 412 = .ok (.iconst 1, 1) := am_row (r := (412, .iconst 1, 1)) ro_Law135 39 rfl
theorem d_Law_413 : decode code 413 = .ok (.iadd, 1) := am_row (r := (413, .iadd, 1)) ro_Law135 40 rfl
theorem d_Law_414 : decode code 414 = .ok (.iaload, 1) := am_row (r := (414, .iaload, 1)) ro_Law135 41 rfl
theorem d_Law_415 : decode code 415 = .ok (.aload_n 0, 1) := am_row (r := (415, .aload_n 0, 1)) ro_Law135 42 rfl
theorem d_Law_416 : decode code 416 = .ok (.iload_n 3, 1) := am_row (r := (416, .iload_n 3, 1)) ro_Law135 43 rfl
theorem d_Law_417 : decode code 417 = .ok (.iconst 2, 1) := am_row (r := (417, .iconst 2, 1)) ro_Law135 44 rfl
