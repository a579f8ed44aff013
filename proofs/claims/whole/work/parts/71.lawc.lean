/-! THE LAW: its code, row by row -/
def rw_Law180 : List (Nat × Instr × Nat) := [(418, .iadd, 1), (419, .iaload, 1), (420, .invokevirtual 43, 3), (423, .if_icmp .eq 734, 3), (426, .iconst 0, 1), (427, .ireturn, 1), (428, .aload_n 1, 1), (429, .aload_n 0, 1), (430, .iload_n 3, 1), (431, .iconst 1, 1), (432, .iadd, 1), (433, .iaload, 1), (434, .invokevirtual 44, 3), (437, .aload_n 2, 1), (438, .aload_n 0, 1), (439, .iload_n 3, 1), (440, .iconst 1, 1), (441, .iadd, 1), (442, .iaload, 1), (443, .invokevirtual 48, 3), (446, .if_icmp .eq 711, 3), (449, .iconst 0, 1), (450, .ireturn, 1), (451, .aload_n 1, 1), (452, .aload_n 0, 1), (453, .iload_n 3, 1), (454, .iconst 1, 1), (455, .iadd, 1), (456, .iaload, 1), (457, .invokevirtual 49, 3), (460, .aload_n 2, 1), (461, .aload_n 0, 1), (462, .iload_n 3, 1), (463, .iconst 1, 1), (464, .iadd, 1), (465, .iaload, 1), (466, .invokevirtual 52, 3), (469, .if_icmp .eq 688, 3), (472, .iconst 0, 1), (473, .ireturn, 1), (474, .aload_n 1, 1), (475, .invokevirtual 53, 3), (478, .aload_n 2, 1), (479, .invokevirtual 57, 3), (482, .if_icmp .eq 675, 3)]
theorem ro_Law180 : rw_Law180.all (fun r => decide (decode code r.1 = .ok r.2)) = true := by decide +kernel
theorem d_Law_418 : decode code 418 = .ok (.iadd, 1) := am_row (r := (418, .iadd, 1)) ro_Law180 0 rfl
theorem d_Law_419 : decode code 419 = .ok (.iaload, 1) := am_row (r := (419, .iaload, 1)) ro_Law180 1 rfl
theorem d_Law_420 : decode code 420 = .ok (.invokevirtual 43, 3) := am_row (r := (420, .invokevirtual 43, 3)) ro_Law180 2 rfl
theorem d_Law_423 : decode code 423 = .ok (.if_icmp .eq 734, 3) := am_row (r := (423, .if_icmp .eq 734, 3)) ro_Law180 3 rfl
theorem d_Law_426 : decode code 426 = .ok (.iconst 0, 1) := am_row (r := (426, .iconst 0, 1)) ro_Law180 4 rfl
theorem d_Law_427 : decode code 427 = .ok (.ireturn, 1) := am_row (r := (427, .ireturn, 1)) ro_Law180 5 rfl
theorem d_Law_428 : decode code 428 = .ok (.aload_n 1, 1) := am_row (r := (428, .aload_n 1, 1)) ro_Law180 6 rfl
theorem d_Law_429 : decode code 429 = .ok (.aload_n 0, 1) := am_row (r := (429, .aload_n 0, 1)) ro_Law180 7 rfl
theorem d_Law_430 : decode code 430 = .ok (.iload_n 3, 1) := am_row (r := (430, .iload_n 3, 1)) ro_Law180 8 rfl
theorem d_Law_431 : decode code 431 = .ok (.iconst 1, 1) := am_row (r := (431, .iconst 1, 1)) ro_Law180 9 rfl
theorem d_Law_432 : decode code 432 = .ok (.iadd, 1) := am_row (r := (432, .iadd, 1)) ro_Law180 10 rfl
theorem d_Law_433 : decode code 433 = .ok (.iaload, 1) := am_row (r := (433, .iaload, 1)) ro_Law180 11 rfl
theorem d_Law_434 : decode code 434 = .ok (.invokevirtual 44, 3) := am_row (r := (434, .invokevirtual 44, 3)) ro_Law180 12 rfl
theorem d_Law_437 : decode code 437 = .ok (.aload_n 2, 1) := am_row (r := (437, .aload_n 2, 1)) ro_Law180 13 rfl
theorem d_Law_438 : decode code 438 = .ok (.aload_n 0, 1) := am_row (r := (438, .aload_n 0, 1)) ro_Law180 14 rfl
theorem d_Law_439 : decode code 439 = .ok (.iload_n 3, 1) := am_row (r := (439, .iload_n 3, 1)) ro_Law180 15 rfl
theorem d_Law_440 : decode code 440 = .ok (.iconst 1, 1) := am_row (r := (440, .iconst 1, 1)) ro_Law180 16 rfl
theorem d_Law_441 : decode code 441 = .ok (.iadd, 1) := am_row (r := (441, .iadd, 1)) ro_Law180 17 rfl
theorem d_Law_442 : decode code 442 = .ok (.iaload, 1) := am_row (r := (442, .iaload, 1)) ro_Law180 18 rfl
theorem d_Law_443 : decode code 443 = .ok (.invokevirtual 48, 3) := am_row (r := (443, .invokevirtual 48, 3)) ro_Law180 19 rfl
theorem d_Law_446 : decode code 446 = .ok (.if_icmp .eq 711, 3) := am_row (r := (446, .if_icmp .eq 711, 3)) ro_Law180 20 rfl
theorem d_Law_449 : decode code 449 = .ok (.iconst 0, 1) := am_row (r := (449, .iconst 0, 1)) ro_Law180 21 rfl
theorem d_Law_450 : decode code 450 = .ok (.ireturn, 1) := am_row (r := (450, .ireturn, 1)) ro_Law180 22 rfl
theorem d_Law_451 : decode code 451 = .ok (.aload_n 1, 1) := am_row (r := (451, .aload_n 1, 1)) ro_Law180 23 rfl
theorem d_Law_452 : decode code 452 = .ok (.aload_n 0, 1) := am_row (r := (452, .aload_n 0, 1)) ro_Law180 24 rfl
theorem d_Law_453 : decode code 453 = .ok (.iload_n 3, 1) := am_row (r := (453, .iload_n 3, 1)) ro_Law180 25 rfl
theorem d_Law_454 : decode code 454 = .ok (.iconst 1, 1) := am_row (r := (454, .iconst 1, 1)) ro_Law180 26 rfl
theorem d_Law_455 : decode code 455 = .ok (.iadd, 1) := am_row (r := (455, .iadd, 1)) ro_Law180 27 rfl
theorem d_Law_456 : decode code 456 = .ok (.iaload, 1) := am_row (r := (456, .iaload, 1)) ro_Law180 28 rfl
theorem d_Law_457 : decode code 457 = .ok (.invokevirtual 49, 3) := am_row (r := (457, .invokevirtual 49, 3)) ro_Law180 29 rfl
theorem d_Law_460 : decode code 460 = .ok (.aload_n 2, 1) := am_row (r := (460, .aload_n 2, 1)) ro_Law180 30 rfl
theorem d_Law_461 : decode code 461 = .ok (.aload_n 0, 1) := am_row (r := (461, .aload_n 0, 1)) ro_Law180 31 rfl
theorem d_Law_462 : decode code 462 = .ok (.iload_n 3, 1) := am_row (r := (462, .iload_n 3, 1)) ro_Law180 32 rfl
theorem d_Law_463 : decode code 463 = .ok (.iconst 1, 1) := am_row (r := (463, .iconst 1, 1)) ro_Law180 33 rfl
theorem d_Law_464 : decode code 464 = .ok (.iadd, 1) := am_row (r := (464, .iadd, 1)) ro_Law180 34 rfl
theorem d_Law_465 : decode code 465 = .ok (.iaload, 1) := am_row (r := (465, .iaload, 1)) ro_Law180 35 rfl
theorem d_Law_466 : decode code 466 = .ok (.invokevirtual 52, 3) := am_row (r := (466, .invokevirtual 52, 3)) ro_Law180 36 rfl
theorem d_Law_469 : decode code 469 = .ok (.if_icmp .eq 688, 3) := am_row (r := (469, .if_icmp .eq 688, 3)) ro_Law180 37 rfl
theorem d_Law_472 : decode code 472 = .ok (.iconst 0, 1) := am_row (r := (472, .iconst 0, 1)) ro_Law180 38 rfl
theorem d_Law_473 : decode code 473 = .ok (.ireturn, 1) := am_row (r := (473, .ireturn, 1)) ro_Law180 39 rfl
theorem d_Law_474 : decode code 474 = .ok (.aload_n 1, 1) := am_row (r := (474, .aload_n 1, 1)) ro_Law180 40 rfl
theorem d_Law_475 : decode code 475 = .ok (.invokevirtual 53, 3) := am_row (r := (475, .invokevirtual 53, 3)) ro_Law180 41 rfl
theorem d_Law_478 : decode code 478 = .ok (.aload_n 2, 1) := am_row (r := (478, .aload_n 2, 1)) ro_Law180 42 rfl
theorem d_Law_479 : decode code 479 = .ok (.invokevirtual 57, 3) := am_row (r := (479, .invokevirtual 57, 3)) ro_Law180 43 rfl
theorem d_Law_482 : decode code 482 = .ok (.if_icmp .eq 675, 3) := am_row (r := (482, .if_icmp .eq 675, 3)) ro_Law180 44 rfl
def rw_Law225 : List (Nat × Instr × Nat) := [(485, .iconst 0, 1), (486, .ireturn, 1), (487, .aload_n 1, 1), (488, .aload_n 0, 1), (489, .iload_n 3, 1), (490, .iconst 1, 1), (491, .iadd, 1), (492, .iaload, 1), (493, .aload_n 0, 1), (494, .iload_n 3, 1), (495, .iconst 2, 1), (496, .iadd, 1), (497, .iaload, 1), (498, .invokevirtual 58, 3), (501, .aload_n 2, 1), (502, .aload_n 0, 1), (503, .iload_n 3, 1), (504, .iconst 1, 1), (505, .iadd, 1), (506, .iaload, 1), (507, .aload_n 0, 1), (508, .iload_n 3, 1), (509, .iconst 2, 1), (510, .iadd, 1), (511, .iaload, 1), (512, .invokevirtual 62, 3), (515, .if_icmp .eq 642, 3), (518, .iconst 0, 1), (519, .ireturn, 1), (520, .aload_n 1, 1), (521, .invokevirtual 63, 3), (524, .aload_n 2, 1), (525, .invokevirtual 66, 3), (528, .if_icmp .eq 629, 3), (531, .iconst 0, 1), (532, .ireturn, 1), (533, .aload_n 1, 1), (534, .aload_n 0, 1), (535, .iload_n 3, 1), (536, .iconst 1, 1), (537, .iadd, 1), (538, .iaload, 1), (539, .invokevirtual 67, 3), (542, .aload_n 2, 1), (543, .aload_n 0, 1)]
theorem ro_Law225 : rw_Law225.all (fun r => decide (decode code r.1 = .ok r.2)) = true := by decide +kernel
theorem d_Law_485 : decode code 485 = .ok (.iconst 0, 1) := am_row (r := (485, .iconst 0, 1)) ro_Law225 0 rfl
theorem d_Law_486 : decode code 486 = .ok (.ireturn, 1) := am_row (r := (486, .ireturn, 1)) ro_Law225 1 rfl
theorem d_Law_487 : decode code 487 = .ok (.aload_n 1, 1) := am_row (r := (487, .aload_n 1, 1)) ro_Law225 2 rfl
theorem d_Law_488 : decode code 488 = .ok (.aload_n 0, 1) := am_row (r := (488, .aload_n 0, 1)) ro_Law225 3 rfl
theorem d_Law_489 : decode code 489 = .ok (.iload_n 3, 1) := am_row (r := (489, .iload_n 3, 1)) ro_Law225 4 rfl
theorem d_Law_490 : decode code 490 = .ok (.iconst 1, 1) := am_row (r := (490, .iconst 1, 1)) ro_Law225 5 rfl
theorem d_Law_491 : decode code 491 = .ok (.iadd, 1) := am_row (r := (491, .iadd, 1)) ro_Law225 6 rfl
theorem d_Law_492 : decode code 492 = .ok (.iaload, 1) := am_row (r := (492, .iaload, 1)) ro_Law225 7 rfl
theorem d_Law_493 : decode code 493 = .ok (.aload_n 0, 1) := am_row (r := (493, .aload_n 0, 1)) ro_Law225 8 rfl
theorem d_Law_494 : decode code 494 = .ok (.iload_n 3, 1) := am_row (r := (494, .iload_n 3, 1)) ro_Law225 9 rfl
theorem d_Law_495 : decode code 495 = .ok (.iconst 2, 1) := am_row (r := (495, .iconst 2, 1)) ro_Law225 10 rfl
theorem d_Law_496 : decode code 496 = .ok (.iadd, 1) := am_row (r := (496, .iadd, 1)) ro_Law225 11 rfl
theorem d_Law_497 : decode code 497 = .ok (.iaload, 1) := am_row (r := (497, .iaload, 1)) ro_Law225 12 rfl
theorem d_Law_498 : decode code 498 = .ok (.invokevirtual 58, 3) := am_row (r := (498, .invokevirtual 58, 3)) ro_Law225 13 rfl
theorem d_Law_501 : decode code 501 = .ok (.aload_n 2, 1) := am_row (r := (501, .aload_n 2, 1)) ro_Law225 14 rfl
theorem d_Law_502 : decode code 502 = .ok (.aload_n 0, 1) := am_row (r := (502, .aload_n 0, 1)) ro_Law225 15 rfl
theorem d_Law_503 : decode code 503 = .ok (.iload_n 3, 1) := am_row (r := (503, .iload_n 3, 1)) ro_Law225 16 rfl
theorem d_Law_504 : decode code 504 = .ok (.iconst 1, 1) := am_row (r := (504, .iconst 1, 1)) ro_Law225 17 rfl
theorem d_Law_505 : decode code 505 = .ok (.iadd, 1) := am_row (r := (505, .iadd, 1)) ro_Law225 18 rfl
theorem d_Law_506 : decode code 506 = .ok (.iaload, 1) := am_row (r := (506, .iaload, 1)) ro_Law225 19 rfl
theorem d_Law_507 : decode code 507 = .ok (.aload_n 0, 1) := am_row (r := (507, .aload_n 0, 1)) ro_Law225 20 rfl
theorem d_Law_508 : decode code 508 = .ok (.iload_n 3, 1) := am_row (r := (508, .iload_n 3, 1)) ro_Law225 21 rfl
theorem d_Law_509 : decode code 509 = .ok (.iconst 2, 1) := am_row (r := (509, .iconst 2, 1)) ro_Law225 22 rfl
theorem d_Law_510 : decode code 510 = .ok (.iadd, 1) := am_row (r := (510, .iadd, 1)) ro_Law225 23 rfl
theorem d_Law_511 : decode code 511 = .ok (.iaload, 1) := am_row (r := (511, .iaload, 1)) ro_Law225 24 rfl
theorem d_Law_512 : decode code 512 = .ok (.invokevirtual 62, 3) := am_row (r := (512, .invokevirtual 62, 3)) ro_Law225 25 rfl
theorem d_Law_515 : decode code 515 = .ok (.if_icmp .eq 642, 3) := am_row (r := (515, .if_icmp .eq 642, 3)) ro_Law225 26 rfl
theorem d_Law_518 : decode code 518 = .ok (.iconst 0, 1) := am_row (r := (518, .iconst 0, 1)) ro_Law225 27 rfl
theorem d_Law_519 : decode code 519 = .ok (.ireturn, 1) := am_row (r := (519, .ireturn, 1)) ro_Law225 28 rfl
theorem d_Law_520 : decode code 520 = .ok (.aload_n 1, 1) := am_row (r := (520, .aload_n 1, 1)) ro_Law225 29 rfl
theorem d_Law_521 : decode code 521 = .ok (.invokevirtual 63, 3) := am_row (r := (521, .invokevirtual 63, 3)) ro_Law225 30 rfl
theorem d_Law_524 : decode code 524 = .ok (.aload_n 2, 1) := am_row (r := (524, .aload_n 2, 1)) ro_Law225 31 rfl
theorem d_Law_525 : decode code 525 = .ok (.invokevirtual 66, 3) := am_row (r := (525, .invokevirtual 66, 3)) ro_Law225 32 rfl
theorem d_Law_528 : decode code 528 = .ok (.if_icmp .eq 629, 3) := am_row (r := (528, .if_icmp .eq 629, 3)) ro_Law225 33 rfl
theorem d_Law_531 : decode code 531 = .ok (.iconst 0, 1) := am_row (r := (531, .iconst 0, 1)) ro_Law225 34 rfl
theorem d_Law_532 : decode code 532 = .ok (.ireturn, 1) := am_row (r := (532, .ireturn, 1)) ro_Law225 35 rfl
theorem d_Law_533 : decode code 533 = .ok (.aload_n 1, 1) := am_row (r := (533, .aload_n 1, 1)) ro_Law225 36 rfl
theorem d_Law_534 : decode code 534 = .ok (.aload_n 0, 1) := am_row (r := (534, .aload_n 0, 1)) ro_Law225 37 rfl
theorem d_Law_535 : decode code 535 = .ok (.iload_n 3, 1) := am_row (r := (535, .iload_n 3, 1)) ro_Law225 38 rfl
theorem d_Law_536 : decode code 536 = .ok (.iconst 1, 1) := am_row (r := (536, .iconst 1, 1)) ro_Law225 39 rfl
theorem d_Law_537 : decode code 537 = .ok (.iadd, 1) := am_row (r := (537, .iadd, 1)) ro_Law225 40 rfl
theorem d_Law_538 : decode code 538 = .ok (.iaload, 1) := am_row (r := (538, .iaload, 1)) ro_Law225 41 rfl
theorem d_Law_539 : decode code 539 = .ok (.invokevirtual 67, 3) := am_row (r := (539, .invokevirtual 67, 3)) ro_Law225 42 rfl
theorem d_Law_542 : decode code 542 = .ok (.aload_n 2, 1) := am_row (r := (542, .aload_n 2, 1)) ro_Law225 43 rfl
theorem d_Law_543 : decode code 543 = .ok (.aload_n 0, 1) := am_row (r := (543, .aload_n 0, 1)) ro_Law225 44 rfl
