/-! THE LAW: its code, row by row -/
def rw_Law270 : List (Nat × Instr × Nat) := [(544, .iload_n 3, 1), (545, .iconst 1, 1), (546, .iadd, 1), (547, .iaload, 1), (548, .invokevirtual 70, 3), (551, .if_icmp .eq 606, 3), (554, .iconst 0, 1), (555, .ireturn, 1), (556, .aload_n 1, 1), (557, .aload_n 0, 1), (558, .iload_n 3, 1), (559, .iconst 1, 1), (560, .iadd, 1), (561, .iaload, 1), (562, .invokevirtual 71, 3), (565, .aload_n 2, 1), (566, .aload_n 0, 1), (567, .iload_n 3, 1), (568, .iconst 1, 1), (569, .iadd, 1), (570, .iaload, 1), (571, .invokevirtual 74, 3), (574, .if_icmp .eq 583, 3), (577, .iconst 0, 1), (578, .ireturn, 1), (579, .aload_n 1, 1), (580, .aload_n 0, 1), (581, .iload_n 3, 1), (582, .iconst 1, 1), (583, .iadd, 1), (584, .iaload, 1), (585, .aload_n 0, 1), (586, .iload_n 3, 1), (587, .iconst 2, 1), (588, .iadd, 1), (589, .iaload, 1), (590, .invokevirtual 75, 3), (593, .aload_n 2, 1), (594, .aload_n 0, 1), (595, .iload_n 3, 1), (596, .iconst 1, 1), (597, .iadd, 1), (598, .iaload, 1), (599, .aload_n 0, 1), (600, .iload_n 3, 1)]
theorem ro_Law270 : rw_Law270.all (fun r => decide (decode code r.1 = .ok r.2)) = true := by decide +kernel
theorem d_Law_544 : decode code 544 = .ok (.iload_n 3, 1) := am_row (r := (544, .iload_n 3, 1)) ro_Law270 0 rfl
theorem d_Law_545 : decode code 545 = .ok (.iconst 1, 1) := am_row (r := (545, .iconst 1, 1)) ro_Law270 1 rfl
theorem d_Law_546 : decode code 546 = .ok (.iadd, 1) := am_row (r := (546, .iadd, 1)) ro_Law270 2 rfl
theorem d_Law_547 : decode code 547 = .ok (.iaload, 1) := am_row (r := (547, .iaload, 1)) ro_Law270 3 rfl
theorem d_Law_548 : decode code 548 = .ok (.invokevirtual 70, 3) := am_row (r := (548, .invokevirtual 70, 3)) ro_Law270 4 rfl
theorem d_Law_551 : decode code 551 = .ok (.if_icmp .eq 606, 3) := am_row (r := (551, .if_icmp .eq 606, 3)) ro_Law270 5 rfl
theorem d_Law_554 : decode code 554 = .ok (.iconst 0, 1) := am_row (r := (554, .iconst 0, 1)) ro_Law270 6 rfl
theorem d_Law_555 : decode code 555 = .ok (.ireturn, 1) := am_row (r := (555, .ireturn, 1)) ro_Law270 7 rfl
theorem d_Law_556 : decode code 556 = .ok (.aload_n 1, 1) := am_row (r := (556, .aload_n 1, 1)) ro_Law270 8 rfl
theorem d_Law_557 : decode code 557 = .ok (.aload_n 0, 1) := am_row (r := (557, .aload_n 0, 1)) ro_Law270 9 rfl
theorem d_Law_558 : decode code 558 = .ok (.iload_n 3, 1) := am_row (r := (558, .iload_n 3, 1)) ro_Law270 10 rfl
theorem d_Law_559 : decode code 559 = .ok (.iconst 1, 1) := am_row (r := (559, .iconst 1, 1)) ro_Law270 11 rfl
theorem d_Law_560 : decode code 560 = .ok (.iadd, 1) := am_row (r := (560, .iadd, 1)) ro_Law270 12 rfl
theorem d_Law_561 : decode code 561 = .ok (.iaload, 1) := am_row (r := (561, .iaload, 1)) ro_Law270 13 rfl
theorem d_Law_562 : decode code 562 = .ok (.invokevirtual 71, 3) := am_row (r := (562, .invokevirtual 71, 3)) ro_Law270 14 rfl
theorem d_Law_565 : decode code 565 = .ok (.aload_n 2, 1) := am_row (r := (565, .aload_n 2, 1)) ro_Law270 15 rfl
theorem d_Law_566 : decode code 566 = .ok (.aload_n 0, 1) := am_row (r := (566, .aload_n 0, 1)) ro_Law270 16 rfl
theorem d_Law_567 : decode code 567 = .ok (.iload_n 3, 1) := am_row (r := (567, .iload_n 3, 1)) ro_Law270 17 rfl
theorem d_Law_568 : decode code 568 = .ok (.iconst 1, 1) := am_row (r := (568, .iconst 1, 1)) ro_Law270 18 rfl
theorem d_Law_569 : decode code 569 = .ok (.iadd, 1) := am_row (r := (569, .iadd, 1)) ro_Law270 19 rfl
theorem d_Law_570 : decode code 570 = .ok (.iaload, 1) := am_row (r := (570, .iaload, 1)) ro_Law270 20 rfl
theorem d_Law_571 : decode code 571 = .ok (.invokevirtual 74, 3) := am_row (r := (571, .invokevirtual 74, 3)) ro_Law270 21 rfl
theorem d_Law_574 : decode code 574 = .ok (.if_icmp .eq 583, 3) := am_row (r := (574, .if_icmp .eq 583, 3)) ro_Law270 22 rfl
theorem d_Law_577 : decode code 577 = .ok (.iconst 0, 1) := am_row (r := (577, .iconst 0, 1)) ro_Law270 23 rfl
theorem d_Law_578 : decode code 578 = .ok (.ireturn, 1) := am_row (r := (578, .ireturn, 1)) ro_Law270 24 rfl
theorem d_Law_579 : decode code 579 = .ok (.aload_n 1, 1) := am_row (r := (579, .aload_n 1, 1)) ro_Law270 25 rfl
theorem d_Law_580 : decode code 580 = .ok (.aload_n 0, 1) := am_row (r := (580, .aload_n 0, 1)) ro_Law270 26 rfl
theorem d_Law_581 : decode code 581 = .ok (.iload_n 3, 1) := am_row (r := (581, .iload_n 3, 1)) ro_Law270 27 rfl
theorem d_Law_582 : decode code 582 = .ok (.iconst 1, 1) := am_row (r := (582, .iconst 1, 1)) ro_Law270 28 rfl
theorem d_Law_583 : decode code 583 = .ok (.iadd, 1) := am_row (r := (583, .iadd, 1)) ro_Law270 29 rfl
theorem d_Law_584 : decode code 584 = .ok (.iaload, 1) := am_row (r := (584, .iaload, 1)) ro_Law270 30 rfl
theorem d_Law_585 : decode code 585 = .ok (.aload_n 0, 1) := am_row (r := (585, .aload_n 0, 1)) ro_Law270 31 rfl
theorem d_Law_586 : decode code 586 = .ok (.iload_n 3, 1) := am_row (r := (586, .iload_n 3, 1)) ro_Law270 32 rfl
theorem d_Law_587 : decode code 587 = .ok (.iconst 2, 1) := am_row (r := (587, .iconst 2, 1)) ro_Law270 33 rfl
theorem d_Law_588 : decode code 588 = .ok (.iadd, 1) := am_row (r := (588, .iadd, 1)) ro_Law270 34 rfl
theorem d_Law_589 : decode code 589 = .ok (.iaload, 1) := am_row (r := (589, .iaload, 1)) ro_Law270 35 rfl
theorem d_Law_590 : decode code 590 = .ok (.invokevirtual 75, 3) := am_row (r := (590, .invokevirtual 75, 3)) ro_Law270 36 rfl
theorem d_Law_593 : decode code 593 = .ok (.aload_n 2, 1) := am_row (r := (593, .aload_n 2, 1)) ro_Law270 37 rfl
theorem d_Law_594 : decode code 594 = .ok (.aload_n 0, 1) := am_row (r := (594, .aload_n 0, 1)) ro_Law270 38 rfl
theorem d_Law_595 : decode code 595 = .ok (.iload_n 3, 1) := am_row (r := (595, .iload_n 3, 1)) ro_Law270 39 rfl
theorem d_Law_596 : decode code 596 = .ok (.iconst 1, 1) := am_row (r := (596, .iconst 1, 1)) ro_Law270 40 rfl
theorem d_Law_597 : decode code 597 = .ok (.iadd, 1) := am_row (r := (597, .iadd, 1)) ro_Law270 41 rfl
theorem d_Law_598 : decode code 598 = .ok (.iaload, 1) := am_row (r := (598, .iaload, 1)) ro_Law270 42 rfl
theorem d_Law_599 : decode code 599 = .ok (.aload_n 0, 1) := am_row (r := (599, .aload_n 0, 1)) ro_Law270 43 rfl
theorem d_Law_600 : decode code 600 = .ok (.iload_n 3, 1) := am_row (r := (600, .iload_n 3, 1)) ro_Law270 44 rfl
def rw_Law315 : List (Nat × Instr × Nat) := [(601, .iconst 2, 1), (602, .iadd, 1), (603, .iaload, 1), (604, .invokevirtual 78, 3), (607, .if_icmp .eq 550, 3), (610, .iconst 0, 1), (611, .ireturn, 1), (612, .aload_n 1, 1), (613, .aload_n 0, 1), (614, .iload_n 3, 1), (615, .iconst 1, 1), (616, .iadd, 1), (617, .iaload, 1), (618, .invokevirtual 79, 3), (621, .aload_n 2, 1), (622, .aload_n 0, 1), (623, .iload_n 3, 1), (624, .iconst 1, 1), (625, .iadd, 1), (626, .iaload, 1), (627, .invokevirtual 82, 3), (630, .if_icmp .eq 527, 3), (633, .iconst 0, 1), (634, .ireturn, 1), (635, .aload_n 1, 1), (636, .aload_n 0, 1), (637, .iload_n 3, 1), (638, .iconst 1, 1), (639, .iadd, 1), (640, .iaload, 1), (641, .aload_n 0, 1), (642, .iload_n 3, 1), (643, .iconst 2, 1), (644, .iadd, 1), (645, .iaload, 1), (646, .invokevirtual 83, 3), (649, .aload_n 2, 1), (650, .aload_n 0, 1), (651, .iload_n 3, 1), (652, .iconst 1, 1), (653, .iadd, 1), (654, .iaload, 1), (655, .aload_n 0, 1), (656, .iload_n 3, 1), (657, .iconst 2, 1)]
theorem ro_Law315 : rw_Law315.all (fun r => decide (decode code r.1 = .ok r.2)) = true := by decide +kernel
theorem d_Law_601 : decode code 601 = .ok (.iconst 2, 1) := am_row (r := (601, .iconst 2, 1)) ro_Law315 0 rfl
theorem d_Law_602 : decode code 602 = .ok (.iadd, 1) := am_row (r := (602, .iadd, 1)) ro_Law315 1 rfl
theorem d_Law_603 : decode code 603 = .ok (.iaload, 1) := am_row (r := (603, .iaload, 1)) ro_Law315 2 rfl
theorem d_Law_604 : decode code 604 = .ok (.invokevirtual 78, 3) := am_row (r := (604, .invokevirtual 78, 3)) ro_Law315 3 rfl
theorem d_Law_607 : decode code 607 = .ok (.if_icmp .eq 550, 3) := am_row (r := (607, .if_icmp .eq 550, 3)) ro_Law315 4 rfl
theorem d_Law_610 : decode code 610 = .ok (.iconst 0, 1) := am_row (r := (610, .iconst 0, 1)) ro_Law315 5 rfl
theorem d_Law_611 : decode code 611 = .ok (.ireturn, 1) := am_row (r := (611, .ireturn, 1)) ro_Law315 6 rfl
theorem d_Law_612 : decode code 612 = .ok (.aload_n 1, 1) := am_row (r := (612, .aload_n 1, 1)) ro_Law315 7 rfl
theorem d_Law_613 : decode code 613 = .ok (.aload_n 0, 1) := am_row (r := (613, .aload_n 0, 1)) ro_Law315 8 rfl
theorem d_Law_614 : decode code 614 = .ok (.iload_n 3, 1) := am_row (r := (614, .iload_n 3, 1)) ro_Law315 9 rfl
theorem d_Law_615 : decode code 615 = .ok (.iconst 1, 1) := am_row (r := (615, .iconst 1, 1)) ro_Law315 10 rfl
theorem d_Law_616 : decode code 616 = .ok (.iadd, 1) := am_row (r := (616, .iadd, 1)) ro_Law315 11 rfl
theorem d_Law_617 : decode code 617 = .ok (.iaload, 1) := am_row (r := (617, .iaload, 1)) ro_Law315 12 rfl
theorem d_Law_618 : decode code 618 = .ok (.invokevirtual 79, 3) := am_row (r := (618, .invokevirtual 79, 3)) ro_Law315 13 rfl
theorem d_Law_621 : decode code 621 = .ok (.aload_n 2, 1) := am_row (r := (621, .aload_n 2, 1)) ro_Law315 14 rfl
theorem d_Law_622 : decode code 622 = .ok (.aload_n 0, 1) := am_row (r := (622, .aload_n 0, 1)) ro_Law315 15 rfl
theorem d_Law_623 : decode code 623 = .ok (.iload_n 3, 1) := am_row (r := (623, .iload_n 3, 1)) ro_Law315 16 rfl
theorem d_Law_624 : decode code 624 = .ok (.iconst 1, 1) := am_row (r := (624, .iconst 1, 1)) ro_Law315 17 rfl
theorem d_Law_625 : decode code 625 = .ok (.iadd, 1) := am_row (r := (625, .iadd, 1)) ro_Law315 18 rfl
theorem d_Law_626 : decode code 626 = .ok (.iaload, 1) := am_row (r := (626, .iaload, 1)) ro_Law315 19 rfl
theorem d_Law_627 : decode code 627 = .ok (.invokevirtual 82, 3) := am_row (r := (627, .invokevirtual 82, 3)) ro_Law315 20 rfl
theorem d_Law_630 : decode code 630 = .ok (.if_icmp .eq 527, 3) := am_row (r := (630, .if_icmp .eq 527, 3)) ro_Law315 21 rfl
theorem d_Law_633 : decode code 633 = .ok (.iconst 0, 1) := am_row (r := (633, .iconst 0, 1)) ro_Law315 22 rfl
theorem d_Law_634 : decode code 634 = .ok (.ireturn, 1) := am_row (r := (634, .ireturn, 1)) ro_Law315 23 rfl
theorem d_Law_635 : decode code 635 = .ok (.aload_n 1, 1) := am_row (r := (635, .aload_n 1, 1)) ro_Law315 24 rfl
theorem d_Law_636 : decode code 636 = .ok (.aload_n 0, 1) := am_row (r := (636, .aload_n 0, 1)) ro_Law315 25 rfl
theorem d_Law_637 : decode code 637 = .ok (.iload_n 3, 1) := am_row (r := (637, .iload_n 3, 1)) ro_Law315 26 rfl
theorem d_Law_638 : decode code 638 = .ok (.iconst 1, 1) := am_row (r := (638, .iconst 1, 1)) ro_Law315 27 rfl
theorem d_Law_639 : decode code 639 = .ok (.iadd, 1) := am_row (r := (639, .iadd, 1)) ro_Law315 28 rfl
theorem d_Law_640 : decode code 640 = .ok (.iaload, 1) := am_row (r := (640, .iaload, 1)) ro_Law315 29 rfl
theorem d_Law_641 : decode code 641 = .ok (.aload_n 0, 1) := am_row (r := (641, .aload_n 0, 1)) ro_Law315 30 rfl
theorem d_Law_642 : decode code 642 = .ok (.iload_n 3, 1) := am_row (r := (642, .iload_n 3, 1)) ro_Law315 31 rfl
theorem d_Law_643 : decode code 643 = .ok (.iconst 2, 1) := am_row (r := (643, .iconst 2, 1)) ro_Law315 32 rfl
theorem d_Law_644 : decode code 644 = .ok (.iadd, 1) := am_row (r := (644, .iadd, 1)) ro_Law315 33 rfl
theorem d_Law_645 : decode code 645 = .ok (.iaload, 1) := am_row (r := (645, .iaload, 1)) ro_Law315 34 rfl
theorem d_Law_646 : decode code 646 = .ok (.invokevirtual 83, 3) := am_row (r := (646, .invokevirtual 83, 3)) ro_Law315 35 rfl
theorem d_Law_649 : decode code 649 = .ok (.aload_n 2, 1) := am_row (r := (649, .aload_n 2, 1)) ro_Law315 36 rfl
theorem d_Law_650 : decode code 650 = .ok (.aload_n 0, 1) := am_row (r := (650, .aload_n 0, 1)) ro_Law315 37 rfl
theorem d_Law_651 : decode code 651 = .ok (.iload_n 3, 1) := am_row (r := (651, .iload_n 3, 1)) ro_Law315 38 rfl
theorem d_Law_652 : decode code 652 = .ok (.iconst 1, 1) := am_row (r := (652, .iconst 1, 1)) ro_Law315 39 rfl
theorem d_Law_653 : decode code 653 = .ok (.iadd, 1) := am_row (r := (653, .iadd, 1)) ro_Law315 40 rfl
theorem d_Law_654 : decode code 654 = .ok (.iaload, 1) := am_row (r := (654, .iaload, 1)) ro_Law315 41 rfl
theorem d_Law_655 : decode code 655 = .ok (.aload_n 0, 1) := am_row (r := (655, .aload_n 0, 1)) ro_Law315 42 rfl
theorem d_Law_656 : decode code 656 = .ok (.iload_n 3, 1) := am_row (r := (656, .iload_n 3, 1)) ro_Law315 43 rfl
theorem d_Law_657 : decode code 657 = .ok (.iconst 2, 1) := am_row (r := (657, .iconst 2, 1)) ro_Law315 44 rfl
