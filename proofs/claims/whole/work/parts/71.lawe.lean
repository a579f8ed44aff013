/-! THE LAW: its code, row by row -/
def rw_Law360 : List (Nat × Instr × Nat) := [(658, .iadd, 1), (659, .iaload, 1), (660, .invokevirtual 86, 3), (663, .if_icmp .eq 494, 3), (666, .iconst 0, 1), (667, .ireturn, 1), (668, .aload_n 1, 1), (669, .aload_n 0, 1), (670, .iload_n 3, 1), (671, .iconst 1, 1), (672, .iadd, 1), (673, .iaload, 1), (674, .invokevirtual 87, 3), (677, .aload_n 2, 1), (678, .aload_n 0, 1), (679, .iload_n 3, 1), (680, .iconst 1, 1), (681, .iadd, 1), (682, .iaload, 1), (683, .invokevirtual 90, 3), (686, .if_icmp .eq 471, 3), (689, .iconst 0, 1), (690, .ireturn, 1), (691, .aload_n 1, 1), (692, .aload_n 0, 1), (693, .iload_n 3, 1), (694, .iconst 1, 1), (695, .iadd, 1), (696, .iaload, 1), (697, .aload_n 0, 1), (698, .iload_n 3, 1), (699, .iconst 2, 1), (700, .iadd, 1), (701, .iaload, 1), (702, .invokevirtual 91, 3), (705, .aload_n 2, 1), (706, .aload_n 0, 1), (707, .iload_n 3, 1), (708, .iconst 1, 1), (709, .iadd, 1), (710, .iaload, 1), (711, .aload_n 0, 1), (712, .iload_n 3, 1), (713, .iconst 2, 1), (714, .iadd, 1)]
theorem ro_Law360 : rw_Law360.all (fun r => decide (decode code r.1 = .ok r.2)) = true := by decide +kernel
theorem d_Law_658 : decode code 658 = .ok (.iadd, 1) := am_row (r := (658, .iadd, 1)) ro_Law360 0 rfl
theorem d_Law_659 : decode code 659 = .ok (.iaload, 1) := am_row (r := (659, .iaload, 1)) ro_Law360 1 rfl
theorem d_Law_660 : decode code 660 = .ok (.invokevirtual 86, 3) := am_row (r := (660, .invokevirtual 86, 3)) ro_Law360 2 rfl
theorem d_Law_663 : decode code 663 = .ok (.if_icmp .eq 494, 3) := am_row (r := (663, .if_icmp .eq 494, 3)) ro_Law360 3 rfl
theorem d_Law_666 : decode code 666 = .ok (.iconst 0, 1) := am_row (r := (666, .iconst 0, 1)) ro_Law360 4 rfl
theorem d_Law_667 : decode code 667 = .ok (.ireturn, 1) := am_row (r := (667, .ireturn, 1)) ro_Law360 5 rfl
theorem d_Law_668 : decode code 668 = .ok (.aload_n 1, 1) := am_row (r := (668, .aload_n 1, 1)) ro_Law360 6 rfl
theorem d_Law_669 : decode code 669 = .ok (.aload_n 0, 1) := am_row (r := (669, .aload_n 0, 1)) ro_Law360 7 rfl
theorem d_Law_670 : decode code 670 = .ok (.iload_n 3, 1) := am_row (r := (670, .iload_n 3, 1)) ro_Law360 8 rfl
theorem d_Law_671 : decode code 671 = .ok (.iconst 1, 1) := am_row (r := (671, .iconst 1, 1)) ro_Law360 9 rfl
theorem d_Law_672 : decode code 672 = .ok (.iadd, 1) := am_row (r := (672, .iadd, 1)) ro_Law360 10 rfl
theorem d_Law_673 : decode code 673 = .ok (.iaload, 1) := am_row (r := (673, .iaload, 1)) ro_Law360 11 rfl
theorem d_Law_674 : decode code 674 = .ok (.invokevirtual 87, 3) := am_row (r := (674, .invokevirtual 87, 3)) ro_Law360 12 rfl
theorem d_Law_677 : decode code 677 = .ok (.aload_n 2, 1) := am_row (r := (677, .aload_n 2, 1)) ro_Law360 13 rfl
theorem d_Law_678 : decode code 678 = .ok (.aload_n 0, 1) := am_row (r := (678, .aload_n 0, 1)) ro_Law360 14 rfl
theorem d_Law_679 : decode code 679 = .ok (.iload_n 3, 1) := am_row (r := (679, .iload_n 3, 1)) ro_Law360 15 rfl
theorem d_Law_680 : decode code 680 = .ok (.iconst 1, 1) := am_row (r := (680, .iconst 1, 1)) ro_Law360 16 rfl
theorem d_Law_681 : decode code 681 = .ok (.iadd, 1) := am_row (r := (681, .iadd, 1)) ro_Law360 17 rfl
theorem d_Law_682 : decode code 682 = .ok (.iaload, 1) := am_row (r := (682, .iaload, 1)) ro_Law360 18 rfl
theorem d_Law_683 : decode code 683 = .ok (.invokevirtual 90, 3) := am_row (r := (683, .invokevirtual 90, 3)) ro_Law360 19 rfl
theorem d_Law_686 : decode code 686 = .ok (.if_icmp .eq 471, 3) := am_row (r := (686, .if_icmp .eq 471, 3)) ro_Law360 20 rfl
theorem d_Law_689 : decode code 689 = .ok (.iconst 0, 1) := am_row (r := (689, .iconst 0, 1)) ro_Law360 21 rfl
theorem d_Law_690 : decode code 690 = .ok (.ireturn, 1) := am_row (r := (690, .ireturn, 1)) ro_Law360 22 rfl
theorem d_Law_691 : decode code 691 = .ok (.aload_n 1, 1) := am_row (r := (691, .aload_n 1, 1)) ro_Law360 23 rfl
theorem d_Law_692 : decode code 692 = .ok (.aload_n 0, 1) := am_row (r := (692, .aload_n 0, 1)) ro_Law360 24 rfl
theorem d_Law_693 : decode code 693 = .ok (.iload_n 3, 1) := am_row (r := (693, .iload_n 3, 1)) ro_Law360 25 rfl
theorem d_Law_694 : decode code 694 = .ok (.iconst 1, 1) := am_row (r := (694, .iconst 1, 1)) ro_Law360 26 rfl
theorem d_Law_695 : decode code 695 = .ok (.iadd, 1) := am_row (r := (695, .iadd, 1)) ro_Law360 27 rfl
theorem d_Law_696 : decode code 696 = .ok (.iaload, 1) := am_row (r := (696, .iaload, 1)) ro_Law360 28 rfl
theorem d_Law_697 : decode code 697 = .ok (.aload_n 0, 1) := am_row (r := (697, .aload_n 0, 1)) ro_Law360 29 rfl
theorem d_Law_698 : decode code 698 = .ok (.iload_n 3, 1) := am_row (r := (698, .iload_n 3, 1)) ro_Law360 30 rfl
theorem d_Law_699 : decode code 699 = .ok (.iconst 2, 1) := am_row (r := (699, .iconst 2, 1)) ro_Law360 31 rfl
theorem d_Law_700 : decode code 700 = .ok (.iadd, 1) := am_row (r := (700, .iadd, 1)) ro_Law360 32 rfl
theorem d_Law_701 : decode code 701 = .ok (.iaload, 1) := am_row (r := (701, .iaload, 1)) ro_Law360 33 rfl
theorem d_Law_702 : decode code 702 = .ok (.invokevirtual 91, 3) := am_row (r := (702, .invokevirtual 91, 3)) ro_Law360 34 rfl
theorem d_Law_705 : decode code 705 = .ok (.aload_n 2, 1) := am_row (r := (705, .aload_n 2, 1)) ro_Law360 35 rfl
theorem d_Law_706 : decode code 706 = .ok (.aload_n 0, 1) := am_row (r := (706, .aload_n 0, 1)) ro_Law360 36 rfl
theorem d_Law_707 : decode code 707 = .ok (.iload_n 3, 1) := am_row (r := (707, .iload_n 3, 1)) ro_Law360 37 rfl
theorem d_Law_708 : decode code 708 = .ok (.iconst 1, 1) := am_row (r := (708, .iconst 1, 1)) ro_Law360 38 rfl
theorem d_Law_709 : decode code 709 = .ok (.iadd, 1) := am_row (r := (709, .iadd, 1)) ro_Law360 39 rfl
theorem d_Law_710 : decode code 710 = .ok (.iaload, 1) := am_row (r := (710, .iaload, 1)) ro_Law360 40 rfl
theorem d_Law_711 : decode code 711 = .ok (.aload_n 0, 1) := am_row (r := (711, .aload_n 0, 1)) ro_Law360 41 rfl
theorem d_Law_712 : decode code 712 = .ok (.iload_n 3, 1) := am_row (r := (712, .iload_n 3, 1)) ro_Law360 42 rfl
theorem d_Law_713 : decode code 713 = .ok (.iconst 2, 1) := am_row (r := (713, .iconst 2, 1)) ro_Law360 43 rfl
theorem d_Law_714 : decode code 714 = .ok (.iadd, 1) := am_row (r := (714, .iadd, 1)) ro_Law360 44 rfl
def rw_Law405 : List (Nat × Instr × Nat) := [(715, .iaload, 1), (716, .invokevirtual 94, 3), (719, .if_icmp .eq 438, 3), (722, .iconst 0, 1), (723, .ireturn, 1), (724, .aload_n 1, 1), (725, .invokevirtual 95, 3), (728, .aload_n 2, 1), (729, .invokevirtual 98, 3), (732, .if_icmp .eq 425, 3), (735, .iconst 0, 1), (736, .ireturn, 1), (737, .aload_n 1, 1), (738, .invokevirtual 99, 3), (741, .aload_n 2, 1), (742, .invokevirtual 102, 3), (745, .if_icmp .eq 412, 3), (748, .iconst 0, 1), (749, .ireturn, 1), (750, .aload_n 1, 1), (751, .invokevirtual 103, 3), (754, .aload_n 2, 1), (755, .invokevirtual 106, 3), (758, .if_icmp .eq 399, 3), (761, .iconst 0, 1), (762, .ireturn, 1), (763, .aload_n 1, 1), (764, .aload_n 0, 1), (765, .iload_n 3, 1), (766, .iconst 1, 1), (767, .iadd, 1), (768, .iaload, 1), (769, .invokevirtual 107, 3), (772, .aload_n 2, 1), (773, .aload_n 0, 1), (774, .iload_n 3, 1), (775, .iconst 1, 1), (776, .iadd, 1), (777, .iaload, 1), (778, .invokevirtual 110, 3), (781, .if_icmp .eq 376, 3), (784, .iconst 0, 1), (785, .ireturn, 1), (786, .aload_n 1, 1), (787, .invokevirtual 111, 3)]
theorem ro_Law405 : rw_Law405.all (fun r => decide (decode code r.1 = .ok r.2)) = true := by decide +kernel
theorem d_Law_715 : decode code 715 = .ok (.iaload, 1) := am_row (r := (715, .iaload, 1)) ro_Law405 0 rfl
theorem d_Law_716 : decode code 716 = .ok (.invokevirtual 94, 3) := am_row (r := (716, .invokevirtual 94, 3)) ro_Law405 1 rfl
theorem d_Law_719 : decode code 719 = .ok (.if_icmp .eq 438, 3) := am_row (r := (719, .if_icmp .eq 438, 3)) ro_Law405 2 rfl
theorem d_Law_722 : decode code 722 = .ok (.iconst 0, 1) := am_row (r := (722, .iconst 0, 1)) ro_Law405 3 rfl
theorem d_Law_723 : decode code 723 = .ok (.ireturn, 1) := am_row (r := (723, .ireturn, 1)) ro_Law405 4 rfl
theorem d_Law_724 : decode code 724 = .ok (.aload_n 1, 1) := am_row (r := (724, .aload_n 1, 1)) ro_Law405 5 rfl
theorem d_Law_725 : decode code 725 = .ok (.invokevirtual 95, 3) := am_row (r := (725, .invokevirtual 95, 3)) ro_Law405 6 rfl
theorem d_Law_728 : decode code 728 = .ok (.aload_n 2, 1) := am_row (r := (728, .aload_n 2, 1)) ro_Law405 7 rfl
theorem d_Law_729 : decode code 729 = .ok (.invokevirtual 98, 3) := am_row (r := (729, .invokevirtual 98, 3)) ro_Law405 8 rfl
theorem d_Law_732 : decode code 732 = .ok (.if_icmp .eq 425, 3) := am_row (r := (732, .if_icmp .eq 425, 3)) ro_Law405 9 rfl
theorem d_Law_735 : decode code 735 = .ok (.iconst 0, 1) := am_row (r := (735, .iconst 0, 1)) ro_Law405 10 rfl
theorem d_Law_736 : decode code 736 = .ok (.ireturn, 1) := am_row (r := (736, .ireturn, 1)) ro_Law405 11 rfl
theorem d_Law_737 : decode code 737 = .ok (.aload_n 1, 1) := am_row (r := (737, .aload_n 1, 1)) ro_Law405 12 rfl
theorem d_Law_738 : decode code 738 = .ok (.invokevirtual 99, 3) := am_row (r := (738, .invokevirtual 99, 3)) ro_Law405 13 rfl
theorem d_Law_741 : decode code 741 = .ok (.aload_n 2, 1) := am_row (r := (741, .aload_n 2, 1)) ro_Law405 14 rfl
theorem d_Law_742 : decode code 742 = .ok (.invokevirtual 102, 3) := am_row (r := (742, .invokevirtual 102, 3)) ro_Law405 15 rfl
theorem d_Law_745 : decode code 745 = .ok (.if_icmp .eq 412, 3) := am_row (r := (745, .if_icmp .eq 412, 3)) ro_Law405 16 rfl
theorem d_Law_748 : decode code 748 = .ok (.iconst 0, 1) := am_row (r := (748, .iconst 0, 1)) ro_Law405 17 rfl
theorem d_Law_749 : decode code 749 = .ok (.ireturn, 1) := am_row (r := (749, .ireturn, 1)) ro_Law405 18 rfl
theorem d_Law_750 : decode code 750 = .ok (.aload_n 1, 1) := am_row (r := (750, .aload_n 1, 1)) ro_Law405 19 rfl
theorem d_Law_751 : decode code 751 = .ok (.invokevirtual 103, 3) := am_row (r := (751, .invokevirtual 103, 3)) ro_Law405 20 rfl
theorem d_Law_754 : decode code 754 = .ok (.aload_n 2, 1) := am_row (r := (754, .aload_n 2, 1)) ro_Law405 21 rfl
theorem d_Law_755 : decode code 755 = .ok (.invokevirtual 106, 3) := am_row (r := (755, .invokevirtual 106, 3)) ro_Law405 22 rfl
theorem d_Law_758 : decode code 758 = .ok (.if_icmp .eq 399, 3) := am_row (r := (758, .if_icmp .eq 399, 3)) ro_Law405 23 rfl
theorem d_Law_761 : decode code 761 = .ok (.iconst 0, 1) := am_row (r := (761, .iconst 0, 1)) ro_Law405 24 rfl
theorem d_Law_762 : decode code 762 = .ok (.ireturn, 1) := am_row (r := (762, .ireturn, 1)) ro_Law405 25 rfl
theorem d_Law_763 : decode code 763 = .ok (.aload_n 1, 1) := am_row (r := (763, .aload_n 1, 1)) ro_Law405 26 rfl
theorem d_Law_764 : decode code 764 = .ok (.aload_n 0, 1) := am_row (r := (764, .aload_n 0, 1)) ro_Law405 27 rfl
theorem d_Law_765 : decode code 765 = .ok (.iload_n 3, 1) := am_row (r := (765, .iload_n 3, 1)) ro_Law405 28 rfl
theorem d_Law_766 : decode code 766 = .ok (.iconst 1, 1) := am_row (r := (766, .iconst 1, 1)) ro_Law405 29 rfl
theorem d_Law_767 : decode code 767 = .ok (.iadd, 1) := am_row (r := (767, .iadd, 1)) ro_Law405 30 rfl
theorem d_Law_768 : decode code 768 = .ok (.iaload, 1) := am_row (r := (768, .iaload, 1)) ro_Law405 31 rfl
theorem d_Law_769 : decode code 769 = .ok (.invokevirtual 107, 3) := am_row (r := (769, .invokevirtual 107, 3)) ro_Law405 32 rfl
theorem d_Law_772 : decode code 772 = .ok (.aload_n 2, 1) := am_row (r := (772, .aload_n 2, 1)) ro_Law405 33 rfl
theorem d_Law_773 : decode code 773 = .ok (.aload_n 0, 1) := am_row (r := (773, .aload_n 0, 1)) ro_Law405 34 rfl
theorem d_Law_774 : decode code 774 = .ok (.iload_n 3, 1) := am_row (r := (774, .iload_n 3, 1)) ro_Law405 35 rfl
theorem d_Law_775 : decode code 775 = .ok (.iconst 1, 1) := am_row (r := (775, .iconst 1, 1)) ro_Law405 36 rfl
theorem d_Law_776 : decode code 776 = .ok (.iadd, 1) := am_row (r := (776, .iadd, 1)) ro_Law405 37 rfl
theorem d_Law_777 : decode code 777 = .ok (.iaload, 1) := am_row (r := (777, .iaload, 1)) ro_Law405 38 rfl
theorem d_Law_778 : decode code 778 = .ok (.invokevirtual 110, 3) := am_row (r := (778, .invokevirtual 110, 3)) ro_Law405 39 rfl
theorem d_Law_781 : decode code 781 = .ok (.if_icmp .eq 376, 3) := am_row (r := (781, .if_icmp .eq 376, 3)) ro_Law405 40 rfl
theorem d_Law_784 : decode code 784 = .ok (.iconst 0, 1) := am_row (r := (784, .iconst 0, 1)) ro_Law405 41 rfl
theorem d_Law_785 : decode code 785 = .ok (.ireturn, 1) := am_row (r := (785, .ireturn, 1)) ro_Law405 42 rfl
theorem d_Law_786 : decode code 786 = .ok (.aload_n 1, 1) := am_row (r := (786, .aload_n 1, 1)) ro_Law405 43 rfl
theorem d_Law_787 : decode code 787 = .ok (.invokevirtual 111, 3) := am_row (r := (787, .invokevirtual 111, 3)) ro_Law405 44 rfl
