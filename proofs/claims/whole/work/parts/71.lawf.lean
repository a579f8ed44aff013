/-! THE LAW: its code, row by row -/
def rw_Law450 : List (Nat × Instr × Nat) := [(790, .aload_n 2, 1), (791, .invokevirtual 114, 3), (794, .if_icmp .eq 363, 3), (797, .iconst 0, 1), (798, .ireturn, 1), (799, .aload_n 1, 1), (800, .invokevirtual 115, 3), (803, .aload_n 2, 1), (804, .invokevirtual 118, 3), (807, .if_icmp .eq 350, 3), (810, .iconst 0, 1), (811, .ireturn, 1), (812, .aload_n 1, 1), (813, .aload_n 0, 1), (814, .iload_n 3, 1), (815, .iconst 1, 1), (816, .iadd, 1), (817, .iaload, 1), (818, .aload_n 0, 1), (819, .iload_n 3, 1), (820, .iconst 2, 1), (821, .iadd, 1), (822, .iaload, 1), (823, .invokevirtual 119, 3), (826, .aload_n 2, 1), (827, .aload_n 0, 1), (828, .iload_n 3, 1), (829, .iconst 1, 1), (830, .iadd, 1), (831, .iaload, 1), (832, .aload_n 0, 1), (833, .iload_n 3, 1), (834, .iconst 2, 1), (835, .iadd, 1), (836, .iaload, 1), (837, .invokevirtual 122, 3), (840, .if_icmp .eq 317, 3), (843, .iconst 0, 1), (844, .ireturn, 1), (845, .aload_n 1, 1), (846, .aload_n 0, 1), (847, .iload_n 3, 1), (848, .iconst 1, 1), (849, .iadd, 1), (850, .iaload, 1)]
theorem ro_Law450 : rw_Law450.all (fun r => decide (decode code r.1 = .ok r.2)) = true := by decide +kernel
theorem d_Law_790 : decode code 790 = .ok (.aload_n 2, 1) := am_row (r := (790, .aload_n 2, 1)) ro_Law450 0 rfl
theorem d_Law_791 : decode code 791 = .ok (.invokevirtual 114, 3) := am_row (r := (791, .invokevirtual 114, 3)) ro_Law450 1 rfl
theorem d_Law_794 : decode code 794 = .ok (.if_icmp .eq 363, 3) := am_row (r := (794, .if_icmp .eq 363, 3)) ro_Law450 2 rfl
theorem d_Law_797 : decode code 797 = .ok (.iconst 0, 1) := am_row (r := (797, .iconst 0, 1)) ro_Law450 3 rfl
theorem d_Law_798 : decode code 798 = .ok (.ireturn, 1) := am_row (r := (798, .ireturn, 1)) ro_Law450 4 rfl
theorem d_Law_799 : decode code 799 = .ok (.aload_n 1, 1) := am_row (r := (799, .aload_n 1, 1)) ro_Law450 5 rfl
theorem d_Law_800 : decode code 800 = .ok (.invokevirtual 115, 3) := am_row (r := (800, .invokevirtual 115, 3)) ro_Law450 6 rfl
theorem d_Law_803 : decode code 803 = .ok (.aload_n 2, 1) := am_row (r := (803, .aload_n 2, 1)) ro_Law450 7 rfl
theorem d_Law_804 : decode code 804 = .ok (.invokevirtual 118, 3) := am_row (r := (804, .invokevirtual 118, 3)) ro_Law450 8 rfl
theorem d_Law_807 : decode code 807 = .ok (.if_icmp .eq 350, 3) := am_row (r := (807, .if_icmp .eq 350, 3)) ro_Law450 9 rfl
theorem d_Law_810 : decode code 810 = .ok (.iconst 0, 1) := am_row (r := (810, .iconst 0, 1)) ro_Law450 10 rfl
theorem d_Law_811 : decode code 811 = .ok (.ireturn, 1) := am_row (r := (811, .ireturn, 1)) ro_Law450 11 rfl
theorem d_Law_812 : decode code 812 = .ok (.aload_n 1, 1) := am_row (r := (812, .aload_n 1, 1)) ro_Law450 12 rfl
theorem d_Law_813 : decode code 813 = .ok (.aload_n 0, 1) := am_row (r := (813, .aload_n 0, 1)) ro_Law450 13 rfl
theorem d_Law_814 : decode code 814 = .ok (.iload_n 3, 1) := am_row (r := (814, .iload_n 3, 1)) ro_Law450 14 rfl
theorem d_Law_815 : decode code 815 = .ok (.iconst 1, 1) := am_row (r := (815, .iconst 1, 1)) ro_Law450 15 rfl
theorem d_Law_816 : decode code 816 = .ok (.iadd, 1) := am_row (r := (816, .iadd, 1)) ro_Law450 16 rfl
theorem d_Law_817 : decode code 817 = .ok (.iaload, 1) := am_row (r := (817, .iaload, 1)) ro_Law450 17 rfl
theorem d_Law_818 : decode code 818 = .ok (.aload_n 0, 1) := am_row (r := (818, .aload_n 0, 1)) ro_Law450 18 rfl
theorem d_Law_819 : decode code 819 = .ok (.iload_n 3, 1) := am_row (r := (819, .iload_n 3, 1)) ro_Law450 19 rfl
theorem d_Law_820 : decode code 820 = .ok (.iconst 2, 1) := am_row (r := (820, .iconst 2, 1)) ro_Law450 20 rfl
theorem d_Law_821 : decode code 821 = .ok (.iadd, 1) := am_row (r := (821, .iadd, 1)) ro_Law450 21 rfl
theorem d_Law_822 : decode code 822 = .ok (.iaload, 1) := am_row (r := (822, .iaload, 1)) ro_Law450 22 rfl
theorem d_Law_823 : decode code 823 = .ok (.invokevirtual 119, 3) := am_row (r := (823, .invokevirtual 119, 3)) ro_Law450 23 rfl
theorem d_Law_826 : decode code 826 = .ok (.aload_n 2, 1) := am_row (r := (826, .aload_n 2, 1)) ro_Law450 24 rfl
theorem d_Law_827 : decode code 827 = .ok (.aload_n 0, 1) := am_row (r := (827, .aload_n 0, 1)) ro_Law450 25 rfl
theorem d_Law_828 : decode code 828 = .ok (.iload_n 3, 1) := am_row (r := (828, .iload_n 3, 1)) ro_Law450 26 rfl
theorem d_Law_829 : decode code 829 = .ok (.iconst 1, 1) := am_row (r := (829, .iconst 1, 1)) ro_Law450 27 rfl
theorem d_Law_830 : decode code 830 = .ok (.iadd, 1) := am_row (r := (830, .iadd, 1)) ro_Law450 28 rfl
theorem d_Law_831 : decode code 831 = .ok (.iaload, 1) := am_row (r := (831, .iaload, 1)) ro_Law450 29 rfl
theorem d_Law_832 : decode code 832 = .ok (.aload_n 0, 1) := am_row (r := (832, .aload_n 0, 1)) ro_Law450 30 rfl
theorem d_Law_833 : decode code 833 = .ok (.iload_n 3, 1) := am_row (r := (833, .iload_n 3, 1)) ro_Law450 31 rfl
theorem d_Law_834 : decode code 834 = .ok (.iconst 2, 1) := am_row (r := (834, .iconst 2, 1)) ro_Law450 32 rfl
theorem d_Law_835 : decode code 835 = .ok (.iadd, 1) := am_row (r := (835, .iadd, 1)) ro_Law450 33 rfl
theorem d_Law_836 : decode code 836 = .ok (.iaload, 1) := am_row (r := (836, .iaload, 1)) ro_Law450 34 rfl
theorem d_Law_837 : decode code 837 = .ok (.invokevirtual 122, 3) := am_row (r := (837, .invokevirtual 122, 3)) ro_Law450 35 rfl
theorem d_Law_840 : decode code 840 = .ok (.if_icmp .eq 317, 3) := am_row (r := (840, .if_icmp .eq 317, 3)) ro_Law450 36 rfl
theorem d_Law_843 : decode code 843 = .ok (.iconst 0, 1) := am_row (r := (843, .iconst 0, 1)) ro_Law450 37 rfl
theorem d_Law_844 : decode code 844 = .ok (.ireturn, 1) := am_row (r := (844, .ireturn, 1)) ro_Law450 38 rfl
theorem d_Law_845 : decode code 845 = .ok (.aload_n 1, 1) := am_row (r := (845, .aload_n 1, 1)) ro_Law450 39 rfl
theorem d_Law_846 : decode code 846 = .ok (.aload_n 0, 1) := am_row (r := (846, .aload_n 0, 1)) ro_Law450 40 rfl
theorem d_Law_847 : decode code 847 = .ok (.iload_n 3, 1) := am_row (r := (847, .iload_n 3, 1)) ro_Law450 41 rfl
theorem d_Law_848 : decode code 848 = .ok (.iconst 1, 1) := am_row (r := (848, .iconst 1, 1)) ro_Law450 42 rfl
theorem d_Law_849 : decode code 849 = .ok (.iadd, 1) := am_row (r := (849, .iadd, 1)) ro_Law450 43 rfl
theorem d_Law_850 : decode code 850 = .ok (.iaload, 1) := am_row (r := (850, .iaload, 1)) ro_Law450 44 rfl
def rw_Law495 : List (Nat × Instr × Nat) := [(851, .aload_n 0, 1), (852, .iload_n 3, 1), (853, .iconst 2, 1), (854, .iadd, 1), (855, .iaload, 1), (856, .invokevirtual 123, 3), (859, .aload_n 2, 1), (860, .aload_n 0, 1), (861, .iload_n 3, 1), (862, .iconst 1, 1), (863, .iadd, 1), (864, .iaload, 1), (865, .aload_n 0, 1), (866, .iload_n 3, 1), (867, .iconst 2, 1), (868, .iadd, 1), (869, .iaload, 1), (870, .invokevirtual 126, 3), (873, .if_icmp .eq 284, 3), (876, .iconst 0, 1), (877, .ireturn, 1), (878, .aload_n 1, 1), (879, .aload_n 0, 1), (880, .iload_n 3, 1), (881, .iconst 1, 1), (882, .iadd, 1), (883, .iaload, 1), (884, .aload_n 0, 1), (885, .iload_n 3, 1), (886, .iconst 2, 1), (887, .iadd, 1), (888, .iaload, 1), (889, .aload_n 0, 1), (890, .iload_n 3, 1), (891, .iconst 3, 1), (892, .iadd, 1), (893, .iaload, 1), (894, .invokevirtual 127, 3), (897, .aload_n 2, 1), (898, .aload_n 0, 1), (899, .iload_n 3, 1), (900, .iconst 1, 1), (901, .iadd, 1), (902, .iaload, 1), (903, .aload_n 0, 1)]
theorem ro_Law495 : rw_Law495.all (fun r => decide (decode code r.1 = .ok r.2)) = true := by decide +kernel
theorem d_Law_851 : decode code 851 = .ok (.aload_n 0, 1) := am_row (r := (851, .aload_n 0, 1)) ro_Law495 0 rfl
theorem d_Law_852 : decode code 852 = .ok (.iload_n 3, 1) := am_row (r := (852, .iload_n 3, 1)) ro_Law495 1 rfl
theorem d_Law_853 : decode code 853 = .ok (.iconst 2, 1) := am_row (r := (853, .iconst 2, 1)) ro_Law495 2 rfl
theorem d_Law_854 : decode code 854 = .ok (.iadd, 1) := am_row (r := (854, .iadd, 1)) ro_Law495 3 rfl
theorem d_Law_855 : decode code 855 = .ok (.iaload, 1) := am_row (r := (855, .iaload, 1)) ro_Law495 4 rfl
theorem d_Law_856 : decode code 856 = .ok (.invokevirtual 123, 3) := am_row (r := (856, .invokevirtual 123, 3)) ro_Law495 5 rfl
theorem d_Law_859 : decode code 859 = .ok (.aload_n 2, 1) := am_row (r := (859, .aload_n 2, 1)) ro_Law495 6 rfl
theorem d_Law_860 : decode code 860 = .ok (.aload_n 0, 1) := am_row (r := (860, .aload_n 0, 1)) ro_Law495 7 rfl
theorem d_Law_861 : decode code 861 = .ok (.iload_n 3, 1) := am_row (r := (861, .iload_n 3, 1)) ro_Law495 8 rfl
theorem d_Law_862 : decode code 862 = .ok (.iconst 1, 1) := am_row (r := (862, .iconst 1, 1)) ro_Law495 9 rfl
theorem d_Law_863 : decode code 863 = .ok (.iadd, 1) := am_row (r := (863, .iadd, 1)) ro_Law495 10 rfl
theorem d_Law_864 : decode code 864 = .ok (.iaload, 1) := am_row (r := (864, .iaload, 1)) ro_Law495 11 rfl
theorem d_Law_865 : decode code 865 = .ok (.aload_n 0, 1) := am_row (r := (865, .aload_n 0, 1)) ro_Law495 12 rfl
theorem d_Law_866 : decode code 866 = .ok (.iload_n 3, 1) := am_row (r := (866, .iload_n 3, 1)) ro_Law495 13 rfl
theorem d_Law_867 : decode code 867 = .ok (.iconst 2, 1) := am_row (r := (867, .iconst 2, 1)) ro_Law495 14 rfl
theorem d_Law_868 : decode code 868 = .ok (.iadd, 1) := am_row (r := (868, .iadd, 1)) ro_Law495 15 rfl
theorem d_Law_869 : decode code 869 = .ok (.iaload, 1) := am_row (r := (869, .iaload, 1)) ro_Law495 16 rfl
theorem d_Law_870 : decode code 870 = .ok (.invokevirtual 126, 3) := am_row (r := (870, .invokevirtual 126, 3)) ro_Law495 17 rfl
theorem d_Law_873 : decode code 873 = .ok (.if_icmp .eq 284, 3) := am_row (r := (873, .if_icmp .eq 284, 3)) ro_Law495 18 rfl
theorem d_Law_876 : decode code 876 = .ok (.iconst 0, 1) := am_row (r := (876, .iconst 0, 1)) ro_Law495 19 rfl
theorem d_Law_877 : decode code 877 = .ok (.ireturn, 1) := am_row (r := (877, .ireturn, 1)) ro_Law495 20 rfl
theorem d_Law_878 : decode code 878 = .ok (.aload_n 1, 1) := am_row (r := (878, .aload_n 1, 1)) ro_Law495 21 rfl
theorem d_Law_879 : decode code 879 = .ok (.aload_n 0, 1) := am_row (r := (879, .aload_n 0, 1)) ro_Law495 22 rfl
theorem d_Law_880 : decode code 880 = .ok (.iload_n 3, 1) := am_row (r := (880, .iload_n 3, 1)) ro_Law495 23 rfl
theorem d_Law_881 : decode code 881 = .ok (.iconst 1, 1) := am_row (r := (881, .iconst 1, 1)) ro_Law495 24 rfl
theorem d_Law_882 : decode code 882 = .ok (.iadd, 1) := am_row (r := (882, .iadd, 1)) ro_Law495 25 rfl
theorem d_Law_883 : decode code 883 = .ok (.iaload, 1) := am_row (r := (883, .iaload, 1)) ro_Law495 26 rfl
theorem d_Law_884 : decode code 884 = .ok (.aload_n 0, 1) := am_row (r := (884, .aload_n 0, 1)) ro_Law495 27 rfl
theorem d_Law_885 : decode code 885 = .ok (.iload_n 3, 1) := am_row (r := (885, .iload_n 3, 1)) ro_Law495 28 rfl
theorem d_Law_886 : decode code 886 = .ok (.iconst 2, 1) := am_row (r := (886, .iconst 2, 1)) ro_Law495 29 rfl
theorem d_Law_887 : decode code 887 = .ok (.iadd, 1) := am_row (r := (887, .iadd, 1)) ro_Law495 30 rfl
theorem d_Law_888 : decode code 888 = .ok (.iaload, 1) := am_row (r := (888, .iaload, 1)) ro_Law495 31 rfl
theorem d_Law_889 : decode code 889 = .ok (.aload_n 0, 1) := am_row (r := (889, .aload_n 0, 1)) ro_Law495 32 rfl
theorem d_Law_890 : decode code 890 = .ok (.iload_n 3, 1) := am_row (r := (890, .iload_n 3, 1)) ro_Law495 33 rfl
theorem d_Law_891 : decode code 891 = .ok (.iconst 3, 1) := am_row (r := (891, .iconst 3, 1)) ro_Law495 34 rfl
theorem d_Law_892 : decode code 892 = .ok (.iadd, 1) := am_row (r := (892, .iadd, 1)) ro_Law495 35 rfl
theorem d_Law_893 : decode code 893 = .ok (.iaload, 1) := am_row (r := (893, .iaload, 1)) ro_Law495 36 rfl
theorem d_Law_894 : decode code 894 = .ok (.invokevirtual 127, 3) := am_row (r := (894, .invokevirtual 127, 3)) ro_Law495 37 rfl
theorem d_Law_897 : decode code 897 = .ok (.aload_n 2, 1) := am_row (r := (897, .aload_n 2, 1)) ro_Law495 38 rfl
theorem d_Law_898 : decode code 898 = .ok (.aload_n 0, 1) := am_row (r := (898, .aload_n 0, 1)) ro_Law495 39 rfl
theorem d_Law_899 : decode code 899 = .ok (.iload_n 3, 1) := am_row (r := (899, .iload_n 3, 1)) ro_Law495 40 rfl
theorem d_Law_900 : decode code 900 = .ok (.iconst 1, 1) := am_row (r := (900, .iconst 1, 1)) ro_Law495 41 rfl
theorem d_Law_901 : decode code 901 = .ok (.iadd, 1) := am_row (r := (901, .iadd, 1)) ro_Law495 42 rfl
theorem d_Law_902 : decode code 902 = .ok (.iaload, 1) := am_row (r := (902, .iaload, 1)) ro_Law495 43 rfl
theorem d_Law_903 : decode code 903 = .ok (.aload_n 0, 1) := am_row (r := (903, .aload_n 0, 1)) ro_Law495 44 rfl
