theorem dX6_lawBy_79 : decode cX6_lawBy 79 = .ok (.iload 9, 2) := by decide +kernel
theorem dX6_lawBy_81 : decode cX6_lawBy 81 = .ok (.ifCond .eq 8, 3) := by decide +kernel
theorem dX6_lawBy_84 : decode cX6_lawBy 84 = .ok (.iload 5, 2) := by decide +kernel
theorem dX6_lawBy_86 : decode cX6_lawBy 86 = .ok (.goto 4, 3) := by decide +kernel
theorem dX6_lawBy_89 : decode cX6_lawBy 89 = .ok (.iload_n 3, 1) := by decide +kernel
theorem dX6_lawBy_90 : decode cX6_lawBy 90 = .ok (.istore_n 3, 1) := by decide +kernel
theorem dX6_lawBy_91 : decode cX6_lawBy 91 = .ok (.iload 9, 2) := by decide +kernel
theorem dX6_lawBy_93 : decode cX6_lawBy 93 = .ok (.ifCond .eq 8, 3) := by decide +kernel
theorem dX6_lawBy_96 : decode cX6_lawBy 96 = .ok (.iload 8, 2) := by decide +kernel
theorem dX6_lawBy_98 : decode cX6_lawBy 98 = .ok (.goto 5, 3) := by decide +kernel
theorem dX6_lawBy_101 : decode cX6_lawBy 101 = .ok (.iload 4, 2) := by decide +kernel
theorem dX6_lawBy_103 : decode cX6_lawBy 103 = .ok (.istore 4, 2) := by decide +kernel
theorem dX6_lawBy_105 : decode cX6_lawBy 105 = .ok (.iinc 5 1, 3) := by decide +kernel
theorem dX6_lawBy_108 : decode cX6_lawBy 108 = .ok (.goto (-100), 3) := by decide +kernel
theorem dX6_lawBy_111 : decode cX6_lawBy 111 = .ok (.iload_n 1, 1) := by decide +kernel
theorem dX6_lawBy_112 : decode cX6_lawBy 112 = .ok (.ifCond .ne 7, 3) := by decide +kernel
theorem dX6_lawBy_115 : decode cX6_lawBy 115 = .ok (.iload_n 3, 1) := by decide +kernel
theorem dX6_lawBy_116 : decode cX6_lawBy 116 = .ok (.goto 5, 3) := by decide +kernel
theorem dX6_lawBy_119 : decode cX6_lawBy 119 = .ok (.iload 4, 2) := by decide +kernel
theorem dX6_lawBy_121 : decode cX6_lawBy 121 = .ok (.ireturn, 1) := by decide +kernel
theorem dX6_least_0 : decode cX6_least 0 = .ok (.iload_n 1, 1) := by decide +kernel
theorem dX6_least_1 : decode cX6_least 1 = .ok (.i2l, 1) := by decide +kernel
theorem dX6_least_2 : decode cX6_least 2 = .ok (.lconst 0, 1) := by decide +kernel
theorem dX6_least_3 : decode cX6_least 3 = .ok (.lconst 1, 1) := by decide +kernel
theorem dX6_least_4 : decode cX6_least 4 = .ok (.invokestatic 51, 3) := by decide +kernel
theorem dX6_least_7 : decode cX6_least 7 = .ok (.ifCond .eq 12, 3) := by decide +kernel
theorem dX6_least_10 : decode cX6_least 10 = .ok (.aload_n 0, 1) := by decide +kernel
theorem dX6_least_11 : decode cX6_least 11 = .ok (.iload_n 1, 1) := by decide +kernel
theorem dX6_least_12 : decode cX6_least 12 = .ok (.iconst 0, 1) := by decide +kernel
theorem dX6_least_13 : decode cX6_least 13 = .ok (.invokevirtual 157, 3) := by decide +kernel
theorem dX6_least_16 : decode cX6_least 16 = .ok (.goto 4, 3) := by decide +kernel
theorem dX6_least_19 : decode cX6_least 19 = .ok (.iconst (-1), 1) := by decide +kernel
theorem dX6_least_20 : decode cX6_least 20 = .ok (.ireturn, 1) := by decide +kernel
theorem dX6_both_0 : decode cX6_both 0 = .ok (.iload_n 1, 1) := by decide +kernel
theorem dX6_both_1 : decode cX6_both 1 = .ok (.i2l, 1) := by decide +kernel
theorem dX6_both_2 : decode cX6_both 2 = .ok (.lconst 0, 1) := by decide +kernel
theorem dX6_both_3 : decode cX6_both 3 = .ok (.lconst 1, 1) := by decide +kernel
theorem dX6_both_4 : decode cX6_both 4 = .ok (.invokestatic 51, 3) := by decide +kernel
theorem dX6_both_7 : decode cX6_both 7 = .ok (.ifCond .eq 12, 3) := by decide +kernel
theorem dX6_both_10 : decode cX6_both 10 = .ok (.aload_n 0, 1) := by decide +kernel
theorem dX6_both_11 : decode cX6_both 11 = .ok (.iload_n 1, 1) := by decide +kernel
theorem dX6_both_12 : decode cX6_both 12 = .ok (.iconst 1, 1) := by decide +kernel
theorem dX6_both_13 : decode cX6_both 13 = .ok (.invokevirtual 157, 3) := by decide +kernel
theorem dX6_both_16 : decode cX6_both 16 = .ok (.goto 4, 3) := by decide +kernel
theorem dX6_both_19 : decode cX6_both 19 = .ok (.iconst (-1), 1) := by decide +kernel
theorem dX6_both_20 : decode cX6_both 20 = .ok (.ireturn, 1) := by decide +kernel
theorem dX6_many_0 : decode cX6_many 0 = .ok (.iconst 0, 1) := by decide +kernel
theorem dX6_many_1 : decode cX6_many 1 = .ok (.istore_n 1, 1) := by decide +kernel
theorem dX6_many_2 : decode cX6_many 2 = .ok (.iload_n 0, 1) := by decide +kernel
theorem dX6_many_3 : decode cX6_many 3 = .ok (.istore_n 2, 1) := by decide +kernel
theorem dX6_many_4 : decode cX6_many 4 = .ok (.iload_n 2, 1) := by decide +kernel
theorem dX6_many_5 : decode cX6_many 5 = .ok (.ifCond .eq 15, 3) := by decide +kernel
theorem dX6_many_8 : decode cX6_many 8 = .ok (.iinc 1 1, 3) := by decide +kernel
theorem dX6_many_11 : decode cX6_many 11 = .ok (.iload_n 2, 1) := by decide +kernel
theorem dX6_many_12 : decode cX6_many 12 = .ok (.iload_n 2, 1) := by decide +kernel
theorem dX6_many_13 : decode cX6_many 13 = .ok (.iconst 1, 1) := by decide +kernel
theorem dX6_many_14 : decode cX6_many 14 = .ok (.isub, 1) := by decide +kernel
theorem dX6_many_15 : decode cX6_many 15 = .ok (.iand, 1) := by decide +kernel
theorem dX6_many_16 : decode cX6_many 16 = .ok (.istore_n 2, 1) := by decide +kernel
theorem dX6_many_17 : decode cX6_many 17 = .ok (.goto (-13), 3) := by decide +kernel
theorem dX6_many_20 : decode cX6_many 20 = .ok (.iload_n 1, 1) := by decide +kernel
theorem dX6_many_21 : decode cX6_many 21 = .ok (.ireturn, 1) := by decide +kernel
theorem dX6_wholly_0 : decode cX6_wholly 0 = .ok (.iload_n 1, 1) := by decide +kernel
theorem dX6_wholly_1 : decode cX6_wholly 1 = .ok (.i2l, 1) := by decide +kernel
theorem dX6_wholly_2 : decode cX6_wholly 2 = .ok (.lconst 0, 1) := by decide +kernel
theorem dX6_wholly_3 : decode cX6_wholly 3 = .ok (.ldc2_w 140, 3) := by decide +kernel
theorem dX6_wholly_6 : decode cX6_wholly 6 = .ok (.invokestatic 51, 3) := by decide +kernel
theorem dX6_wholly_9 : decode cX6_wholly 9 = .ok (.ifCond .eq 13, 3) := by decide +kernel
theorem dX6_wholly_12 : decode cX6_wholly 12 = .ok (.iload_n 2, 1) := by decide +kernel
theorem dX6_wholly_13 : decode cX6_wholly 13 = .ok (.i2l, 1) := by decide +kernel
theorem dX6_wholly_14 : decode cX6_wholly 14 = .ok (.lconst 0, 1) := by decide +kernel
theorem dX6_wholly_15 : decode cX6_wholly 15 = .ok (.lconst 1, 1) := by decide +kernel
theorem dX6_wholly_16 : decode cX6_wholly 16 = .ok (.invokestatic 51, 3) := by decide +kernel
theorem dX6_wholly_19 : decode cX6_wholly 19 = .ok (.ifCond .ne 5, 3) := by decide +kernel
theorem dX6_wholly_22 : decode cX6_wholly 22 = .ok (.iconst (-1), 1) := by decide +kernel
theorem dX6_wholly_23 : decode cX6_wholly 23 = .ok (.ireturn, 1) := by decide +kernel
theorem dX6_wholly_24 : decode cX6_wholly 24 = .ok (.aload_n 0, 1) := by decide +kernel
theorem dX6_wholly_25 : decode cX6_wholly 25 = .ok (.invokevirtual 142, 3) := by decide +kernel
theorem dX6_wholly_28 : decode cX6_wholly 28 = .ok (.aload_n 0, 1) := by decide +kernel
theorem dX6_wholly_29 : decode cX6_wholly 29 = .ok (.invokevirtual 151, 3) := by decide +kernel
theorem dX6_wholly_32 : decode cX6_wholly 32 = .ok (.istore_n 3, 1) := by decide +kernel
theorem dX6_wholly_33 : decode cX6_wholly 33 = .ok (.iconst 0, 1) := by decide +kernel
theorem dX6_wholly_34 : decode cX6_wholly 34 = .ok (.istore 4, 2) := by decide +kernel
theorem dX6_wholly_36 : decode cX6_wholly 36 = .ok (.iconst (-1), 1) := by decide +kernel
theorem dX6_wholly_37 : decode cX6_wholly 37 = .ok (.istore 5, 2) := by decide +kernel
theorem dX6_wholly_39 : decode cX6_wholly 39 = .ok (.iconst 0, 1) := by decide +kernel
theorem dX6_wholly_40 : decode cX6_wholly 40 = .ok (.istore 6, 2) := by decide +kernel
theorem dX6_wholly_42 : decode cX6_wholly 42 = .ok (.iload 6, 2) := by decide +kernel
theorem dX6_wholly_44 : decode cX6_wholly 44 = .ok (.iload_n 3, 1) := by decide +kernel
theorem dX6_wholly_45 : decode cX6_wholly 45 = .ok (.if_icmp .gt 86, 3) := by decide +kernel
theorem dX6_wholly_48 : decode cX6_wholly 48 = .ok (.iload 6, 2) := by decide +kernel
theorem dX6_wholly_50 : decode cX6_wholly 50 = .ok (.iload_n 3, 1) := by decide +kernel
theorem dX6_wholly_51 : decode cX6_wholly 51 = .ok (.iconst (-1), 1) := by decide +kernel
theorem dX6_wholly_52 : decode cX6_wholly 52 = .ok (.ixor, 1) := by decide +kernel
theorem dX6_wholly_53 : decode cX6_wholly 53 = .ok (.iand, 1) := by decide +kernel
theorem dX6_wholly_54 : decode cX6_wholly 54 = .ok (.ifCond .ne 71, 3) := by decide +kernel
theorem dX6_wholly_57 : decode cX6_wholly 57 = .ok (.iconst 0, 1) := by decide +kernel
theorem dX6_wholly_58 : decode cX6_wholly 58 = .ok (.istore 7, 2) := by decide +kernel
theorem dX6_wholly_60 : decode cX6_wholly 60 = .ok (.iload 7, 2) := by decide +kernel
theorem dX6_wholly_62 : decode cX6_wholly 62 = .ok (.iload_n 1, 1) := by decide +kernel
theorem dX6_wholly_63 : decode cX6_wholly 63 = .ok (.if_icmp .ge 17, 3) := by decide +kernel
theorem dX6_wholly_66 : decode cX6_wholly 66 = .ok (.aload_n 0, 1) := by decide +kernel
theorem dX6_wholly_67 : decode cX6_wholly 67 = .ok (.iconst 0, 1) := by decide +kernel
theorem dX6_wholly_68 : decode cX6_wholly 68 = .ok (.iload 6, 2) := by decide +kernel
theorem dX6_wholly_70 : decode cX6_wholly 70 = .ok (.invokevirtual 124, 3) := by decide +kernel
theorem dX6_wholly_73 : decode cX6_wholly 73 = .ok (.pop, 1) := by decide +kernel
theorem dX6_wholly_74 : decode cX6_wholly 74 = .ok (.iinc 7 1, 3) := by decide +kernel
theorem dX6_wholly_77 : decode cX6_wholly 77 = .ok (.goto (-17), 3) := by decide +kernel
theorem dX6_wholly_80 : decode cX6_wholly 80 = .ok (.aload_n 0, 1) := by decide +kernel
theorem dX6_wholly_81 : decode cX6_wholly 81 = .ok (.invokevirtual 134, 3) := by decide +kernel
theorem dX6_wholly_84 : decode cX6_wholly 84 = .ok (.invokestatic 160, 3) := by decide +kernel
theorem dX6_wholly_87 : decode cX6_wholly 87 = .ok (.istore 7, 2) := by decide +kernel
theorem dX6_wholly_89 : decode cX6_wholly 89 = .ok (.iload 7, 2) := by decide +kernel
theorem dX6_wholly_91 : decode cX6_wholly 91 = .ok (.iload 5, 2) := by decide +kernel
theorem dX6_wholly_93 : decode cX6_wholly 93 = .ok (.if_icmp .le 8, 3) := by decide +kernel
theorem dX6_wholly_96 : decode cX6_wholly 96 = .ok (.iload 6, 2) := by decide +kernel
theorem dX6_wholly_98 : decode cX6_wholly 98 = .ok (.goto 5, 3) := by decide +kernel
theorem dX6_wholly_101 : decode cX6_wholly 101 = .ok (.iload 4, 2) := by decide +kernel
theorem dX6_wholly_103 : decode cX6_wholly 103 = .ok (.istore 4, 2) := by decide +kernel
theorem dX6_wholly_105 : decode cX6_wholly 105 = .ok (.iload 7, 2) := by decide +kernel
theorem dX6_wholly_107 : decode cX6_wholly 107 = .ok (.iload 5, 2) := by decide +kernel
theorem dX6_wholly_109 : decode cX6_wholly 109 = .ok (.if_icmp .le 8, 3) := by decide +kernel
theorem dX6_wholly_112 : decode cX6_wholly 112 = .ok (.iload 7, 2) := by decide +kernel
theorem dX6_wholly_114 : decode cX6_wholly 114 = .ok (.goto 5, 3) := by decide +kernel
theorem dX6_wholly_117 : decode cX6_wholly 117 = .ok (.iload 5, 2) := by decide +kernel
theorem dX6_wholly_119 : decode cX6_wholly 119 = .ok (.istore 5, 2) := by decide +kernel
theorem dX6_wholly_121 : decode cX6_wholly 121 = .ok (.aload_n 0, 1) := by decide +kernel
theorem dX6_wholly_122 : decode cX6_wholly 122 = .ok (.invokevirtual 145, 3) := by decide +kernel
theorem dX6_wholly_125 : decode cX6_wholly 125 = .ok (.iinc 6 1, 3) := by decide +kernel
theorem dX6_wholly_128 : decode cX6_wholly 128 = .ok (.goto (-86), 3) := by decide +kernel
theorem dX6_wholly_131 : decode cX6_wholly 131 = .ok (.iload_n 2, 1) := by decide +kernel
theorem dX6_wholly_132 : decode cX6_wholly 132 = .ok (.ifCond .ne 8, 3) := by decide +kernel
theorem dX6_wholly_135 : decode cX6_wholly 135 = .ok (.iload 4, 2) := by decide +kernel
theorem dX6_wholly_137 : decode cX6_wholly 137 = .ok (.goto 5, 3) := by decide +kernel
theorem dX6_wholly_140 : decode cX6_wholly 140 = .ok (.iload 5, 2) := by decide +kernel
theorem dX6_wholly_142 : decode cX6_wholly 142 = .ok (.ireturn, 1) := by decide +kernel
theorem dX6_drank_0 : decode cX6_drank 0 = .ok (.iload_n 1, 1) := by decide +kernel
theorem dX6_drank_1 : decode cX6_drank 1 = .ok (.i2l, 1) := by decide +kernel
theorem dX6_drank_2 : decode cX6_drank 2 = .ok (.lconst 0, 1) := by decide +kernel
theorem dX6_drank_3 : decode cX6_drank 3 = .ok (.ldc2_w 163, 3) := by decide +kernel
theorem dX6_drank_6 : decode cX6_drank 6 = .ok (.invokestatic 51, 3) := by decide +kernel
theorem dX6_drank_9 : decode cX6_drank 9 = .ok (.ifCond .eq 13, 3) := by decide +kernel
theorem dX6_drank_12 : decode cX6_drank 12 = .ok (.iload_n 2, 1) := by decide +kernel
theorem dX6_drank_13 : decode cX6_drank 13 = .ok (.i2l, 1) := by decide +kernel
theorem dX6_drank_14 : decode cX6_drank 14 = .ok (.lconst 0, 1) := by decide +kernel
theorem dX6_drank_15 : decode cX6_drank 15 = .ok (.lconst 1, 1) := by decide +kernel
theorem dX6_drank_16 : decode cX6_drank 16 = .ok (.invokestatic 51, 3) := by decide +kernel
theorem dX6_drank_19 : decode cX6_drank 19 = .ok (.ifCond .ne 5, 3) := by decide +kernel
theorem dX6_drank_22 : decode cX6_drank 22 = .ok (.iconst (-1), 1) := by decide +kernel
theorem dX6_drank_23 : decode cX6_drank 23 = .ok (.ireturn, 1) := by decide +kernel
theorem dX6_drank_24 : decode cX6_drank 24 = .ok (.iconst 0, 1) := by decide +kernel
theorem dX6_drank_25 : decode cX6_drank 25 = .ok (.istore_n 3, 1) := by decide +kernel
theorem dX6_drank_26 : decode cX6_drank 26 = .ok (.bipush (-4), 2) := by decide +kernel
theorem dX6_drank_28 : decode cX6_drank 28 = .ok (.istore 4, 2) := by decide +kernel
theorem dX6_drank_30 : decode cX6_drank 30 = .ok (.iconst 0, 1) := by decide +kernel
theorem dX6_drank_31 : decode cX6_drank 31 = .ok (.istore 5, 2) := by decide +kernel
theorem dX6_drank_33 : decode cX6_drank 33 = .ok (.iload 5, 2) := by decide +kernel
theorem dX6_drank_35 : decode cX6_drank 35 = .ok (.iconst 1, 1) := by decide +kernel
theorem dX6_drank_36 : decode cX6_drank 36 = .ok (.aload_n 0, 1) := by decide +kernel
theorem dX6_drank_37 : decode cX6_drank 37 = .ok (.getfield 7, 3) := by decide +kernel
theorem dX6_drank_40 : decode cX6_drank 40 = .ok (.bipush 12, 2) := by decide +kernel
theorem dX6_drank_42 : decode cX6_drank 42 = .ok (.iaload, 1) := by decide +kernel
theorem dX6_drank_43 : decode cX6_drank 43 = .ok (.ishl, 1) := by decide +kernel
theorem dX6_drank_44 : decode cX6_drank 44 = .ok (.if_icmp .ge 108, 3) := by decide +kernel
theorem dX6_drank_47 : decode cX6_drank 47 = .ok (.iconst 0, 1) := by decide +kernel
theorem dX6_drank_48 : decode cX6_drank 48 = .ok (.istore 6, 2) := by decide +kernel
theorem dX6_drank_50 : decode cX6_drank 50 = .ok (.iconst 0, 1) := by decide +kernel
theorem dX6_drank_51 : decode cX6_drank 51 = .ok (.istore 7, 2) := by decide +kernel
theorem dX6_drank_53 : decode cX6_drank 53 = .ok (.iload 7, 2) := by decide +kernel
theorem dX6_drank_55 : decode cX6_drank 55 = .ok (.aload_n 0, 1) := by decide +kernel
theorem dX6_drank_56 : decode cX6_drank 56 = .ok (.getfield 7, 3) := by decide +kernel
theorem dX6_drank_59 : decode cX6_drank 59 = .ok (.bipush 12, 2) := by decide +kernel
theorem dX6_drank_61 : decode cX6_drank 61 = .ok (.iaload, 1) := by decide +kernel
theorem dX6_drank_62 : decode cX6_drank 62 = .ok (.if_icmp .ge 51, 3) := by decide +kernel
theorem dX6_drank_65 : decode cX6_drank 65 = .ok (.iload 6, 2) := by decide +kernel
theorem dX6_drank_67 : decode cX6_drank 67 = .ok (.iload 5, 2) := by decide +kernel
theorem dX6_drank_69 : decode cX6_drank 69 = .ok (.iload 7, 2) := by decide +kernel
theorem dX6_drank_71 : decode cX6_drank 71 = .ok (.ishr, 1) := by decide +kernel
theorem dX6_drank_72 : decode cX6_drank 72 = .ok (.iconst 1, 1) := by decide +kernel
theorem dX6_drank_73 : decode cX6_drank 73 = .ok (.iand, 1) := by decide +kernel
theorem dX6_drank_74 : decode cX6_drank 74 = .ok (.ifCond .eq 12, 3) := by decide +kernel
theorem dX6_drank_77 : decode cX6_drank 77 = .ok (.aload_n 0, 1) := by decide +kernel
theorem dX6_drank_78 : decode cX6_drank 78 = .ok (.iload 7, 2) := by decide +kernel
theorem dX6_drank_80 : decode cX6_drank 80 = .ok (.invokevirtual 67, 3) := by decide +kernel
theorem dX6_drank_83 : decode cX6_drank 83 = .ok (.ifCond .eq 7, 3) := by decide +kernel
theorem dX6_drank_86 : decode cX6_drank 86 = .ok (.iconst 0, 1) := by decide +kernel
theorem dX6_drank_87 : decode cX6_drank 87 = .ok (.goto 17, 3) := by decide +kernel
theorem dX6_drank_90 : decode cX6_drank 90 = .ok (.aload_n 0, 1) := by decide +kernel
theorem dX6_drank_91 : decode cX6_drank 91 = .ok (.iload 7, 2) := by decide +kernel
theorem dX6_drank_93 : decode cX6_drank 93 = .ok (.invokevirtual 63, 3) := by decide +kernel
theorem dX6_drank_96 : decode cX6_drank 96 = .ok (.aload_n 0, 1) := by decide +kernel
theorem dX6_drank_97 : decode cX6_drank 97 = .ok (.iload 7, 2) := by decide +kernel
theorem dX6_drank_99 : decode cX6_drank 99 = .ok (.iconst 3, 1) := by decide +kernel
theorem dX6_drank_100 : decode cX6_drank 100 = .ok (.invokevirtual 55, 3) := by decide +kernel
theorem dX6_drank_103 : decode cX6_drank 103 = .ok (.isub, 1) := by decide +kernel
theorem dX6_drank_104 : decode cX6_drank 104 = .ok (.iadd, 1) := by decide +kernel
theorem dX6_drank_105 : decode cX6_drank 105 = .ok (.istore 6, 2) := by decide +kernel
theorem dX6_drank_107 : decode cX6_drank 107 = .ok (.iinc 7 1, 3) := by decide +kernel
theorem dX6_drank_110 : decode cX6_drank 110 = .ok (.goto (-57), 3) := by decide +kernel
theorem dX6_drank_113 : decode cX6_drank 113 = .ok (.iload 6, 2) := by decide +kernel
theorem dX6_drank_115 : decode cX6_drank 115 = .ok (.iload_n 1, 1) := by decide +kernel
theorem dX6_drank_116 : decode cX6_drank 116 = .ok (.if_icmp .ne 12, 3) := by decide +kernel
theorem dX6_drank_119 : decode cX6_drank 119 = .ok (.iload_n 3, 1) := by decide +kernel
theorem dX6_drank_120 : decode cX6_drank 120 = .ok (.ifCond .ne 8, 3) := by decide +kernel
theorem dX6_drank_123 : decode cX6_drank 123 = .ok (.iload 5, 2) := by decide +kernel
theorem dX6_drank_125 : decode cX6_drank 125 = .ok (.goto 5, 3) := by decide +kernel
theorem dX6_drank_128 : decode cX6_drank 128 = .ok (.iload 4, 2) := by decide +kernel
theorem dX6_drank_130 : decode cX6_drank 130 = .ok (.istore 4, 2) := by decide +kernel
theorem dX6_drank_132 : decode cX6_drank 132 = .ok (.iload_n 3, 1) := by decide +kernel
theorem dX6_drank_133 : decode cX6_drank 133 = .ok (.iload 6, 2) := by decide +kernel
theorem dX6_drank_135 : decode cX6_drank 135 = .ok (.iload_n 1, 1) := by decide +kernel
theorem dX6_drank_136 : decode cX6_drank 136 = .ok (.if_icmp .ne 7, 3) := by decide +kernel
theorem dX6_drank_139 : decode cX6_drank 139 = .ok (.iconst 1, 1) := by decide +kernel
theorem dX6_drank_140 : decode cX6_drank 140 = .ok (.goto 4, 3) := by decide +kernel
theorem dX6_drank_143 : decode cX6_drank 143 = .ok (.iconst 0, 1) := by decide +kernel
theorem dX6_drank_144 : decode cX6_drank 144 = .ok (.iadd, 1) := by decide +kernel
theorem dX6_drank_145 : decode cX6_drank 145 = .ok (.istore_n 3, 1) := by decide +kernel
theorem dX6_drank_146 : decode cX6_drank 146 = .ok (.iinc 5 1, 3) := by decide +kernel
theorem dX6_drank_149 : decode cX6_drank 149 = .ok (.goto (-116), 3) := by decide +kernel
theorem dX6_drank_152 : decode cX6_drank 152 = .ok (.iload_n 2, 1) := by decide +kernel
theorem dX6_drank_153 : decode cX6_drank 153 = .ok (.ifCond .ne 7, 3) := by decide +kernel
theorem dX6_drank_156 : decode cX6_drank 156 = .ok (.iload_n 3, 1) := by decide +kernel
theorem dX6_drank_157 : decode cX6_drank 157 = .ok (.goto 5, 3) := by decide +kernel
theorem dX6_drank_160 : decode cX6_drank 160 = .ok (.iload 4, 2) := by decide +kernel
theorem dX6_drank_162 : decode cX6_drank 162 = .ok (.ireturn, 1) := by decide +kernel
theorem dX6_holds_0 : decode cX6_holds 0 = .ok (.iload_n 1, 1) := by decide +kernel
theorem dX6_holds_1 : decode cX6_holds 1 = .ok (.i2l, 1) := by decide +kernel
theorem dX6_holds_2 : decode cX6_holds 2 = .ok (.lconst 0, 1) := by decide +kernel
theorem dX6_holds_3 : decode cX6_holds 3 = .ok (.ldc2_w 140, 3) := by decide +kernel
theorem dX6_holds_6 : decode cX6_holds 6 = .ok (.invokestatic 51, 3) := by decide +kernel
theorem dX6_holds_9 : decode cX6_holds 9 = .ok (.ifCond .ne 5, 3) := by decide +kernel
theorem dX6_holds_12 : decode cX6_holds 12 = .ok (.iconst (-1), 1) := by decide +kernel
theorem dX6_holds_13 : decode cX6_holds 13 = .ok (.ireturn, 1) := by decide +kernel
theorem dX6_holds_14 : decode cX6_holds 14 = .ok (.ldc 165, 2) := by decide +kernel
theorem dX6_holds_16 : decode cX6_holds 16 = .ok (.istore_n 2, 1) := by decide +kernel
theorem dX6_holds_17 : decode cX6_holds 17 = .ok (.iconst 1, 1) := by decide +kernel
theorem dX6_holds_18 : decode cX6_holds 18 = .ok (.istore_n 3, 1) := by decide +kernel
theorem dX6_holds_19 : decode cX6_holds 19 = .ok (.iload_n 3, 1) := by decide +kernel
theorem dX6_holds_20 : decode cX6_holds 20 = .ok (.iload_n 1, 1) := by decide +kernel
theorem dX6_holds_21 : decode cX6_holds 21 = .ok (.if_icmp .gt 45, 3) := by decide +kernel
theorem dX6_holds_24 : decode cX6_holds 24 = .ok (.aload_n 0, 1) := by decide +kernel
theorem dX6_holds_25 : decode cX6_holds 25 = .ok (.getfield 7, 3) := by decide +kernel
theorem dX6_holds_28 : decode cX6_holds 28 = .ok (.bipush 8, 2) := by decide +kernel
theorem dX6_holds_30 : decode cX6_holds 30 = .ok (.iaload, 1) := by decide +kernel
theorem dX6_holds_31 : decode cX6_holds 31 = .ok (.iload_n 3, 1) := by decide +kernel
theorem dX6_holds_32 : decode cX6_holds 32 = .ok (.iadd, 1) := by decide +kernel
theorem dX6_holds_33 : decode cX6_holds 33 = .ok (.bipush 10, 2) := by decide +kernel
theorem dX6_holds_35 : decode cX6_holds 35 = .ok (.idiv, 1) := by decide +kernel
theorem dX6_holds_36 : decode cX6_holds 36 = .ok (.istore 4, 2) := by decide +kernel
theorem dX6_holds_38 : decode cX6_holds 38 = .ok (.iload_n 2, 1) := by decide +kernel
theorem dX6_holds_39 : decode cX6_holds 39 = .ok (.iload 4, 2) := by decide +kernel
theorem dX6_holds_41 : decode cX6_holds 41 = .ok (.bipush 100, 2) := by decide +kernel
theorem dX6_holds_43 : decode cX6_holds 43 = .ok (.if_icmp .le 7, 3) := by decide +kernel
theorem dX6_holds_46 : decode cX6_holds 46 = .ok (.iconst 0, 1) := by decide +kernel
theorem dX6_holds_47 : decode cX6_holds 47 = .ok (.goto 8, 3) := by decide +kernel
theorem dX6_holds_50 : decode cX6_holds 50 = .ok (.bipush 100, 2) := by decide +kernel
theorem dX6_holds_52 : decode cX6_holds 52 = .ok (.iload 4, 2) := by decide +kernel
theorem dX6_holds_54 : decode cX6_holds 54 = .ok (.isub, 1) := by decide +kernel
theorem dX6_holds_55 : decode cX6_holds 55 = .ok (.imul, 1) := by decide +kernel
theorem dX6_holds_56 : decode cX6_holds 56 = .ok (.bipush 100, 2) := by decide +kernel
theorem dX6_holds_58 : decode cX6_holds 58 = .ok (.idiv, 1) := by decide +kernel
theorem dX6_holds_59 : decode cX6_holds 59 = .ok (.istore_n 2, 1) := by decide +kernel
theorem dX6_holds_60 : decode cX6_holds 60 = .ok (.iinc 3 1, 3) := by decide +kernel
theorem dX6_holds_63 : decode cX6_holds 63 = .ok (.goto (-44), 3) := by decide +kernel
theorem dX6_holds_66 : decode cX6_holds 66 = .ok (.iload_n 2, 1) := by decide +kernel
theorem dX6_holds_67 : decode cX6_holds 67 = .ok (.ireturn, 1) := by decide +kernel
theorem dX6_type_0 : decode cX6_type 0 = .ok (.iload_n 1, 1) := by decide +kernel
theorem dX6_type_1 : decode cX6_type 1 = .ok (.i2l, 1) := by decide +kernel
theorem dX6_type_2 : decode cX6_type 2 = .ok (.ldc2_w 166, 3) := by decide +kernel
theorem dX6_type_5 : decode cX6_type 5 = .ok (.ldc2_w 168, 3) := by decide +kernel
theorem dX6_type_8 : decode cX6_type 8 = .ok (.invokestatic 51, 3) := by decide +kernel
theorem dX6_type_11 : decode cX6_type 11 = .ok (.ifCond .ne 5, 3) := by decide +kernel
theorem dX6_type_14 : decode cX6_type 14 = .ok (.iconst (-1), 1) := by decide +kernel
theorem dX6_type_15 : decode cX6_type 15 = .ok (.ireturn, 1) := by decide +kernel
theorem dX6_type_16 : decode cX6_type 16 = .ok (.aload_n 0, 1) := by decide +kernel
theorem dX6_type_17 : decode cX6_type 17 = .ok (.getfield 170, 3) := by decide +kernel
theorem dX6_type_20 : decode cX6_type 20 = .ok (.bipush 60, 2) := by decide +kernel
theorem dX6_type_22 : decode cX6_type 22 = .ok (.if_icmp .ne 6, 3) := by decide +kernel
theorem dX6_type_25 : decode cX6_type 25 = .ok (.bipush (-3), 2) := by decide +kernel
theorem dX6_type_27 : decode cX6_type 27 = .ok (.ireturn, 1) := by decide +kernel
theorem dX6_type_28 : decode cX6_type 28 = .ok (.aload_n 0, 1) := by decide +kernel
theorem dX6_type_29 : decode cX6_type 29 = .ok (.getfield 29, 3) := by decide +kernel
theorem dX6_type_32 : decode cX6_type 32 = .ok (.aload_n 0, 1) := by decide +kernel
theorem dX6_type_33 : decode cX6_type 33 = .ok (.getfield 170, 3) := by decide +kernel
theorem dX6_type_36 : decode cX6_type 36 = .ok (.iload_n 1, 1) := by decide +kernel
theorem dX6_type_37 : decode cX6_type 37 = .ok (.iastore, 1) := by decide +kernel
theorem dX6_type_38 : decode cX6_type 38 = .ok (.aload_n 0, 1) := by decide +kernel
theorem dX6_type_39 : decode cX6_type 39 = .ok (.dup, 1) := by decide +kernel
theorem dX6_type_40 : decode cX6_type 40 = .ok (.getfield 170, 3) := by decide +kernel
theorem dX6_type_43 : decode cX6_type 43 = .ok (.iconst 1, 1) := by decide +kernel
theorem dX6_type_44 : decode cX6_type 44 = .ok (.iadd, 1) := by decide +kernel
theorem dX6_type_45 : decode cX6_type 45 = .ok (.putfield 170, 3) := by decide +kernel
theorem dX6_type_48 : decode cX6_type 48 = .ok (.aload_n 0, 1) := by decide +kernel
theorem dX6_type_49 : decode cX6_type 49 = .ok (.getfield 170, 3) := by decide +kernel
theorem dX6_type_52 : decode cX6_type 52 = .ok (.ireturn, 1) := by decide +kernel
theorem dX6_here_0 : decode cX6_here 0 = .ok (.aload_n 0, 1) := by decide +kernel
theorem dX6_here_1 : decode cX6_here 1 = .ok (.getfield 173, 3) := by decide +kernel
theorem dX6_here_4 : decode cX6_here 4 = .ok (.aload_n 0, 1) := by decide +kernel
theorem dX6_here_5 : decode cX6_here 5 = .ok (.getfield 170, 3) := by decide +kernel
theorem dX6_here_8 : decode cX6_here 8 = .ok (.if_icmp .ge 30, 3) := by decide +kernel
theorem dX6_here_11 : decode cX6_here 11 = .ok (.aload_n 0, 1) := by decide +kernel
theorem dX6_here_12 : decode cX6_here 12 = .ok (.getfield 29, 3) := by decide +kernel
theorem dX6_here_15 : decode cX6_here 15 = .ok (.aload_n 0, 1) := by decide +kernel
theorem dX6_here_16 : decode cX6_here 16 = .ok (.getfield 173, 3) := by decide +kernel
theorem dX6_here_19 : decode cX6_here 19 = .ok (.iaload, 1) := by decide +kernel
theorem dX6_here_20 : decode cX6_here 20 = .ok (.bipush 32, 2) := by decide +kernel
theorem dX6_here_22 : decode cX6_here 22 = .ok (.if_icmp .ne 16, 3) := by decide +kernel
theorem dX6_here_25 : decode cX6_here 25 = .ok (.aload_n 0, 1) := by decide +kernel
theorem dX6_here_26 : decode cX6_here 26 = .ok (.dup, 1) := by decide +kernel
theorem dX6_here_27 : decode cX6_here 27 = .ok (.getfield 173, 3) := by decide +kernel
theorem dX6_here_30 : decode cX6_here 30 = .ok (.iconst 1, 1) := by decide +kernel
theorem dX6_here_31 : decode cX6_here 31 = .ok (.iadd, 1) := by decide +kernel
theorem dX6_here_32 : decode cX6_here 32 = .ok (.putfield 173, 3) := by decide +kernel
theorem dX6_here_35 : decode cX6_here 35 = .ok (.goto (-35), 3) := by decide +kernel
theorem dX6_here_38 : decode cX6_here 38 = .ok (.aload_n 0, 1) := by decide +kernel
theorem dX6_here_39 : decode cX6_here 39 = .ok (.getfield 173, 3) := by decide +kernel
theorem dX6_here_42 : decode cX6_here 42 = .ok (.aload_n 0, 1) := by decide +kernel
theorem dX6_here_43 : decode cX6_here 43 = .ok (.getfield 170, 3) := by decide +kernel
theorem dX6_here_46 : decode cX6_here 46 = .ok (.if_icmp .ge 15, 3) := by decide +kernel
theorem dX6_here_49 : decode cX6_here 49 = .ok (.aload_n 0, 1) := by decide +kernel
theorem dX6_here_50 : decode cX6_here 50 = .ok (.getfield 29, 3) := by decide +kernel
theorem dX6_here_53 : decode cX6_here 53 = .ok (.aload_n 0, 1) := by decide +kernel
theorem dX6_here_54 : decode cX6_here 54 = .ok (.getfield 173, 3) := by decide +kernel
theorem dX6_here_57 : decode cX6_here 57 = .ok (.iaload, 1) := by decide +kernel
theorem dX6_here_58 : decode cX6_here 58 = .ok (.goto 4, 3) := by decide +kernel
theorem dX6_here_61 : decode cX6_here 61 = .ok (.iconst 0, 1) := by decide +kernel
theorem dX6_here_62 : decode cX6_here 62 = .ok (.ireturn, 1) := by decide +kernel
theorem dX6_must_0 : decode cX6_must 0 = .ok (.aload_n 0, 1) := by decide +kernel
theorem dX6_must_1 : decode cX6_must 1 = .ok (.aload_n 0, 1) := by decide +kernel
theorem dX6_must_2 : decode cX6_must 2 = .ok (.getfield 176, 3) := by decide +kernel
theorem dX6_must_5 : decode cX6_must 5 = .ok (.ifCond .ne 7, 3) := by decide +kernel
theorem dX6_must_8 : decode cX6_must 8 = .ok (.iload_n 1, 1) := by decide +kernel
theorem dX6_must_9 : decode cX6_must 9 = .ok (.ifCond .ne 7, 3) := by decide +kernel
theorem dX6_must_12 : decode cX6_must 12 = .ok (.iconst 1, 1) := by decide +kernel
theorem dX6_must_13 : decode cX6_must 13 = .ok (.goto 4, 3) := by decide +kernel
theorem dX6_must_16 : decode cX6_must 16 = .ok (.iconst 0, 1) := by decide +kernel
theorem dX6_must_17 : decode cX6_must 17 = .ok (.putfield 176, 3) := by decide +kernel
theorem dX6_must_20 : decode cX6_must 20 = .ok (.return_, 1) := by decide +kernel
theorem dX6_isDigit_0 : decode cX6_isDigit 0 = .ok (.iload_n 0, 1) := by decide +kernel
theorem dX6_isDigit_1 : decode cX6_isDigit 1 = .ok (.i2l, 1) := by decide +kernel
theorem dX6_isDigit_2 : decode cX6_isDigit 2 = .ok (.ldc2_w 180, 3) := by decide +kernel
theorem dX6_isDigit_5 : decode cX6_isDigit 5 = .ok (.ldc2_w 182, 3) := by decide +kernel
theorem dX6_isDigit_8 : decode cX6_isDigit 8 = .ok (.invokestatic 51, 3) := by decide +kernel
theorem dX6_isDigit_11 : decode cX6_isDigit 11 = .ok (.ireturn, 1) := by decide +kernel
theorem dX6_takes_0 : decode cX6_takes 0 = .ok (.aload_n 0, 1) := by decide +kernel
theorem dX6_takes_1 : decode cX6_takes 1 = .ok (.aload_n 0, 1) := by decide +kernel
theorem dX6_takes_2 : decode cX6_takes 2 = .ok (.invokevirtual 184, 3) := by decide +kernel
theorem dX6_takes_5 : decode cX6_takes 5 = .ok (.iload_n 1, 1) := by decide +kernel
theorem dX6_takes_6 : decode cX6_takes 6 = .ok (.if_icmp .ne 7, 3) := by decide +kernel
theorem dX6_takes_9 : decode cX6_takes 9 = .ok (.iconst 1, 1) := by decide +kernel
theorem dX6_takes_10 : decode cX6_takes 10 = .ok (.goto 4, 3) := by decide +kernel
theorem dX6_takes_13 : decode cX6_takes 13 = .ok (.iconst 0, 1) := by decide +kernel
theorem dX6_takes_14 : decode cX6_takes 14 = .ok (.invokevirtual 187, 3) := by decide +kernel
theorem dX6_takes_17 : decode cX6_takes 17 = .ok (.aload_n 0, 1) := by decide +kernel
theorem dX6_takes_18 : decode cX6_takes 18 = .ok (.dup, 1) := by decide +kernel
theorem dX6_takes_19 : decode cX6_takes 19 = .ok (.getfield 173, 3) := by decide +kernel
theorem dX6_takes_22 : decode cX6_takes 22 = .ok (.aload_n 0, 1) := by decide +kernel
theorem dX6_takes_23 : decode cX6_takes 23 = .ok (.getfield 176, 3) := by decide +kernel
theorem dX6_takes_26 : decode cX6_takes 26 = .ok (.ifCond .eq 7, 3) := by decide +kernel
theorem dX6_takes_29 : decode cX6_takes 29 = .ok (.iconst 0, 1) := by decide +kernel
theorem dX6_takes_30 : decode cX6_takes 30 = .ok (.goto 4, 3) := by decide +kernel
theorem dX6_takes_33 : decode cX6_takes 33 = .ok (.iconst 1, 1) := by decide +kernel
theorem dX6_takes_34 : decode cX6_takes 34 = .ok (.iadd, 1) := by decide +kernel
theorem dX6_takes_35 : decode cX6_takes 35 = .ok (.putfield 173, 3) := by decide +kernel
theorem dX6_takes_38 : decode cX6_takes 38 = .ok (.return_, 1) := by decide +kernel
theorem dX6_number_0 : decode cX6_number 0 = .ok (.aload_n 0, 1) := by decide +kernel
theorem dX6_number_1 : decode cX6_number 1 = .ok (.aload_n 0, 1) := by decide +kernel
theorem dX6_number_2 : decode cX6_number 2 = .ok (.invokevirtual 184, 3) := by decide +kernel
theorem dX6_number_5 : decode cX6_number 5 = .ok (.invokestatic 190, 3) := by decide +kernel
theorem dX6_number_8 : decode cX6_number 8 = .ok (.invokevirtual 187, 3) := by decide +kernel
theorem dX6_number_11 : decode cX6_number 11 = .ok (.aload_n 0, 1) := by decide +kernel
theorem dX6_number_12 : decode cX6_number 12 = .ok (.getfield 176, 3) := by decide +kernel
theorem dX6_number_15 : decode cX6_number 15 = .ok (.ifCond .eq 5, 3) := by decide +kernel
theorem dX6_number_18 : decode cX6_number 18 = .ok (.iconst 0, 1) := by decide +kernel
theorem dX6_number_19 : decode cX6_number 19 = .ok (.ireturn, 1) := by decide +kernel
theorem dX6_number_20 : decode cX6_number 20 = .ok (.aload_n 0, 1) := by decide +kernel
theorem dX6_number_21 : decode cX6_number 21 = .ok (.getfield 173, 3) := by decide +kernel
theorem dX6_number_24 : decode cX6_number 24 = .ok (.istore_n 2, 1) := by decide +kernel
theorem dX6_number_25 : decode cX6_number 25 = .ok (.aload_n 0, 1) := by decide +kernel
theorem dX6_number_26 : decode cX6_number 26 = .ok (.getfield 29, 3) := by decide +kernel
theorem dX6_number_29 : decode cX6_number 29 = .ok (.aload_n 0, 1) := by decide +kernel
theorem dX6_number_30 : decode cX6_number 30 = .ok (.getfield 173, 3) := by decide +kernel
theorem dX6_number_33 : decode cX6_number 33 = .ok (.iaload, 1) := by decide +kernel
theorem dX6_number_34 : decode cX6_number 34 = .ok (.bipush 48, 2) := by decide +kernel
theorem dX6_number_36 : decode cX6_number 36 = .ok (.isub, 1) := by decide +kernel
theorem dX6_number_37 : decode cX6_number 37 = .ok (.istore_n 3, 1) := by decide +kernel
theorem dX6_number_38 : decode cX6_number 38 = .ok (.aload_n 0, 1) := by decide +kernel
theorem dX6_number_39 : decode cX6_number 39 = .ok (.dup, 1) := by decide +kernel
theorem dX6_number_40 : decode cX6_number 40 = .ok (.getfield 173, 3) := by decide +kernel
theorem dX6_number_43 : decode cX6_number 43 = .ok (.iconst 1, 1) := by decide +kernel
theorem dX6_number_44 : decode cX6_number 44 = .ok (.iadd, 1) := by decide +kernel
theorem dX6_number_45 : decode cX6_number 45 = .ok (.putfield 173, 3) := by decide +kernel
theorem dX6_number_48 : decode cX6_number 48 = .ok (.aload_n 0, 1) := by decide +kernel
theorem dX6_number_49 : decode cX6_number 49 = .ok (.getfield 173, 3) := by decide +kernel
theorem dX6_number_52 : decode cX6_number 52 = .ok (.aload_n 0, 1) := by decide +kernel
theorem dX6_number_53 : decode cX6_number 53 = .ok (.getfield 170, 3) := by decide +kernel
theorem dX6_number_56 : decode cX6_number 56 = .ok (.if_icmp .ge 46, 3) := by decide +kernel
theorem dX6_number_59 : decode cX6_number 59 = .ok (.aload_n 0, 1) := by decide +kernel
theorem dX6_number_60 : decode cX6_number 60 = .ok (.getfield 29, 3) := by decide +kernel
theorem dX6_number_63 : decode cX6_number 63 = .ok (.aload_n 0, 1) := by decide +kernel
theorem dX6_number_64 : decode cX6_number 64 = .ok (.getfield 173, 3) := by decide +kernel
theorem dX6_number_67 : decode cX6_number 67 = .ok (.iaload, 1) := by decide +kernel
theorem dX6_number_68 : decode cX6_number 68 = .ok (.invokestatic 190, 3) := by decide +kernel
theorem dX6_number_71 : decode cX6_number 71 = .ok (.ifCond .eq 31, 3) := by decide +kernel
theorem dX6_number_74 : decode cX6_number 74 = .ok (.bipush 10, 2) := by decide +kernel
theorem dX6_number_76 : decode cX6_number 76 = .ok (.iload_n 3, 1) := by decide +kernel
theorem dX6_number_77 : decode cX6_number 77 = .ok (.imul, 1) := by decide +kernel
theorem dX6_number_78 : decode cX6_number 78 = .ok (.aload_n 0, 1) := by decide +kernel
theorem dX6_number_79 : decode cX6_number 79 = .ok (.getfield 29, 3) := by decide +kernel
theorem dX6_number_82 : decode cX6_number 82 = .ok (.aload_n 0, 1) := by decide +kernel
theorem dX6_number_83 : decode cX6_number 83 = .ok (.getfield 173, 3) := by decide +kernel
theorem dX6_number_86 : decode cX6_number 86 = .ok (.iaload, 1) := by decide +kernel
theorem dX6_number_87 : decode cX6_number 87 = .ok (.iadd, 1) := by decide +kernel
theorem dX6_number_88 : decode cX6_number 88 = .ok (.bipush 48, 2) := by decide +kernel
theorem dX6_number_90 : decode cX6_number 90 = .ok (.isub, 1) := by decide +kernel
theorem dX6_number_91 : decode cX6_number 91 = .ok (.istore_n 3, 1) := by decide +kernel
theorem dX6_number_92 : decode cX6_number 92 = .ok (.aload_n 0, 1) := by decide +kernel
theorem dX6_number_93 : decode cX6_number 93 = .ok (.dup, 1) := by decide +kernel
theorem dX6_number_94 : decode cX6_number 94 = .ok (.getfield 173, 3) := by decide +kernel
theorem dX6_number_97 : decode cX6_number 97 = .ok (.iconst 1, 1) := by decide +kernel
theorem dX6_number_98 : decode cX6_number 98 = .ok (.iadd, 1) := by decide +kernel
theorem dX6_number_99 : decode cX6_number 99 = .ok (.putfield 173, 3) := by decide +kernel
theorem dX6_number_102 : decode cX6_number 102 = .ok (.iload_n 3, 1) := by decide +kernel
theorem dX6_number_103 : decode cX6_number 103 = .ok (.iload_n 1, 1) := by decide +kernel
theorem dX6_number_104 : decode cX6_number 104 = .ok (.if_icmp .le 13, 3) := by decide +kernel
theorem dX6_number_107 : decode cX6_number 107 = .ok (.aload_n 0, 1) := by decide +kernel
theorem dX6_number_108 : decode cX6_number 108 = .ok (.iload_n 2, 1) := by decide +kernel
theorem dX6_number_109 : decode cX6_number 109 = .ok (.putfield 173, 3) := by decide +kernel
theorem dX6_number_112 : decode cX6_number 112 = .ok (.aload_n 0, 1) := by decide +kernel
theorem dX6_number_113 : decode cX6_number 113 = .ok (.iconst 1, 1) := by decide +kernel
theorem dX6_number_114 : decode cX6_number 114 = .ok (.putfield 176, 3) := by decide +kernel
theorem dX6_number_117 : decode cX6_number 117 = .ok (.iload_n 3, 1) := by decide +kernel
theorem dX6_number_118 : decode cX6_number 118 = .ok (.ireturn, 1) := by decide +kernel
theorem dX6_readBeast_0 : decode cX6_readBeast 0 = .ok (.aload_n 0, 1) := by decide +kernel
theorem dX6_readBeast_1 : decode cX6_readBeast 1 = .ok (.invokevirtual 184, 3) := by decide +kernel
theorem dX6_readBeast_4 : decode cX6_readBeast 4 = .ok (.istore_n 2, 1) := by decide +kernel
theorem dX6_readBeast_5 : decode cX6_readBeast 5 = .ok (.iload_n 2, 1) := by decide +kernel
theorem dX6_readBeast_6 : decode cX6_readBeast 6 = .ok (.bipush 112, 2) := by decide +kernel
theorem dX6_readBeast_8 : decode cX6_readBeast 8 = .ok (.if_icmp .ne 7, 3) := by decide +kernel
theorem dX6_readBeast_11 : decode cX6_readBeast 11 = .ok (.iconst 0, 1) := by decide +kernel
theorem dX6_readBeast_12 : decode cX6_readBeast 12 = .ok (.goto 34, 3) := by decide +kernel
theorem dX6_readBeast_15 : decode cX6_readBeast 15 = .ok (.iload_n 2, 1) := by decide +kernel
theorem dX6_readBeast_16 : decode cX6_readBeast 16 = .ok (.bipush 109, 2) := by decide +kernel
theorem dX6_readBeast_18 : decode cX6_readBeast 18 = .ok (.if_icmp .ne 7, 3) := by decide +kernel
theorem dX6_readBeast_21 : decode cX6_readBeast 21 = .ok (.iconst 1, 1) := by decide +kernel
theorem dX6_readBeast_22 : decode cX6_readBeast 22 = .ok (.goto 24, 3) := by decide +kernel
theorem dX6_readBeast_25 : decode cX6_readBeast 25 = .ok (.iload_n 2, 1) := by decide +kernel
theorem dX6_readBeast_26 : decode cX6_readBeast 26 = .ok (.bipush 121, 2) := by decide +kernel
theorem dX6_readBeast_28 : decode cX6_readBeast 28 = .ok (.if_icmp .ne 7, 3) := by decide +kernel
theorem dX6_readBeast_31 : decode cX6_readBeast 31 = .ok (.iconst 2, 1) := by decide +kernel
theorem dX6_readBeast_32 : decode cX6_readBeast 32 = .ok (.goto 14, 3) := by decide +kernel
theorem dX6_readBeast_35 : decode cX6_readBeast 35 = .ok (.iload_n 2, 1) := by decide +kernel
theorem dX6_readBeast_36 : decode cX6_readBeast 36 = .ok (.bipush 103, 2) := by decide +kernel
theorem dX6_readBeast_38 : decode cX6_readBeast 38 = .ok (.if_icmp .ne 7, 3) := by decide +kernel
theorem dX6_readBeast_41 : decode cX6_readBeast 41 = .ok (.iconst 3, 1) := by decide +kernel
theorem dX6_readBeast_42 : decode cX6_readBeast 42 = .ok (.goto 4, 3) := by decide +kernel
theorem dX6_readBeast_45 : decode cX6_readBeast 45 = .ok (.iconst (-1), 1) := by decide +kernel
theorem dX6_readBeast_46 : decode cX6_readBeast 46 = .ok (.istore_n 3, 1) := by decide +kernel
theorem dX6_readBeast_47 : decode cX6_readBeast 47 = .ok (.aload_n 0, 1) := by decide +kernel
theorem dX6_readBeast_48 : decode cX6_readBeast 48 = .ok (.iload_n 3, 1) := by decide +kernel
theorem dX6_readBeast_49 : decode cX6_readBeast 49 = .ok (.ifCond .lt 7, 3) := by decide +kernel
theorem dX6_readBeast_52 : decode cX6_readBeast 52 = .ok (.iconst 1, 1) := by decide +kernel
theorem dX6_readBeast_53 : decode cX6_readBeast 53 = .ok (.goto 4, 3) := by decide +kernel
theorem dX6_readBeast_56 : decode cX6_readBeast 56 = .ok (.iconst 0, 1) := by decide +kernel
theorem dX6_readBeast_57 : decode cX6_readBeast 57 = .ok (.invokevirtual 187, 3) := by decide +kernel
theorem dX6_readBeast_60 : decode cX6_readBeast 60 = .ok (.aload_n 0, 1) := by decide +kernel
theorem dX6_readBeast_61 : decode cX6_readBeast 61 = .ok (.getfield 176, 3) := by decide +kernel
theorem dX6_readBeast_64 : decode cX6_readBeast 64 = .ok (.ifCond .ne 31, 3) := by decide +kernel
theorem dX6_readBeast_67 : decode cX6_readBeast 67 = .ok (.aload_n 0, 1) := by decide +kernel
theorem dX6_readBeast_68 : decode cX6_readBeast 68 = .ok (.dup, 1) := by decide +kernel
theorem dX6_readBeast_69 : decode cX6_readBeast 69 = .ok (.getfield 173, 3) := by decide +kernel
theorem dX6_readBeast_72 : decode cX6_readBeast 72 = .ok (.iconst 1, 1) := by decide +kernel
theorem dX6_readBeast_73 : decode cX6_readBeast 73 = .ok (.iadd, 1) := by decide +kernel
theorem dX6_readBeast_74 : decode cX6_readBeast 74 = .ok (.putfield 173, 3) := by decide +kernel
theorem dX6_readBeast_77 : decode cX6_readBeast 77 = .ok (.aload_n 0, 1) := by decide +kernel
theorem dX6_readBeast_78 : decode cX6_readBeast 78 = .ok (.aload_n 0, 1) := by decide +kernel
theorem dX6_readBeast_79 : decode cX6_readBeast 79 = .ok (.invokevirtual 184, 3) := by decide +kernel
theorem dX6_readBeast_82 : decode cX6_readBeast 82 = .ok (.i2l, 1) := by decide +kernel
theorem dX6_readBeast_83 : decode cX6_readBeast 83 = .ok (.ldc2_w 193, 3) := by decide +kernel
theorem dX6_readBeast_86 : decode cX6_readBeast 86 = .ok (.ldc2_w 182, 3) := by decide +kernel
theorem dX6_readBeast_89 : decode cX6_readBeast 89 = .ok (.invokestatic 51, 3) := by decide +kernel
theorem dX6_readBeast_92 : decode cX6_readBeast 92 = .ok (.invokevirtual 187, 3) := by decide +kernel
theorem dX6_readBeast_95 : decode cX6_readBeast 95 = .ok (.aload_n 0, 1) := by decide +kernel
theorem dX6_readBeast_96 : decode cX6_readBeast 96 = .ok (.getfield 176, 3) := by decide +kernel
theorem dX6_readBeast_99 : decode cX6_readBeast 99 = .ok (.ifCond .ne 87, 3) := by decide +kernel
theorem dX6_readBeast_102 : decode cX6_readBeast 102 = .ok (.aload_n 0, 1) := by decide +kernel
theorem dX6_readBeast_103 : decode cX6_readBeast 103 = .ok (.getfield 32, 3) := by decide +kernel
theorem dX6_readBeast_106 : decode cX6_readBeast 106 = .ok (.iconst 3, 1) := by decide +kernel
theorem dX6_readBeast_107 : decode cX6_readBeast 107 = .ok (.iload_n 1, 1) := by decide +kernel
theorem dX6_readBeast_108 : decode cX6_readBeast 108 = .ok (.imul, 1) := by decide +kernel
theorem dX6_readBeast_109 : decode cX6_readBeast 109 = .ok (.iload_n 3, 1) := by decide +kernel
theorem dX6_readBeast_110 : decode cX6_readBeast 110 = .ok (.iastore, 1) := by decide +kernel
theorem dX6_readBeast_111 : decode cX6_readBeast 111 = .ok (.aload_n 0, 1) := by decide +kernel
theorem dX6_readBeast_112 : decode cX6_readBeast 112 = .ok (.getfield 32, 3) := by decide +kernel
theorem dX6_readBeast_115 : decode cX6_readBeast 115 = .ok (.iconst 3, 1) := by decide +kernel
theorem dX6_readBeast_116 : decode cX6_readBeast 116 = .ok (.iload_n 1, 1) := by decide +kernel
theorem dX6_readBeast_117 : decode cX6_readBeast 117 = .ok (.imul, 1) := by decide +kernel
theorem dX6_readBeast_118 : decode cX6_readBeast 118 = .ok (.iconst 1, 1) := by decide +kernel
theorem dX6_readBeast_119 : decode cX6_readBeast 119 = .ok (.iadd, 1) := by decide +kernel
theorem dX6_readBeast_120 : decode cX6_readBeast 120 = .ok (.aload_n 0, 1) := by decide +kernel
theorem dX6_readBeast_121 : decode cX6_readBeast 121 = .ok (.getfield 29, 3) := by decide +kernel
theorem dX6_readBeast_124 : decode cX6_readBeast 124 = .ok (.aload_n 0, 1) := by decide +kernel
theorem dX6_readBeast_125 : decode cX6_readBeast 125 = .ok (.getfield 173, 3) := by decide +kernel
theorem dX6_readBeast_128 : decode cX6_readBeast 128 = .ok (.iaload, 1) := by decide +kernel
theorem dX6_readBeast_129 : decode cX6_readBeast 129 = .ok (.bipush 48, 2) := by decide +kernel
theorem dX6_readBeast_131 : decode cX6_readBeast 131 = .ok (.isub, 1) := by decide +kernel
theorem dX6_readBeast_132 : decode cX6_readBeast 132 = .ok (.iastore, 1) := by decide +kernel
theorem dX6_readBeast_133 : decode cX6_readBeast 133 = .ok (.aload_n 0, 1) := by decide +kernel
theorem dX6_readBeast_134 : decode cX6_readBeast 134 = .ok (.dup, 1) := by decide +kernel
theorem dX6_readBeast_135 : decode cX6_readBeast 135 = .ok (.getfield 173, 3) := by decide +kernel
theorem dX6_readBeast_138 : decode cX6_readBeast 138 = .ok (.iconst 1, 1) := by decide +kernel
theorem dX6_readBeast_139 : decode cX6_readBeast 139 = .ok (.iadd, 1) := by decide +kernel
theorem dX6_readBeast_140 : decode cX6_readBeast 140 = .ok (.putfield 173, 3) := by decide +kernel
theorem dX6_readBeast_143 : decode cX6_readBeast 143 = .ok (.aload_n 0, 1) := by decide +kernel
theorem dX6_readBeast_144 : decode cX6_readBeast 144 = .ok (.getfield 32, 3) := by decide +kernel
theorem dX6_readBeast_147 : decode cX6_readBeast 147 = .ok (.iconst 3, 1) := by decide +kernel
theorem dX6_readBeast_148 : decode cX6_readBeast 148 = .ok (.iload_n 1, 1) := by decide +kernel
theorem dX6_readBeast_149 : decode cX6_readBeast 149 = .ok (.imul, 1) := by decide +kernel
theorem dX6_readBeast_150 : decode cX6_readBeast 150 = .ok (.iconst 2, 1) := by decide +kernel
theorem dX6_readBeast_151 : decode cX6_readBeast 151 = .ok (.iadd, 1) := by decide +kernel
theorem dX6_readBeast_152 : decode cX6_readBeast 152 = .ok (.aload_n 0, 1) := by decide +kernel
theorem dX6_readBeast_153 : decode cX6_readBeast 153 = .ok (.invokevirtual 184, 3) := by decide +kernel
theorem dX6_readBeast_156 : decode cX6_readBeast 156 = .ok (.bipush 98, 2) := by decide +kernel
theorem dX6_readBeast_158 : decode cX6_readBeast 158 = .ok (.if_icmp .ne 7, 3) := by decide +kernel
theorem dX6_readBeast_161 : decode cX6_readBeast 161 = .ok (.iconst 1, 1) := by decide +kernel
theorem dX6_readBeast_162 : decode cX6_readBeast 162 = .ok (.goto 4, 3) := by decide +kernel
theorem dX6_readBeast_165 : decode cX6_readBeast 165 = .ok (.iconst 0, 1) := by decide +kernel
theorem dX6_readBeast_166 : decode cX6_readBeast 166 = .ok (.iastore, 1) := by decide +kernel
theorem dX6_readBeast_167 : decode cX6_readBeast 167 = .ok (.aload_n 0, 1) := by decide +kernel
theorem dX6_readBeast_168 : decode cX6_readBeast 168 = .ok (.dup, 1) := by decide +kernel
theorem dX6_readBeast_169 : decode cX6_readBeast 169 = .ok (.getfield 173, 3) := by decide +kernel
theorem dX6_readBeast_172 : decode cX6_readBeast 172 = .ok (.aload_n 0, 1) := by decide +kernel
theorem dX6_readBeast_173 : decode cX6_readBeast 173 = .ok (.getfield 32, 3) := by decide +kernel
theorem dX6_readBeast_176 : decode cX6_readBeast 176 = .ok (.iconst 3, 1) := by decide +kernel
theorem dX6_readBeast_177 : decode cX6_readBeast 177 = .ok (.iload_n 1, 1) := by decide +kernel
theorem dX6_readBeast_178 : decode cX6_readBeast 178 = .ok (.imul, 1) := by decide +kernel
theorem dX6_readBeast_179 : decode cX6_readBeast 179 = .ok (.iconst 2, 1) := by decide +kernel
theorem dX6_readBeast_180 : decode cX6_readBeast 180 = .ok (.iadd, 1) := by decide +kernel
theorem dX6_readBeast_181 : decode cX6_readBeast 181 = .ok (.iaload, 1) := by decide +kernel
theorem dX6_readBeast_182 : decode cX6_readBeast 182 = .ok (.iadd, 1) := by decide +kernel
theorem dX6_readBeast_183 : decode cX6_readBeast 183 = .ok (.putfield 173, 3) := by decide +kernel
theorem dX6_readBeast_186 : decode cX6_readBeast 186 = .ok (.return_, 1) := by decide +kernel
theorem dX6_caravan_0 : decode cX6_caravan 0 = .ok (.aload_n 0, 1) := by decide +kernel
theorem dX6_caravan_1 : decode cX6_caravan 1 = .ok (.iconst 0, 1) := by decide +kernel
theorem dX6_caravan_2 : decode cX6_caravan 2 = .ok (.putfield 173, 3) := by decide +kernel
theorem dX6_caravan_5 : decode cX6_caravan 5 = .ok (.aload_n 0, 1) := by decide +kernel
theorem dX6_caravan_6 : decode cX6_caravan 6 = .ok (.iconst 0, 1) := by decide +kernel
theorem dX6_caravan_7 : decode cX6_caravan 7 = .ok (.putfield 176, 3) := by decide +kernel
theorem dX6_caravan_10 : decode cX6_caravan 10 = .ok (.aload_n 0, 1) := by decide +kernel
theorem dX6_caravan_11 : decode cX6_caravan 11 = .ok (.bipush 60, 2) := by decide +kernel
theorem dX6_caravan_13 : decode cX6_caravan 13 = .ok (.invokevirtual 195, 3) := by decide +kernel
theorem dX6_caravan_16 : decode cX6_caravan 16 = .ok (.istore_n 1, 1) := by decide +kernel
theorem dX6_caravan_17 : decode cX6_caravan 17 = .ok (.aload_n 0, 1) := by decide +kernel
theorem dX6_caravan_18 : decode cX6_caravan 18 = .ok (.bipush 44, 2) := by decide +kernel
theorem dX6_caravan_20 : decode cX6_caravan 20 = .ok (.invokevirtual 198, 3) := by decide +kernel
theorem dX6_caravan_23 : decode cX6_caravan 23 = .ok (.aload_n 0, 1) := by decide +kernel
theorem dX6_caravan_24 : decode cX6_caravan 24 = .ok (.bipush 20, 2) := by decide +kernel
theorem dX6_caravan_26 : decode cX6_caravan 26 = .ok (.invokevirtual 195, 3) := by decide +kernel
theorem dX6_caravan_29 : decode cX6_caravan 29 = .ok (.istore_n 2, 1) := by decide +kernel
theorem dX6_caravan_30 : decode cX6_caravan 30 = .ok (.aload_n 0, 1) := by decide +kernel
theorem dX6_caravan_31 : decode cX6_caravan 31 = .ok (.bipush 59, 2) := by decide +kernel
theorem dX6_caravan_33 : decode cX6_caravan 33 = .ok (.invokevirtual 198, 3) := by decide +kernel
theorem dX6_caravan_36 : decode cX6_caravan 36 = .ok (.iconst 0, 1) := by decide +kernel
theorem dX6_caravan_37 : decode cX6_caravan 37 = .ok (.istore_n 3, 1) := by decide +kernel
theorem dX6_caravan_38 : decode cX6_caravan 38 = .ok (.aload_n 0, 1) := by decide +kernel
theorem dX6_caravan_39 : decode cX6_caravan 39 = .ok (.getfield 176, 3) := by decide +kernel
theorem dX6_caravan_42 : decode cX6_caravan 42 = .ok (.ifCond .ne 50, 3) := by decide +kernel
theorem dX6_caravan_45 : decode cX6_caravan 45 = .ok (.iload_n 3, 1) := by decide +kernel
theorem dX6_caravan_46 : decode cX6_caravan 46 = .ok (.ifCond .eq 10, 3) := by decide +kernel
theorem dX6_caravan_49 : decode cX6_caravan 49 = .ok (.aload_n 0, 1) := by decide +kernel
theorem dX6_caravan_50 : decode cX6_caravan 50 = .ok (.invokevirtual 184, 3) := by decide +kernel
theorem dX6_caravan_53 : decode cX6_caravan 53 = .ok (.ifCond .eq 39, 3) := by decide +kernel
theorem dX6_caravan_56 : decode cX6_caravan 56 = .ok (.iload_n 3, 1) := by decide +kernel
theorem dX6_caravan_57 : decode cX6_caravan 57 = .ok (.ifCond .le 24, 3) := by decide +kernel
theorem dX6_caravan_60 : decode cX6_caravan 60 = .ok (.aload_n 0, 1) := by decide +kernel
theorem dX6_caravan_61 : decode cX6_caravan 61 = .ok (.iload_n 3, 1) := by decide +kernel
theorem dX6_caravan_62 : decode cX6_caravan 62 = .ok (.bipush 7, 2) := by decide +kernel
theorem dX6_caravan_64 : decode cX6_caravan 64 = .ok (.if_icmp .ge 7, 3) := by decide +kernel
theorem dX6_caravan_67 : decode cX6_caravan 67 = .ok (.iconst 1, 1) := by decide +kernel
theorem dX6_caravan_68 : decode cX6_caravan 68 = .ok (.goto 4, 3) := by decide +kernel
theorem dX6_caravan_71 : decode cX6_caravan 71 = .ok (.iconst 0, 1) := by decide +kernel
theorem dX6_caravan_72 : decode cX6_caravan 72 = .ok (.invokevirtual 187, 3) := by decide +kernel
theorem dX6_caravan_75 : decode cX6_caravan 75 = .ok (.aload_n 0, 1) := by decide +kernel
theorem dX6_caravan_76 : decode cX6_caravan 76 = .ok (.bipush 44, 2) := by decide +kernel
theorem dX6_caravan_78 : decode cX6_caravan 78 = .ok (.invokevirtual 198, 3) := by decide +kernel
theorem dX6_caravan_81 : decode cX6_caravan 81 = .ok (.aload_n 0, 1) := by decide +kernel
theorem dX6_caravan_82 : decode cX6_caravan 82 = .ok (.iload_n 3, 1) := by decide +kernel
theorem dX6_caravan_83 : decode cX6_caravan 83 = .ok (.invokevirtual 201, 3) := by decide +kernel
theorem dX6_caravan_86 : decode cX6_caravan 86 = .ok (.iinc 3 1, 3) := by decide +kernel
theorem dX6_caravan_89 : decode cX6_caravan 89 = .ok (.goto (-51), 3) := by decide +kernel
theorem dX6_caravan_92 : decode cX6_caravan 92 = .ok (.aload_n 0, 1) := by decide +kernel
theorem dX6_caravan_93 : decode cX6_caravan 93 = .ok (.iconst 0, 1) := by decide +kernel
theorem dX6_caravan_94 : decode cX6_caravan 94 = .ok (.putfield 170, 3) := by decide +kernel
theorem dX6_caravan_97 : decode cX6_caravan 97 = .ok (.aload_n 0, 1) := by decide +kernel
theorem dX6_caravan_98 : decode cX6_caravan 98 = .ok (.getfield 176, 3) := by decide +kernel
theorem dX6_caravan_101 : decode cX6_caravan 101 = .ok (.ifCond .eq 11, 3) := by decide +kernel
theorem dX6_caravan_104 : decode cX6_caravan 104 = .ok (.bipush (-20), 2) := by decide +kernel
theorem dX6_caravan_106 : decode cX6_caravan 106 = .ok (.aload_n 0, 1) := by decide +kernel
theorem dX6_caravan_107 : decode cX6_caravan 107 = .ok (.getfield 173, 3) := by decide +kernel
theorem dX6_caravan_110 : decode cX6_caravan 110 = .ok (.isub, 1) := by decide +kernel
theorem dX6_caravan_111 : decode cX6_caravan 111 = .ok (.ireturn, 1) := by decide +kernel
theorem dX6_caravan_112 : decode cX6_caravan 112 = .ok (.iconst 0, 1) := by decide +kernel
theorem dX6_caravan_113 : decode cX6_caravan 113 = .ok (.istore 4, 2) := by decide +kernel
theorem dX6_caravan_115 : decode cX6_caravan 115 = .ok (.iload 4, 2) := by decide +kernel
theorem dX6_caravan_117 : decode cX6_caravan 117 = .ok (.bipush 7, 2) := by decide +kernel
theorem dX6_caravan_119 : decode cX6_caravan 119 = .ok (.if_icmp .ge 69, 3) := by decide +kernel
theorem dX6_caravan_122 : decode cX6_caravan 122 = .ok (.iconst 0, 1) := by decide +kernel
theorem dX6_caravan_123 : decode cX6_caravan 123 = .ok (.istore 5, 2) := by decide +kernel
theorem dX6_caravan_125 : decode cX6_caravan 125 = .ok (.iload 5, 2) := by decide +kernel
theorem dX6_caravan_127 : decode cX6_caravan 127 = .ok (.bipush 7, 2) := by decide +kernel
theorem dX6_caravan_129 : decode cX6_caravan 129 = .ok (.if_icmp .ge 53, 3) := by decide +kernel
theorem dX6_caravan_132 : decode cX6_caravan 132 = .ok (.aload_n 0, 1) := by decide +kernel
theorem dX6_caravan_133 : decode cX6_caravan 133 = .ok (.getfield 7, 3) := by decide +kernel
theorem dX6_caravan_136 : decode cX6_caravan 136 = .ok (.bipush 14, 2) := by decide +kernel
theorem dX6_caravan_138 : decode cX6_caravan 138 = .ok (.bipush 7, 2) := by decide +kernel
theorem dX6_caravan_140 : decode cX6_caravan 140 = .ok (.iload 4, 2) := by decide +kernel
theorem dX6_caravan_142 : decode cX6_caravan 142 = .ok (.imul, 1) := by decide +kernel
theorem dX6_caravan_143 : decode cX6_caravan 143 = .ok (.iadd, 1) := by decide +kernel
theorem dX6_caravan_144 : decode cX6_caravan 144 = .ok (.iload 5, 2) := by decide +kernel
theorem dX6_caravan_146 : decode cX6_caravan 146 = .ok (.iadd, 1) := by decide +kernel
theorem dX6_caravan_147 : decode cX6_caravan 147 = .ok (.iload 4, 2) := by decide +kernel
theorem dX6_caravan_149 : decode cX6_caravan 149 = .ok (.iload_n 3, 1) := by decide +kernel
theorem dX6_caravan_150 : decode cX6_caravan 150 = .ok (.if_icmp .ge 24, 3) := by decide +kernel
theorem dX6_caravan_153 : decode cX6_caravan 153 = .ok (.iload 5, 2) := by decide +kernel
theorem dX6_caravan_155 : decode cX6_caravan 155 = .ok (.iconst 3, 1) := by decide +kernel
theorem dX6_caravan_156 : decode cX6_caravan 156 = .ok (.if_icmp .ge 18, 3) := by decide +kernel
theorem dX6_caravan_159 : decode cX6_caravan 159 = .ok (.aload_n 0, 1) := by decide +kernel
theorem dX6_caravan_160 : decode cX6_caravan 160 = .ok (.getfield 32, 3) := by decide +kernel
theorem dX6_caravan_163 : decode cX6_caravan 163 = .ok (.iconst 3, 1) := by decide +kernel
theorem dX6_caravan_164 : decode cX6_caravan 164 = .ok (.iload 4, 2) := by decide +kernel
theorem dX6_caravan_166 : decode cX6_caravan 166 = .ok (.imul, 1) := by decide +kernel
theorem dX6_caravan_167 : decode cX6_caravan 167 = .ok (.iload 5, 2) := by decide +kernel
theorem dX6_caravan_169 : decode cX6_caravan 169 = .ok (.iadd, 1) := by decide +kernel
theorem dX6_caravan_170 : decode cX6_caravan 170 = .ok (.iaload, 1) := by decide +kernel
theorem dX6_caravan_171 : decode cX6_caravan 171 = .ok (.goto 4, 3) := by decide +kernel
theorem dX6_caravan_174 : decode cX6_caravan 174 = .ok (.iconst 0, 1) := by decide +kernel
theorem dX6_caravan_175 : decode cX6_caravan 175 = .ok (.iastore, 1) := by decide +kernel
theorem dX6_caravan_176 : decode cX6_caravan 176 = .ok (.iinc 5 1, 3) := by decide +kernel
theorem dX6_caravan_179 : decode cX6_caravan 179 = .ok (.goto (-54), 3) := by decide +kernel
theorem dX6_caravan_182 : decode cX6_caravan 182 = .ok (.iinc 4 1, 3) := by decide +kernel
theorem dX6_caravan_185 : decode cX6_caravan 185 = .ok (.goto (-70), 3) := by decide +kernel
theorem dX6_caravan_188 : decode cX6_caravan 188 = .ok (.aload_n 0, 1) := by decide +kernel
theorem dX6_caravan_189 : decode cX6_caravan 189 = .ok (.getfield 7, 3) := by decide +kernel
theorem dX6_caravan_192 : decode cX6_caravan 192 = .ok (.bipush 12, 2) := by decide +kernel
theorem dX6_caravan_194 : decode cX6_caravan 194 = .ok (.iload_n 3, 1) := by decide +kernel
theorem dX6_caravan_195 : decode cX6_caravan 195 = .ok (.iastore, 1) := by decide +kernel
theorem dX6_caravan_196 : decode cX6_caravan 196 = .ok (.aload_n 0, 1) := by decide +kernel
theorem dX6_caravan_197 : decode cX6_caravan 197 = .ok (.iconst (-1), 1) := by decide +kernel
theorem dX6_caravan_198 : decode cX6_caravan 198 = .ok (.putfield 16, 3) := by decide +kernel
theorem dX6_caravan_201 : decode cX6_caravan 201 = .ok (.aload_n 0, 1) := by decide +kernel
theorem dX6_caravan_202 : decode cX6_caravan 202 = .ok (.getfield 7, 3) := by decide +kernel
theorem dX6_caravan_205 : decode cX6_caravan 205 = .ok (.iconst 0, 1) := by decide +kernel
theorem dX6_caravan_206 : decode cX6_caravan 206 = .ok (.iload_n 1, 1) := by decide +kernel
theorem dX6_caravan_207 : decode cX6_caravan 207 = .ok (.iastore, 1) := by decide +kernel
theorem dX6_caravan_208 : decode cX6_caravan 208 = .ok (.aload_n 0, 1) := by decide +kernel
theorem dX6_caravan_209 : decode cX6_caravan 209 = .ok (.getfield 7, 3) := by decide +kernel
theorem dX6_caravan_212 : decode cX6_caravan 212 = .ok (.iconst 1, 1) := by decide +kernel
theorem dX6_caravan_213 : decode cX6_caravan 213 = .ok (.iload_n 2, 1) := by decide +kernel
theorem dX6_caravan_214 : decode cX6_caravan 214 = .ok (.iastore, 1) := by decide +kernel
theorem dX6_caravan_215 : decode cX6_caravan 215 = .ok (.aload_n 0, 1) := by decide +kernel
theorem dX6_caravan_216 : decode cX6_caravan 216 = .ok (.getfield 7, 3) := by decide +kernel
theorem dX6_caravan_219 : decode cX6_caravan 219 = .ok (.bipush 7, 2) := by decide +kernel
theorem dX6_caravan_221 : decode cX6_caravan 221 = .ok (.iconst 0, 1) := by decide +kernel
theorem dX6_caravan_222 : decode cX6_caravan 222 = .ok (.iastore, 1) := by decide +kernel
theorem dX6_caravan_223 : decode cX6_caravan 223 = .ok (.aload_n 0, 1) := by decide +kernel
theorem dX6_caravan_224 : decode cX6_caravan 224 = .ok (.getfield 7, 3) := by decide +kernel
theorem dX6_caravan_227 : decode cX6_caravan 227 = .ok (.bipush 8, 2) := by decide +kernel
theorem dX6_caravan_229 : decode cX6_caravan 229 = .ok (.iconst 0, 1) := by decide +kernel
theorem dX6_caravan_230 : decode cX6_caravan 230 = .ok (.iastore, 1) := by decide +kernel
theorem dX6_caravan_231 : decode cX6_caravan 231 = .ok (.aload_n 0, 1) := by decide +kernel
theorem dX6_caravan_232 : decode cX6_caravan 232 = .ok (.getfield 7, 3) := by decide +kernel
theorem dX6_caravan_235 : decode cX6_caravan 235 = .ok (.bipush 9, 2) := by decide +kernel
theorem dX6_caravan_237 : decode cX6_caravan 237 = .ok (.iconst 0, 1) := by decide +kernel
theorem dX6_caravan_238 : decode cX6_caravan 238 = .ok (.iastore, 1) := by decide +kernel
theorem dX6_caravan_239 : decode cX6_caravan 239 = .ok (.aload_n 0, 1) := by decide +kernel
theorem dX6_caravan_240 : decode cX6_caravan 240 = .ok (.getfield 7, 3) := by decide +kernel
theorem dX6_caravan_243 : decode cX6_caravan 243 = .ok (.bipush 10, 2) := by decide +kernel
theorem dX6_caravan_245 : decode cX6_caravan 245 = .ok (.bipush (-4), 2) := by decide +kernel
theorem dX6_caravan_247 : decode cX6_caravan 247 = .ok (.iastore, 1) := by decide +kernel
theorem dX6_caravan_248 : decode cX6_caravan 248 = .ok (.aload_n 0, 1) := by decide +kernel
theorem dX6_caravan_249 : decode cX6_caravan 249 = .ok (.getfield 7, 3) := by decide +kernel
theorem dX6_caravan_252 : decode cX6_caravan 252 = .ok (.bipush 11, 2) := by decide +kernel
theorem dX6_caravan_254 : decode cX6_caravan 254 = .ok (.iconst 0, 1) := by decide +kernel
theorem dX6_caravan_255 : decode cX6_caravan 255 = .ok (.iastore, 1) := by decide +kernel
theorem dX6_caravan_256 : decode cX6_caravan 256 = .ok (.aload_n 0, 1) := by decide +kernel
theorem dX6_caravan_257 : decode cX6_caravan 257 = .ok (.iconst 0, 1) := by decide +kernel
theorem dX6_caravan_258 : decode cX6_caravan 258 = .ok (.putfield 74, 3) := by decide +kernel
theorem dX6_caravan_261 : decode cX6_caravan 261 = .ok (.iload_n 3, 1) := by decide +kernel
theorem dX6_caravan_262 : decode cX6_caravan 262 = .ok (.ireturn, 1) := by decide +kernel
theorem dX6_image_0 : decode cX6_image 0 = .ok (.iconst 0, 1) := by decide +kernel
theorem dX6_image_1 : decode cX6_image 1 = .ok (.istore_n 1, 1) := by decide +kernel
theorem dX6_image_2 : decode cX6_image 2 = .ok (.iload_n 1, 1) := by decide +kernel
theorem dX6_image_3 : decode cX6_image 3 = .ok (.bipush 63, 2) := by decide +kernel
theorem dX6_image_5 : decode cX6_image 5 = .ok (.if_icmp .ge 21, 3) := by decide +kernel
theorem dX6_image_8 : decode cX6_image 8 = .ok (.aload_n 0, 1) := by decide +kernel
theorem dX6_image_9 : decode cX6_image 9 = .ok (.getfield 35, 3) := by decide +kernel
theorem dX6_image_12 : decode cX6_image 12 = .ok (.iload_n 1, 1) := by decide +kernel
theorem dX6_image_13 : decode cX6_image 13 = .ok (.aload_n 0, 1) := by decide +kernel
theorem dX6_image_14 : decode cX6_image 14 = .ok (.getfield 7, 3) := by decide +kernel
theorem dX6_image_17 : decode cX6_image 17 = .ok (.iload_n 1, 1) := by decide +kernel
theorem dX6_image_18 : decode cX6_image 18 = .ok (.iaload, 1) := by decide +kernel
theorem dX6_image_19 : decode cX6_image 19 = .ok (.iastore, 1) := by decide +kernel
theorem dX6_image_20 : decode cX6_image 20 = .ok (.iinc 1 1, 3) := by decide +kernel
theorem dX6_image_23 : decode cX6_image 23 = .ok (.goto (-21), 3) := by decide +kernel
theorem dX6_image_26 : decode cX6_image 26 = .ok (.iconst 0, 1) := by decide +kernel
theorem dX6_image_27 : decode cX6_image 27 = .ok (.istore_n 1, 1) := by decide +kernel
theorem dX6_image_28 : decode cX6_image 28 = .ok (.iload_n 1, 1) := by decide +kernel
theorem dX6_image_29 : decode cX6_image 29 = .ok (.sipush 504, 3) := by decide +kernel
theorem dX6_image_32 : decode cX6_image 32 = .ok (.if_icmp .ge 24, 3) := by decide +kernel
theorem dX6_image_35 : decode cX6_image 35 = .ok (.aload_n 0, 1) := by decide +kernel
theorem dX6_image_36 : decode cX6_image 36 = .ok (.getfield 35, 3) := by decide +kernel
theorem dX6_image_39 : decode cX6_image 39 = .ok (.bipush 63, 2) := by decide +kernel
theorem dX6_image_41 : decode cX6_image 41 = .ok (.iload_n 1, 1) := by decide +kernel
theorem dX6_image_42 : decode cX6_image 42 = .ok (.iadd, 1) := by decide +kernel
theorem dX6_image_43 : decode cX6_image 43 = .ok (.aload_n 0, 1) := by decide +kernel
theorem dX6_image_44 : decode cX6_image 44 = .ok (.getfield 20, 3) := by decide +kernel
theorem dX6_image_47 : decode cX6_image 47 = .ok (.iload_n 1, 1) := by decide +kernel
theorem dX6_image_48 : decode cX6_image 48 = .ok (.iaload, 1) := by decide +kernel
theorem dX6_image_49 : decode cX6_image 49 = .ok (.iastore, 1) := by decide +kernel
theorem dX6_image_50 : decode cX6_image 50 = .ok (.iinc 1 1, 3) := by decide +kernel
theorem dX6_image_53 : decode cX6_image 53 = .ok (.goto (-25), 3) := by decide +kernel
theorem dX6_image_56 : decode cX6_image 56 = .ok (.aload_n 0, 1) := by decide +kernel
theorem dX6_image_57 : decode cX6_image 57 = .ok (.aload_n 0, 1) := by decide +kernel
theorem dX6_image_58 : decode cX6_image 58 = .ok (.getfield 74, 3) := by decide +kernel
theorem dX6_image_61 : decode cX6_image 61 = .ok (.putfield 204, 3) := by decide +kernel
theorem dX6_image_64 : decode cX6_image 64 = .ok (.aload_n 0, 1) := by decide +kernel
theorem dX6_image_65 : decode cX6_image 65 = .ok (.iconst 1, 1) := by decide +kernel
theorem dX6_image_66 : decode cX6_image 66 = .ok (.putfield 207, 3) := by decide +kernel
theorem dX6_image_69 : decode cX6_image 69 = .ok (.iconst 1, 1) := by decide +kernel
theorem dX6_image_70 : decode cX6_image 70 = .ok (.ireturn, 1) := by decide +kernel
theorem dX6_restore_0 : decode cX6_restore 0 = .ok (.aload_n 0, 1) := by decide +kernel
theorem dX6_restore_1 : decode cX6_restore 1 = .ok (.getfield 207, 3) := by decide +kernel
theorem dX6_restore_4 : decode cX6_restore 4 = .ok (.ifCond .ne 6, 3) := by decide +kernel
theorem dX6_restore_7 : decode cX6_restore 7 = .ok (.bipush (-4), 2) := by decide +kernel
theorem dX6_restore_9 : decode cX6_restore 9 = .ok (.ireturn, 1) := by decide +kernel
theorem dX6_restore_10 : decode cX6_restore 10 = .ok (.iconst 0, 1) := by decide +kernel
theorem dX6_restore_11 : decode cX6_restore 11 = .ok (.istore_n 1, 1) := by decide +kernel
theorem dX6_restore_12 : decode cX6_restore 12 = .ok (.iload_n 1, 1) := by decide +kernel
theorem dX6_restore_13 : decode cX6_restore 13 = .ok (.bipush 63, 2) := by decide +kernel
theorem dX6_restore_15 : decode cX6_restore 15 = .ok (.if_icmp .ge 21, 3) := by decide +kernel
theorem dX6_restore_18 : decode cX6_restore 18 = .ok (.aload_n 0, 1) := by decide +kernel
theorem dX6_restore_19 : decode cX6_restore 19 = .ok (.getfield 7, 3) := by decide +kernel
theorem dX6_restore_22 : decode cX6_restore 22 = .ok (.iload_n 1, 1) := by decide +kernel
theorem dX6_restore_23 : decode cX6_restore 23 = .ok (.aload_n 0, 1) := by decide +kernel
theorem dX6_restore_24 : decode cX6_restore 24 = .ok (.getfield 35, 3) := by decide +kernel
theorem dX6_restore_27 : decode cX6_restore 27 = .ok (.iload_n 1, 1) := by decide +kernel
theorem dX6_restore_28 : decode cX6_restore 28 = .ok (.iaload, 1) := by decide +kernel
theorem dX6_restore_29 : decode cX6_restore 29 = .ok (.iastore, 1) := by decide +kernel
theorem dX6_restore_30 : decode cX6_restore 30 = .ok (.iinc 1 1, 3) := by decide +kernel
theorem dX6_restore_33 : decode cX6_restore 33 = .ok (.goto (-21), 3) := by decide +kernel
theorem dX6_restore_36 : decode cX6_restore 36 = .ok (.iconst 0, 1) := by decide +kernel
theorem dX6_restore_37 : decode cX6_restore 37 = .ok (.istore_n 1, 1) := by decide +kernel
theorem dX6_restore_38 : decode cX6_restore 38 = .ok (.iload_n 1, 1) := by decide +kernel
theorem dX6_restore_39 : decode cX6_restore 39 = .ok (.sipush 504, 3) := by decide +kernel
theorem dX6_restore_42 : decode cX6_restore 42 = .ok (.if_icmp .ge 24, 3) := by decide +kernel
theorem dX6_restore_45 : decode cX6_restore 45 = .ok (.aload_n 0, 1) := by decide +kernel
theorem dX6_restore_46 : decode cX6_restore 46 = .ok (.getfield 20, 3) := by decide +kernel
theorem dX6_restore_49 : decode cX6_restore 49 = .ok (.iload_n 1, 1) := by decide +kernel
theorem dX6_restore_50 : decode cX6_restore 50 = .ok (.aload_n 0, 1) := by decide +kernel
theorem dX6_restore_51 : decode cX6_restore 51 = .ok (.getfield 35, 3) := by decide +kernel
theorem dX6_restore_54 : decode cX6_restore 54 = .ok (.bipush 63, 2) := by decide +kernel
theorem dX6_restore_56 : decode cX6_restore 56 = .ok (.iload_n 1, 1) := by decide +kernel
theorem dX6_restore_57 : decode cX6_restore 57 = .ok (.iadd, 1) := by decide +kernel
theorem dX6_restore_58 : decode cX6_restore 58 = .ok (.iaload, 1) := by decide +kernel
theorem dX6_restore_59 : decode cX6_restore 59 = .ok (.iastore, 1) := by decide +kernel
theorem dX6_restore_60 : decode cX6_restore 60 = .ok (.iinc 1 1, 3) := by decide +kernel
theorem dX6_restore_63 : decode cX6_restore 63 = .ok (.goto (-25), 3) := by decide +kernel
theorem dX6_restore_66 : decode cX6_restore 66 = .ok (.aload_n 0, 1) := by decide +kernel
theorem dX6_restore_67 : decode cX6_restore 67 = .ok (.aload_n 0, 1) := by decide +kernel
theorem dX6_restore_68 : decode cX6_restore 68 = .ok (.getfield 204, 3) := by decide +kernel
theorem dX6_restore_71 : decode cX6_restore 71 = .ok (.putfield 74, 3) := by decide +kernel
theorem dX6_restore_74 : decode cX6_restore 74 = .ok (.aload_n 0, 1) := by decide +kernel
theorem dX6_restore_75 : decode cX6_restore 75 = .ok (.iconst (-1), 1) := by decide +kernel
theorem dX6_restore_76 : decode cX6_restore 76 = .ok (.putfield 16, 3) := by decide +kernel
theorem dX6_restore_79 : decode cX6_restore 79 = .ok (.iconst 1, 1) := by decide +kernel
theorem dX6_restore_80 : decode cX6_restore 80 = .ok (.ireturn, 1) := by decide +kernel
theorem dX6_isSheet_0 : decode cX6_isSheet 0 = .ok (.iload_n 0, 1) := by decide +kernel
theorem dX6_isSheet_1 : decode cX6_isSheet 1 = .ok (.i2l, 1) := by decide +kernel
theorem dX6_isSheet_2 : decode cX6_isSheet 2 = .ok (.lconst 0, 1) := by decide +kernel
theorem dX6_isSheet_3 : decode cX6_isSheet 3 = .ok (.ldc2_w 70, 3) := by decide +kernel
theorem dX6_isSheet_6 : decode cX6_isSheet 6 = .ok (.invokestatic 51, 3) := by decide +kernel
theorem dX6_isSheet_9 : decode cX6_isSheet 9 = .ok (.ireturn, 1) := by decide +kernel
theorem dX6_isLane_0 : decode cX6_isLane 0 = .ok (.iload_n 0, 1) := by decide +kernel
theorem dX6_isLane_1 : decode cX6_isLane 1 = .ok (.i2l, 1) := by decide +kernel
theorem dX6_isLane_2 : decode cX6_isLane 2 = .ok (.lconst 0, 1) := by decide +kernel
theorem dX6_isLane_3 : decode cX6_isLane 3 = .ok (.ldc2_w 70, 3) := by decide +kernel
theorem dX6_isLane_6 : decode cX6_isLane 6 = .ok (.invokestatic 51, 3) := by decide +kernel
theorem dX6_isLane_9 : decode cX6_isLane 9 = .ok (.ireturn, 1) := by decide +kernel
theorem dX6_why_0 : decode cX6_why 0 = .ok (.aload_n 0, 1) := by decide +kernel
theorem dX6_why_1 : decode cX6_why 1 = .ok (.getfield 38, 3) := by decide +kernel
theorem dX6_why_4 : decode cX6_why 4 = .ok (.iload_n 1, 1) := by decide +kernel
theorem dX6_why_5 : decode cX6_why 5 = .ok (.iaload, 1) := by decide +kernel
theorem dX6_why_6 : decode cX6_why 6 = .ok (.ifCond .ge 6, 3) := by decide +kernel
theorem dX6_why_9 : decode cX6_why 9 = .ok (.bipush (-11), 2) := by decide +kernel
theorem dX6_why_11 : decode cX6_why 11 = .ok (.ireturn, 1) := by decide +kernel
theorem dX6_why_12 : decode cX6_why 12 = .ok (.aload_n 0, 1) := by decide +kernel
theorem dX6_why_13 : decode cX6_why 13 = .ok (.getfield 38, 3) := by decide +kernel
theorem dX6_why_16 : decode cX6_why 16 = .ok (.iload_n 1, 1) := by decide +kernel
theorem dX6_why_17 : decode cX6_why 17 = .ok (.iaload, 1) := by decide +kernel
theorem dX6_why_18 : decode cX6_why 18 = .ok (.iload_n 2, 1) := by decide +kernel
theorem dX6_why_19 : decode cX6_why 19 = .ok (.if_icmp .eq 6, 3) := by decide +kernel
theorem dX6_why_22 : decode cX6_why 22 = .ok (.bipush (-12), 2) := by decide +kernel
theorem dX6_why_24 : decode cX6_why 24 = .ok (.ireturn, 1) := by decide +kernel
theorem dX6_why_25 : decode cX6_why 25 = .ok (.iload_n 3, 1) := by decide +kernel
theorem dX6_why_26 : decode cX6_why 26 = .ok (.ifCond .lt 25, 3) := by decide +kernel
theorem dX6_why_29 : decode cX6_why 29 = .ok (.iload 4, 2) := by decide +kernel
theorem dX6_why_31 : decode cX6_why 31 = .ok (.ifCond .lt 20, 3) := by decide +kernel
theorem dX6_why_34 : decode cX6_why 34 = .ok (.iload_n 3, 1) := by decide +kernel
theorem dX6_why_35 : decode cX6_why 35 = .ok (.i2l, 1) := by decide +kernel
theorem dX6_why_36 : decode cX6_why 36 = .ok (.iload 4, 2) := by decide +kernel
theorem dX6_why_38 : decode cX6_why 38 = .ok (.i2l, 1) := by decide +kernel
theorem dX6_why_39 : decode cX6_why 39 = .ok (.ladd, 1) := by decide +kernel
theorem dX6_why_40 : decode cX6_why 40 = .ok (.aload_n 0, 1) := by decide +kernel
theorem dX6_why_41 : decode cX6_why 41 = .ok (.getfield 41, 3) := by decide +kernel
theorem dX6_why_44 : decode cX6_why 44 = .ok (.iload_n 1, 1) := by decide +kernel
theorem dX6_why_45 : decode cX6_why 45 = .ok (.iaload, 1) := by decide +kernel
theorem dX6_why_46 : decode cX6_why 46 = .ok (.i2l, 1) := by decide +kernel
theorem dX6_why_47 : decode cX6_why 47 = .ok (.lcmp, 1) := by decide +kernel
theorem dX6_why_48 : decode cX6_why 48 = .ok (.ifCond .le 8, 3) := by decide +kernel
theorem dX6_why_51 : decode cX6_why 51 = .ok (.bipush (-13), 2) := by decide +kernel
theorem dX6_why_53 : decode cX6_why 53 = .ok (.goto 4, 3) := by decide +kernel
theorem dX6_why_56 : decode cX6_why 56 = .ok (.iconst 0, 1) := by decide +kernel
theorem dX6_why_57 : decode cX6_why 57 = .ok (.ireturn, 1) := by decide +kernel
theorem dX6_buckets_0 : decode cX6_buckets 0 = .ok (.iload_n 1, 1) := by decide +kernel
theorem dX6_buckets_1 : decode cX6_buckets 1 = .ok (.invokestatic 210, 3) := by decide +kernel
theorem dX6_buckets_4 : decode cX6_buckets 4 = .ok (.ifCond .eq 23, 3) := by decide +kernel
theorem dX6_buckets_7 : decode cX6_buckets 7 = .ok (.iload_n 2, 1) := by decide +kernel
theorem dX6_buckets_8 : decode cX6_buckets 8 = .ok (.invokestatic 213, 3) := by decide +kernel
theorem dX6_buckets_11 : decode cX6_buckets 11 = .ok (.ifCond .eq 16, 3) := by decide +kernel
theorem dX6_buckets_14 : decode cX6_buckets 14 = .ok (.iload 4, 2) := by decide +kernel
theorem dX6_buckets_16 : decode cX6_buckets 16 = .ok (.i2l, 1) := by decide +kernel
theorem dX6_buckets_17 : decode cX6_buckets 17 = .ok (.lconst 1, 1) := by decide +kernel
theorem dX6_buckets_18 : decode cX6_buckets 18 = .ok (.ldc2_w 80, 3) := by decide +kernel
theorem dX6_buckets_21 : decode cX6_buckets 21 = .ok (.invokestatic 51, 3) := by decide +kernel
theorem dX6_buckets_24 : decode cX6_buckets 24 = .ok (.ifCond .ne 5, 3) := by decide +kernel
theorem dX6_buckets_27 : decode cX6_buckets 27 = .ok (.iconst (-1), 1) := by decide +kernel
theorem dX6_buckets_28 : decode cX6_buckets 28 = .ok (.ireturn, 1) := by decide +kernel
theorem dX6_buckets_29 : decode cX6_buckets 29 = .ok (.aload_n 0, 1) := by decide +kernel
theorem dX6_buckets_30 : decode cX6_buckets 30 = .ok (.iload_n 1, 1) := by decide +kernel
theorem dX6_buckets_31 : decode cX6_buckets 31 = .ok (.iload_n 2, 1) := by decide +kernel
theorem dX6_buckets_32 : decode cX6_buckets 32 = .ok (.iload_n 3, 1) := by decide +kernel
theorem dX6_buckets_33 : decode cX6_buckets 33 = .ok (.iconst 2, 1) := by decide +kernel
theorem dX6_buckets_34 : decode cX6_buckets 34 = .ok (.iload 4, 2) := by decide +kernel
theorem dX6_buckets_36 : decode cX6_buckets 36 = .ok (.imul, 1) := by decide +kernel
theorem dX6_buckets_37 : decode cX6_buckets 37 = .ok (.invokevirtual 216, 3) := by decide +kernel
theorem dX6_buckets_40 : decode cX6_buckets 40 = .ok (.istore 5, 2) := by decide +kernel
theorem dX6_buckets_42 : decode cX6_buckets 42 = .ok (.iload 5, 2) := by decide +kernel
theorem dX6_buckets_44 : decode cX6_buckets 44 = .ok (.ifCond .ge 6, 3) := by decide +kernel
theorem dX6_buckets_47 : decode cX6_buckets 47 = .ok (.iload 5, 2) := by decide +kernel
theorem dX6_buckets_49 : decode cX6_buckets 49 = .ok (.ireturn, 1) := by decide +kernel
theorem dX6_buckets_50 : decode cX6_buckets 50 = .ok (.bipush 24, 2) := by decide +kernel
theorem dX6_buckets_52 : decode cX6_buckets 52 = .ok (.iload_n 1, 1) := by decide +kernel
theorem dX6_buckets_53 : decode cX6_buckets 53 = .ok (.imul, 1) := by decide +kernel
theorem dX6_buckets_54 : decode cX6_buckets 54 = .ok (.iload_n 3, 1) := by decide +kernel
theorem dX6_buckets_55 : decode cX6_buckets 55 = .ok (.iadd, 1) := by decide +kernel
theorem dX6_buckets_56 : decode cX6_buckets 56 = .ok (.istore 6, 2) := by decide +kernel
theorem dX6_buckets_58 : decode cX6_buckets 58 = .ok (.iconst 0, 1) := by decide +kernel
theorem dX6_buckets_59 : decode cX6_buckets 59 = .ok (.istore 7, 2) := by decide +kernel
theorem dX6_buckets_61 : decode cX6_buckets 61 = .ok (.iload 7, 2) := by decide +kernel
theorem dX6_buckets_63 : decode cX6_buckets 63 = .ok (.iload 4, 2) := by decide +kernel
theorem dX6_buckets_65 : decode cX6_buckets 65 = .ok (.if_icmp .ge 58, 3) := by decide +kernel
theorem dX6_buckets_68 : decode cX6_buckets 68 = .ok (.aload_n 0, 1) := by decide +kernel
theorem dX6_buckets_69 : decode cX6_buckets 69 = .ok (.getfield 44, 3) := by decide +kernel
theorem dX6_buckets_72 : decode cX6_buckets 72 = .ok (.iload 6, 2) := by decide +kernel
theorem dX6_buckets_74 : decode cX6_buckets 74 = .ok (.iconst 2, 1) := by decide +kernel
theorem dX6_buckets_75 : decode cX6_buckets 75 = .ok (.iload 7, 2) := by decide +kernel
theorem dX6_buckets_77 : decode cX6_buckets 77 = .ok (.imul, 1) := by decide +kernel
theorem dX6_buckets_78 : decode cX6_buckets 78 = .ok (.iadd, 1) := by decide +kernel
theorem dX6_buckets_79 : decode cX6_buckets 79 = .ok (.laload, 1) := by decide +kernel
theorem dX6_buckets_80 : decode cX6_buckets 80 = .ok (.lconst 0, 1) := by decide +kernel
theorem dX6_buckets_81 : decode cX6_buckets 81 = .ok (.ldc2_w 140, 3) := by decide +kernel
theorem dX6_buckets_84 : decode cX6_buckets 84 = .ok (.invokestatic 51, 3) := by decide +kernel
theorem dX6_buckets_87 : decode cX6_buckets 87 = .ok (.ifCond .eq 27, 3) := by decide +kernel
theorem dX6_buckets_90 : decode cX6_buckets 90 = .ok (.aload_n 0, 1) := by decide +kernel
theorem dX6_buckets_91 : decode cX6_buckets 91 = .ok (.getfield 44, 3) := by decide +kernel
theorem dX6_buckets_94 : decode cX6_buckets 94 = .ok (.iload 6, 2) := by decide +kernel
theorem dX6_buckets_96 : decode cX6_buckets 96 = .ok (.iconst 2, 1) := by decide +kernel
theorem dX6_buckets_97 : decode cX6_buckets 97 = .ok (.iload 7, 2) := by decide +kernel
theorem dX6_buckets_99 : decode cX6_buckets 99 = .ok (.imul, 1) := by decide +kernel
theorem dX6_buckets_100 : decode cX6_buckets 100 = .ok (.iadd, 1) := by decide +kernel
theorem dX6_buckets_101 : decode cX6_buckets 101 = .ok (.iconst 1, 1) := by decide +kernel
theorem dX6_buckets_102 : decode cX6_buckets 102 = .ok (.iadd, 1) := by decide +kernel
theorem dX6_buckets_103 : decode cX6_buckets 103 = .ok (.laload, 1) := by decide +kernel
theorem dX6_buckets_104 : decode cX6_buckets 104 = .ok (.lconst 0, 1) := by decide +kernel
theorem dX6_buckets_105 : decode cX6_buckets 105 = .ok (.ldc2_w 128, 3) := by decide +kernel
theorem dX6_buckets_108 : decode cX6_buckets 108 = .ok (.invokestatic 51, 3) := by decide +kernel
theorem dX6_buckets_111 : decode cX6_buckets 111 = .ok (.ifCond .ne 6, 3) := by decide +kernel
theorem dX6_buckets_114 : decode cX6_buckets 114 = .ok (.bipush (-2), 2) := by decide +kernel
theorem dX6_buckets_116 : decode cX6_buckets 116 = .ok (.ireturn, 1) := by decide +kernel
theorem dX6_buckets_117 : decode cX6_buckets 117 = .ok (.iinc 7 1, 3) := by decide +kernel
theorem dX6_buckets_120 : decode cX6_buckets 120 = .ok (.goto (-59), 3) := by decide +kernel
theorem dX6_buckets_123 : decode cX6_buckets 123 = .ok (.aload_n 0, 1) := by decide +kernel
theorem dX6_buckets_124 : decode cX6_buckets 124 = .ok (.invokevirtual 142, 3) := by decide +kernel
theorem dX6_buckets_127 : decode cX6_buckets 127 = .ok (.iconst 0, 1) := by decide +kernel
theorem dX6_buckets_128 : decode cX6_buckets 128 = .ok (.istore 7, 2) := by decide +kernel
theorem dX6_buckets_130 : decode cX6_buckets 130 = .ok (.iconst 1, 1) := by decide +kernel
theorem dX6_buckets_131 : decode cX6_buckets 131 = .ok (.istore 8, 2) := by decide +kernel
theorem dX6_buckets_133 : decode cX6_buckets 133 = .ok (.iload 8, 2) := by decide +kernel
theorem dX6_buckets_135 : decode cX6_buckets 135 = .ok (.bipush 10, 2) := by decide +kernel
theorem dX6_buckets_137 : decode cX6_buckets 137 = .ok (.if_icmp .ge 139, 3) := by decide +kernel
theorem dX6_buckets_140 : decode cX6_buckets 140 = .ok (.aload_n 0, 1) := by decide +kernel
theorem dX6_buckets_141 : decode cX6_buckets 141 = .ok (.getfield 7, 3) := by decide +kernel
theorem dX6_buckets_144 : decode cX6_buckets 144 = .ok (.iconst 3, 1) := by decide +kernel
theorem dX6_buckets_145 : decode cX6_buckets 145 = .ok (.iload 8, 2) := by decide +kernel
theorem dX6_buckets_147 : decode cX6_buckets 147 = .ok (.iastore, 1) := by decide +kernel
theorem dX6_buckets_148 : decode cX6_buckets 148 = .ok (.iconst 1, 1) := by decide +kernel
theorem dX6_buckets_149 : decode cX6_buckets 149 = .ok (.istore 9, 2) := by decide +kernel
theorem dX6_buckets_151 : decode cX6_buckets 151 = .ok (.iconst 0, 1) := by decide +kernel
theorem dX6_buckets_152 : decode cX6_buckets 152 = .ok (.istore 10, 2) := by decide +kernel
theorem dX6_buckets_154 : decode cX6_buckets 154 = .ok (.iload 10, 2) := by decide +kernel
theorem dX6_buckets_156 : decode cX6_buckets 156 = .ok (.sipush 241, 3) := by decide +kernel
theorem dX6_buckets_159 : decode cX6_buckets 159 = .ok (.if_icmp .ge 89, 3) := by decide +kernel
theorem dX6_buckets_162 : decode cX6_buckets 162 = .ok (.iconst 0, 1) := by decide +kernel
theorem dX6_buckets_163 : decode cX6_buckets 163 = .ok (.istore 11, 2) := by decide +kernel
theorem dX6_buckets_165 : decode cX6_buckets 165 = .ok (.iload 11, 2) := by decide +kernel
theorem dX6_buckets_167 : decode cX6_buckets 167 = .ok (.iload 4, 2) := by decide +kernel
theorem dX6_buckets_169 : decode cX6_buckets 169 = .ok (.if_icmp .ge 65, 3) := by decide +kernel
theorem dX6_buckets_172 : decode cX6_buckets 172 = .ok (.iload 9, 2) := by decide +kernel
theorem dX6_buckets_174 : decode cX6_buckets 174 = .ok (.ifCond .eq 51, 3) := by decide +kernel
theorem dX6_buckets_177 : decode cX6_buckets 177 = .ok (.aload_n 0, 1) := by decide +kernel
theorem dX6_buckets_178 : decode cX6_buckets 178 = .ok (.getfield 44, 3) := by decide +kernel
theorem dX6_buckets_181 : decode cX6_buckets 181 = .ok (.iload 6, 2) := by decide +kernel
theorem dX6_buckets_183 : decode cX6_buckets 183 = .ok (.iconst 2, 1) := by decide +kernel
theorem dX6_buckets_184 : decode cX6_buckets 184 = .ok (.iload 11, 2) := by decide +kernel
theorem dX6_buckets_186 : decode cX6_buckets 186 = .ok (.imul, 1) := by decide +kernel
theorem dX6_buckets_187 : decode cX6_buckets 187 = .ok (.iadd, 1) := by decide +kernel
theorem dX6_buckets_188 : decode cX6_buckets 188 = .ok (.laload, 1) := by decide +kernel
theorem dX6_buckets_189 : decode cX6_buckets 189 = .ok (.iload 10, 2) := by decide +kernel
theorem dX6_buckets_191 : decode cX6_buckets 191 = .ok (.i2l, 1) := by decide +kernel
theorem dX6_buckets_192 : decode cX6_buckets 192 = .ok (.lcmp, 1) := by decide +kernel
theorem dX6_buckets_193 : decode cX6_buckets 193 = .ok (.ifCond .ne 28, 3) := by decide +kernel
theorem dX6_buckets_196 : decode cX6_buckets 196 = .ok (.aload_n 0, 1) := by decide +kernel
theorem dX6_buckets_197 : decode cX6_buckets 197 = .ok (.getfield 44, 3) := by decide +kernel
theorem dX6_buckets_200 : decode cX6_buckets 200 = .ok (.iload 6, 2) := by decide +kernel
theorem dX6_buckets_202 : decode cX6_buckets 202 = .ok (.iconst 2, 1) := by decide +kernel
theorem dX6_buckets_203 : decode cX6_buckets 203 = .ok (.iload 11, 2) := by decide +kernel
theorem dX6_buckets_205 : decode cX6_buckets 205 = .ok (.imul, 1) := by decide +kernel
theorem dX6_buckets_206 : decode cX6_buckets 206 = .ok (.iadd, 1) := by decide +kernel
theorem dX6_buckets_207 : decode cX6_buckets 207 = .ok (.iconst 1, 1) := by decide +kernel
theorem dX6_buckets_208 : decode cX6_buckets 208 = .ok (.iadd, 1) := by decide +kernel
theorem dX6_buckets_209 : decode cX6_buckets 209 = .ok (.laload, 1) := by decide +kernel
theorem dX6_buckets_210 : decode cX6_buckets 210 = .ok (.aload_n 0, 1) := by decide +kernel
theorem dX6_buckets_211 : decode cX6_buckets 211 = .ok (.getfield 7, 3) := by decide +kernel
theorem dX6_buckets_214 : decode cX6_buckets 214 = .ok (.iconst 0, 1) := by decide +kernel
theorem dX6_buckets_215 : decode cX6_buckets 215 = .ok (.iaload, 1) := by decide +kernel
theorem dX6_buckets_216 : decode cX6_buckets 216 = .ok (.i2l, 1) := by decide +kernel
theorem dX6_buckets_217 : decode cX6_buckets 217 = .ok (.lcmp, 1) := by decide +kernel
theorem dX6_buckets_218 : decode cX6_buckets 218 = .ok (.ifCond .ne 7, 3) := by decide +kernel
theorem dX6_buckets_221 : decode cX6_buckets 221 = .ok (.iconst 1, 1) := by decide +kernel
theorem dX6_buckets_222 : decode cX6_buckets 222 = .ok (.goto 4, 3) := by decide +kernel
theorem dX6_buckets_225 : decode cX6_buckets 225 = .ok (.iconst 0, 1) := by decide +kernel
theorem dX6_buckets_226 : decode cX6_buckets 226 = .ok (.istore 9, 2) := by decide +kernel
theorem dX6_buckets_228 : decode cX6_buckets 228 = .ok (.iinc 11 1, 3) := by decide +kernel
theorem dX6_buckets_231 : decode cX6_buckets 231 = .ok (.goto (-66), 3) := by decide +kernel
theorem dX6_buckets_234 : decode cX6_buckets 234 = .ok (.aload_n 0, 1) := by decide +kernel
theorem dX6_buckets_235 : decode cX6_buckets 235 = .ok (.iconst 0, 1) := by decide +kernel
theorem dX6_buckets_236 : decode cX6_buckets 236 = .ok (.bipush 127, 2) := by decide +kernel
theorem dX6_buckets_238 : decode cX6_buckets 238 = .ok (.invokevirtual 124, 3) := by decide +kernel
theorem dX6_buckets_241 : decode cX6_buckets 241 = .ok (.pop, 1) := by decide +kernel
theorem dX6_buckets_242 : decode cX6_buckets 242 = .ok (.iinc 10 1, 3) := by decide +kernel
theorem dX6_buckets_245 : decode cX6_buckets 245 = .ok (.goto (-91), 3) := by decide +kernel
theorem dX6_buckets_248 : decode cX6_buckets 248 = .ok (.iload 7, 2) := by decide +kernel
theorem dX6_buckets_250 : decode cX6_buckets 250 = .ok (.iload 9, 2) := by decide +kernel
theorem dX6_buckets_252 : decode cX6_buckets 252 = .ok (.ifCond .eq 10, 3) := by decide +kernel
theorem dX6_buckets_255 : decode cX6_buckets 255 = .ok (.iconst 1, 1) := by decide +kernel
theorem dX6_buckets_256 : decode cX6_buckets 256 = .ok (.iload 8, 2) := by decide +kernel
theorem dX6_buckets_258 : decode cX6_buckets 258 = .ok (.ishl, 1) := by decide +kernel
theorem dX6_buckets_259 : decode cX6_buckets 259 = .ok (.goto 4, 3) := by decide +kernel
theorem dX6_buckets_262 : decode cX6_buckets 262 = .ok (.iconst 0, 1) := by decide +kernel
theorem dX6_buckets_263 : decode cX6_buckets 263 = .ok (.ior, 1) := by decide +kernel
theorem dX6_buckets_264 : decode cX6_buckets 264 = .ok (.istore 7, 2) := by decide +kernel
theorem dX6_buckets_266 : decode cX6_buckets 266 = .ok (.aload_n 0, 1) := by decide +kernel
theorem dX6_buckets_267 : decode cX6_buckets 267 = .ok (.invokevirtual 145, 3) := by decide +kernel
theorem dX6_buckets_270 : decode cX6_buckets 270 = .ok (.iinc 8 1, 3) := by decide +kernel
theorem dX6_buckets_273 : decode cX6_buckets 273 = .ok (.goto (-140), 3) := by decide +kernel
theorem dX6_buckets_276 : decode cX6_buckets 276 = .ok (.iload 7, 2) := by decide +kernel
theorem dX6_buckets_278 : decode cX6_buckets 278 = .ok (.ireturn, 1) := by decide +kernel
theorem dX6_film_0 : decode cX6_film 0 = .ok (.iload_n 1, 1) := by decide +kernel
theorem dX6_film_1 : decode cX6_film 1 = .ok (.i2l, 1) := by decide +kernel
theorem dX6_film_2 : decode cX6_film 2 = .ok (.lconst 1, 1) := by decide +kernel
theorem dX6_film_3 : decode cX6_film 3 = .ok (.ldc2_w 220, 3) := by decide +kernel
theorem dX6_film_6 : decode cX6_film 6 = .ok (.invokestatic 51, 3) := by decide +kernel
theorem dX6_film_9 : decode cX6_film 9 = .ok (.ifCond .eq 17, 3) := by decide +kernel
theorem dX6_film_12 : decode cX6_film 12 = .ok (.iload_n 2, 1) := by decide +kernel
theorem dX6_film_13 : decode cX6_film 13 = .ok (.invokestatic 210, 3) := by decide +kernel
theorem dX6_film_16 : decode cX6_film 16 = .ok (.ifCond .eq 10, 3) := by decide +kernel
theorem dX6_film_19 : decode cX6_film 19 = .ok (.iload_n 3, 1) := by decide +kernel
theorem dX6_film_20 : decode cX6_film 20 = .ok (.invokestatic 213, 3) := by decide +kernel
theorem dX6_film_23 : decode cX6_film 23 = .ok (.ifCond .ne 5, 3) := by decide +kernel
theorem dX6_film_26 : decode cX6_film 26 = .ok (.iconst (-1), 1) := by decide +kernel
theorem dX6_film_27 : decode cX6_film 27 = .ok (.ireturn, 1) := by decide +kernel
theorem dX6_film_28 : decode cX6_film 28 = .ok (.aload_n 0, 1) := by decide +kernel
theorem dX6_film_29 : decode cX6_film 29 = .ok (.iload_n 2, 1) := by decide +kernel
theorem dX6_film_30 : decode cX6_film 30 = .ok (.iload_n 3, 1) := by decide +kernel
theorem dX6_film_31 : decode cX6_film 31 = .ok (.iload 4, 2) := by decide +kernel
theorem dX6_film_33 : decode cX6_film 33 = .ok (.iload_n 1, 1) := by decide +kernel
theorem dX6_film_34 : decode cX6_film 34 = .ok (.invokevirtual 216, 3) := by decide +kernel
theorem dX6_film_37 : decode cX6_film 37 = .ok (.istore 5, 2) := by decide +kernel
theorem dX6_film_39 : decode cX6_film 39 = .ok (.iload 5, 2) := by decide +kernel
theorem dX6_film_41 : decode cX6_film 41 = .ok (.ifCond .ge 6, 3) := by decide +kernel
theorem dX6_film_44 : decode cX6_film 44 = .ok (.iload 5, 2) := by decide +kernel
theorem dX6_film_46 : decode cX6_film 46 = .ok (.ireturn, 1) := by decide +kernel
theorem dX6_film_47 : decode cX6_film 47 = .ok (.aload_n 0, 1) := by decide +kernel
theorem dX6_film_48 : decode cX6_film 48 = .ok (.invokevirtual 142, 3) := by decide +kernel
theorem dX6_film_51 : decode cX6_film 51 = .ok (.iconst 0, 1) := by decide +kernel
theorem dX6_film_52 : decode cX6_film 52 = .ok (.istore 6, 2) := by decide +kernel
theorem dX6_film_54 : decode cX6_film 54 = .ok (.iload 6, 2) := by decide +kernel
theorem dX6_film_56 : decode cX6_film 56 = .ok (.iload_n 1, 1) := by decide +kernel
theorem dX6_film_57 : decode cX6_film 57 = .ok (.if_icmp .ge 39, 3) := by decide +kernel
theorem dX6_film_60 : decode cX6_film 60 = .ok (.aload_n 0, 1) := by decide +kernel
theorem dX6_film_61 : decode cX6_film 61 = .ok (.iconst 0, 1) := by decide +kernel
theorem dX6_film_62 : decode cX6_film 62 = .ok (.bipush 127, 2) := by decide +kernel
theorem dX6_film_64 : decode cX6_film 64 = .ok (.invokevirtual 124, 3) := by decide +kernel
theorem dX6_film_67 : decode cX6_film 67 = .ok (.pop, 1) := by decide +kernel
theorem dX6_film_68 : decode cX6_film 68 = .ok (.aload_n 0, 1) := by decide +kernel
theorem dX6_film_69 : decode cX6_film 69 = .ok (.getfield 44, 3) := by decide +kernel
theorem dX6_film_72 : decode cX6_film 72 = .ok (.bipush 24, 2) := by decide +kernel
theorem dX6_film_74 : decode cX6_film 74 = .ok (.iload_n 2, 1) := by decide +kernel
theorem dX6_film_75 : decode cX6_film 75 = .ok (.imul, 1) := by decide +kernel
theorem dX6_film_76 : decode cX6_film 76 = .ok (.iload 4, 2) := by decide +kernel
theorem dX6_film_78 : decode cX6_film 78 = .ok (.iadd, 1) := by decide +kernel
theorem dX6_film_79 : decode cX6_film 79 = .ok (.iload 6, 2) := by decide +kernel
theorem dX6_film_81 : decode cX6_film 81 = .ok (.iadd, 1) := by decide +kernel
theorem dX6_film_82 : decode cX6_film 82 = .ok (.aload_n 0, 1) := by decide +kernel
theorem dX6_film_83 : decode cX6_film 83 = .ok (.getfield 7, 3) := by decide +kernel
theorem dX6_film_86 : decode cX6_film 86 = .ok (.iconst 0, 1) := by decide +kernel
theorem dX6_film_87 : decode cX6_film 87 = .ok (.iaload, 1) := by decide +kernel
theorem dX6_film_88 : decode cX6_film 88 = .ok (.i2l, 1) := by decide +kernel
theorem dX6_film_89 : decode cX6_film 89 = .ok (.lastore, 1) := by decide +kernel
theorem dX6_film_90 : decode cX6_film 90 = .ok (.iinc 6 1, 3) := by decide +kernel
theorem dX6_film_93 : decode cX6_film 93 = .ok (.goto (-39), 3) := by decide +kernel
theorem dX6_film_96 : decode cX6_film 96 = .ok (.aload_n 0, 1) := by decide +kernel
theorem dX6_film_97 : decode cX6_film 97 = .ok (.invokevirtual 145, 3) := by decide +kernel
theorem dX6_film_100 : decode cX6_film 100 = .ok (.iload_n 1, 1) := by decide +kernel
theorem dX6_film_101 : decode cX6_film 101 = .ok (.ireturn, 1) := by decide +kernel
theorem dX6_sheet_0 : decode cX6_sheet 0 = .ok (.iload_n 1, 1) := by decide +kernel
theorem dX6_sheet_1 : decode cX6_sheet 1 = .ok (.invokestatic 210, 3) := by decide +kernel
theorem dX6_sheet_4 : decode cX6_sheet 4 = .ok (.ifCond .eq 16, 3) := by decide +kernel
theorem dX6_sheet_7 : decode cX6_sheet 7 = .ok (.iload_n 2, 1) := by decide +kernel
theorem dX6_sheet_8 : decode cX6_sheet 8 = .ok (.invokestatic 213, 3) := by decide +kernel
theorem dX6_sheet_11 : decode cX6_sheet 11 = .ok (.ifCond .eq 9, 3) := by decide +kernel
theorem dX6_sheet_14 : decode cX6_sheet 14 = .ok (.iload_n 3, 1) := by decide +kernel
theorem dX6_sheet_15 : decode cX6_sheet 15 = .ok (.bipush 24, 2) := by decide +kernel
theorem dX6_sheet_17 : decode cX6_sheet 17 = .ok (.if_icmp .le 5, 3) := by decide +kernel
theorem dX6_sheet_20 : decode cX6_sheet 20 = .ok (.iconst (-1), 1) := by decide +kernel
theorem dX6_sheet_21 : decode cX6_sheet 21 = .ok (.ireturn, 1) := by decide +kernel
theorem dX6_sheet_22 : decode cX6_sheet 22 = .ok (.iload_n 3, 1) := by decide +kernel
theorem dX6_sheet_23 : decode cX6_sheet 23 = .ok (.ifCond .ge 6, 3) := by decide +kernel
theorem dX6_sheet_26 : decode cX6_sheet 26 = .ok (.bipush (-14), 2) := by decide +kernel
theorem dX6_sheet_28 : decode cX6_sheet 28 = .ok (.ireturn, 1) := by decide +kernel
theorem dX6_sheet_29 : decode cX6_sheet 29 = .ok (.aload_n 0, 1) := by decide +kernel
theorem dX6_sheet_30 : decode cX6_sheet 30 = .ok (.getfield 38, 3) := by decide +kernel
theorem dX6_sheet_33 : decode cX6_sheet 33 = .ok (.iload_n 1, 1) := by decide +kernel
theorem dX6_sheet_34 : decode cX6_sheet 34 = .ok (.iload_n 2, 1) := by decide +kernel
theorem dX6_sheet_35 : decode cX6_sheet 35 = .ok (.iastore, 1) := by decide +kernel
theorem dX6_sheet_36 : decode cX6_sheet 36 = .ok (.aload_n 0, 1) := by decide +kernel
theorem dX6_sheet_37 : decode cX6_sheet 37 = .ok (.getfield 41, 3) := by decide +kernel
theorem dX6_sheet_40 : decode cX6_sheet 40 = .ok (.iload_n 1, 1) := by decide +kernel
theorem dX6_sheet_41 : decode cX6_sheet 41 = .ok (.iload_n 3, 1) := by decide +kernel
theorem dX6_sheet_42 : decode cX6_sheet 42 = .ok (.iastore, 1) := by decide +kernel
theorem dX6_sheet_43 : decode cX6_sheet 43 = .ok (.iconst 0, 1) := by decide +kernel
theorem dX6_sheet_44 : decode cX6_sheet 44 = .ok (.istore 4, 2) := by decide +kernel
theorem dX6_sheet_46 : decode cX6_sheet 46 = .ok (.iload 4, 2) := by decide +kernel
theorem dX6_sheet_48 : decode cX6_sheet 48 = .ok (.bipush 24, 2) := by decide +kernel
theorem dX6_sheet_50 : decode cX6_sheet 50 = .ok (.if_icmp .ge 22, 3) := by decide +kernel
theorem dX6_sheet_53 : decode cX6_sheet 53 = .ok (.aload_n 0, 1) := by decide +kernel
theorem dX6_sheet_54 : decode cX6_sheet 54 = .ok (.getfield 44, 3) := by decide +kernel
theorem dX6_sheet_57 : decode cX6_sheet 57 = .ok (.bipush 24, 2) := by decide +kernel
theorem dX6_sheet_59 : decode cX6_sheet 59 = .ok (.iload_n 1, 1) := by decide +kernel
theorem dX6_sheet_60 : decode cX6_sheet 60 = .ok (.imul, 1) := by decide +kernel
theorem dX6_sheet_61 : decode cX6_sheet 61 = .ok (.iload 4, 2) := by decide +kernel
theorem dX6_sheet_63 : decode cX6_sheet 63 = .ok (.iadd, 1) := by decide +kernel
theorem dX6_sheet_64 : decode cX6_sheet 64 = .ok (.lconst 0, 1) := by decide +kernel
theorem dX6_sheet_65 : decode cX6_sheet 65 = .ok (.lastore, 1) := by decide +kernel
theorem dX6_sheet_66 : decode cX6_sheet 66 = .ok (.iinc 4 1, 3) := by decide +kernel
theorem dX6_sheet_69 : decode cX6_sheet 69 = .ok (.goto (-23), 3) := by decide +kernel
theorem dX6_sheet_72 : decode cX6_sheet 72 = .ok (.iload_n 3, 1) := by decide +kernel
theorem dX6_sheet_73 : decode cX6_sheet 73 = .ok (.ireturn, 1) := by decide +kernel
theorem dX6_drop_0 : decode cX6_drop 0 = .ok (.iload_n 1, 1) := by decide +kernel
theorem dX6_drop_1 : decode cX6_drop 1 = .ok (.invokestatic 210, 3) := by decide +kernel
theorem dX6_drop_4 : decode cX6_drop 4 = .ok (.ifCond .ne 5, 3) := by decide +kernel
theorem dX6_drop_7 : decode cX6_drop 7 = .ok (.iconst (-1), 1) := by decide +kernel
theorem dX6_drop_8 : decode cX6_drop 8 = .ok (.ireturn, 1) := by decide +kernel
theorem dX6_drop_9 : decode cX6_drop 9 = .ok (.aload_n 0, 1) := by decide +kernel
theorem dX6_drop_10 : decode cX6_drop 10 = .ok (.getfield 38, 3) := by decide +kernel
theorem dX6_drop_13 : decode cX6_drop 13 = .ok (.iload_n 1, 1) := by decide +kernel
theorem dX6_drop_14 : decode cX6_drop 14 = .ok (.iaload, 1) := by decide +kernel
theorem dX6_drop_15 : decode cX6_drop 15 = .ok (.ifCond .ge 6, 3) := by decide +kernel
theorem dX6_drop_18 : decode cX6_drop 18 = .ok (.bipush (-11), 2) := by decide +kernel
theorem dX6_drop_20 : decode cX6_drop 20 = .ok (.ireturn, 1) := by decide +kernel
theorem dX6_drop_21 : decode cX6_drop 21 = .ok (.aload_n 0, 1) := by decide +kernel
theorem dX6_drop_22 : decode cX6_drop 22 = .ok (.getfield 38, 3) := by decide +kernel
theorem dX6_drop_25 : decode cX6_drop 25 = .ok (.iload_n 1, 1) := by decide +kernel
theorem dX6_drop_26 : decode cX6_drop 26 = .ok (.iconst (-1), 1) := by decide +kernel
theorem dX6_drop_27 : decode cX6_drop 27 = .ok (.iastore, 1) := by decide +kernel
theorem dX6_drop_28 : decode cX6_drop 28 = .ok (.aload_n 0, 1) := by decide +kernel
theorem dX6_drop_29 : decode cX6_drop 29 = .ok (.getfield 41, 3) := by decide +kernel
theorem dX6_drop_32 : decode cX6_drop 32 = .ok (.iload_n 1, 1) := by decide +kernel
theorem dX6_drop_33 : decode cX6_drop 33 = .ok (.iaload, 1) := by decide +kernel
theorem dX6_drop_34 : decode cX6_drop 34 = .ok (.ireturn, 1) := by decide +kernel
theorem dX6_item_0 : decode cX6_item 0 = .ok (.iload_n 1, 1) := by decide +kernel
theorem dX6_item_1 : decode cX6_item 1 = .ok (.invokestatic 210, 3) := by decide +kernel
theorem dX6_item_4 : decode cX6_item 4 = .ok (.ifCond .eq 10, 3) := by decide +kernel
theorem dX6_item_7 : decode cX6_item 7 = .ok (.iload_n 2, 1) := by decide +kernel
theorem dX6_item_8 : decode cX6_item 8 = .ok (.invokestatic 213, 3) := by decide +kernel
theorem dX6_item_11 : decode cX6_item 11 = .ok (.ifCond .ne 5, 3) := by decide +kernel
theorem dX6_item_14 : decode cX6_item 14 = .ok (.iconst (-1), 1) := by decide +kernel
theorem dX6_item_15 : decode cX6_item 15 = .ok (.ireturn, 1) := by decide +kernel
theorem dX6_item_16 : decode cX6_item 16 = .ok (.aload_n 0, 1) := by decide +kernel
theorem dX6_item_17 : decode cX6_item 17 = .ok (.iload_n 1, 1) := by decide +kernel
theorem dX6_item_18 : decode cX6_item 18 = .ok (.iload_n 2, 1) := by decide +kernel
theorem dX6_item_19 : decode cX6_item 19 = .ok (.iload_n 3, 1) := by decide +kernel
theorem dX6_item_20 : decode cX6_item 20 = .ok (.iconst 1, 1) := by decide +kernel
theorem dX6_item_21 : decode cX6_item 21 = .ok (.invokevirtual 216, 3) := by decide +kernel
theorem dX6_item_24 : decode cX6_item 24 = .ok (.istore 6, 2) := by decide +kernel
theorem dX6_item_26 : decode cX6_item 26 = .ok (.iload 6, 2) := by decide +kernel
theorem dX6_item_28 : decode cX6_item 28 = .ok (.ifCond .ge 6, 3) := by decide +kernel
theorem dX6_item_31 : decode cX6_item 31 = .ok (.iload 6, 2) := by decide +kernel
theorem dX6_item_33 : decode cX6_item 33 = .ok (.ireturn, 1) := by decide +kernel
theorem dX6_item_34 : decode cX6_item 34 = .ok (.aload_n 0, 1) := by decide +kernel
theorem dX6_item_35 : decode cX6_item 35 = .ok (.getfield 44, 3) := by decide +kernel
theorem dX6_item_38 : decode cX6_item 38 = .ok (.bipush 24, 2) := by decide +kernel
theorem dX6_item_40 : decode cX6_item 40 = .ok (.iload_n 1, 1) := by decide +kernel
theorem dX6_item_41 : decode cX6_item 41 = .ok (.imul, 1) := by decide +kernel
theorem dX6_item_42 : decode cX6_item 42 = .ok (.iload_n 3, 1) := by decide +kernel
theorem dX6_item_43 : decode cX6_item 43 = .ok (.iadd, 1) := by decide +kernel
theorem dX6_item_44 : decode cX6_item 44 = .ok (.iload_n 2, 1) := by decide +kernel
theorem dX6_item_45 : decode cX6_item 45 = .ok (.ifCond .ne 11, 3) := by decide +kernel
theorem dX6_item_48 : decode cX6_item 48 = .ok (.lload 4, 2) := by decide +kernel
theorem dX6_item_50 : decode cX6_item 50 = .ok (.l2i, 1) := by decide +kernel
theorem dX6_item_51 : decode cX6_item 51 = .ok (.i2b, 1) := by decide +kernel
theorem dX6_item_52 : decode cX6_item 52 = .ok (.i2l, 1) := by decide +kernel
theorem dX6_item_53 : decode cX6_item 53 = .ok (.goto 30, 3) := by decide +kernel
theorem dX6_item_56 : decode cX6_item 56 = .ok (.iload_n 2, 1) := by decide +kernel
theorem dX6_item_57 : decode cX6_item 57 = .ok (.iconst 1, 1) := by decide +kernel
theorem dX6_item_58 : decode cX6_item 58 = .ok (.if_icmp .ne 11, 3) := by decide +kernel
theorem dX6_item_61 : decode cX6_item 61 = .ok (.lload 4, 2) := by decide +kernel
theorem dX6_item_63 : decode cX6_item 63 = .ok (.l2i, 1) := by decide +kernel
theorem dX6_item_64 : decode cX6_item 64 = .ok (.i2s, 1) := by decide +kernel
theorem dX6_item_65 : decode cX6_item 65 = .ok (.i2l, 1) := by decide +kernel
theorem dX6_item_66 : decode cX6_item 66 = .ok (.goto 17, 3) := by decide +kernel
theorem dX6_item_69 : decode cX6_item 69 = .ok (.iload_n 2, 1) := by decide +kernel
theorem dX6_item_70 : decode cX6_item 70 = .ok (.iconst 2, 1) := by decide +kernel
theorem dX6_item_71 : decode cX6_item 71 = .ok (.if_icmp .ne 10, 3) := by decide +kernel
theorem dX6_item_74 : decode cX6_item 74 = .ok (.lload 4, 2) := by decide +kernel
theorem dX6_item_76 : decode cX6_item 76 = .ok (.l2i, 1) := by decide +kernel
theorem dX6_item_77 : decode cX6_item 77 = .ok (.i2l, 1) := by decide +kernel
theorem dX6_item_78 : decode cX6_item 78 = .ok (.goto 5, 3) := by decide +kernel
theorem dX6_item_81 : decode cX6_item 81 = .ok (.lload 4, 2) := by decide +kernel
theorem dX6_item_83 : decode cX6_item 83 = .ok (.lastore, 1) := by decide +kernel
theorem dX6_item_84 : decode cX6_item 84 = .ok (.iconst 1, 1) := by decide +kernel
theorem dX6_item_85 : decode cX6_item 85 = .ok (.ireturn, 1) := by decide +kernel
theorem dX6_copy_0 : decode cX6_copy 0 = .ok (.iload_n 1, 1) := by decide +kernel
theorem dX6_copy_1 : decode cX6_copy 1 = .ok (.invokestatic 210, 3) := by decide +kernel
theorem dX6_copy_4 : decode cX6_copy 4 = .ok (.ifCond .eq 10, 3) := by decide +kernel
theorem dX6_copy_7 : decode cX6_copy 7 = .ok (.iload_n 3, 1) := by decide +kernel
theorem dX6_copy_8 : decode cX6_copy 8 = .ok (.invokestatic 210, 3) := by decide +kernel
theorem dX6_copy_11 : decode cX6_copy 11 = .ok (.ifCond .ne 5, 3) := by decide +kernel
theorem dX6_copy_14 : decode cX6_copy 14 = .ok (.iconst (-1), 1) := by decide +kernel
theorem dX6_copy_15 : decode cX6_copy 15 = .ok (.ireturn, 1) := by decide +kernel
theorem dX6_copy_16 : decode cX6_copy 16 = .ok (.aload_n 0, 1) := by decide +kernel
theorem dX6_copy_17 : decode cX6_copy 17 = .ok (.getfield 38, 3) := by decide +kernel
theorem dX6_copy_20 : decode cX6_copy 20 = .ok (.iload_n 1, 1) := by decide +kernel
theorem dX6_copy_21 : decode cX6_copy 21 = .ok (.iaload, 1) := by decide +kernel
theorem dX6_copy_22 : decode cX6_copy 22 = .ok (.ifCond .lt 12, 3) := by decide +kernel
theorem dX6_copy_25 : decode cX6_copy 25 = .ok (.aload_n 0, 1) := by decide +kernel
theorem dX6_copy_26 : decode cX6_copy 26 = .ok (.getfield 38, 3) := by decide +kernel
theorem dX6_copy_29 : decode cX6_copy 29 = .ok (.iload_n 3, 1) := by decide +kernel
theorem dX6_copy_30 : decode cX6_copy 30 = .ok (.iaload, 1) := by decide +kernel
theorem dX6_copy_31 : decode cX6_copy 31 = .ok (.ifCond .ge 6, 3) := by decide +kernel
theorem dX6_copy_34 : decode cX6_copy 34 = .ok (.bipush (-11), 2) := by decide +kernel
theorem dX6_copy_36 : decode cX6_copy 36 = .ok (.ireturn, 1) := by decide +kernel
theorem dX6_copy_37 : decode cX6_copy 37 = .ok (.aload_n 0, 1) := by decide +kernel
theorem dX6_copy_38 : decode cX6_copy 38 = .ok (.iload_n 3, 1) := by decide +kernel
theorem dX6_copy_39 : decode cX6_copy 39 = .ok (.aload_n 0, 1) := by decide +kernel
theorem dX6_copy_40 : decode cX6_copy 40 = .ok (.getfield 38, 3) := by decide +kernel
theorem dX6_copy_43 : decode cX6_copy 43 = .ok (.iload_n 1, 1) := by decide +kernel
theorem dX6_copy_44 : decode cX6_copy 44 = .ok (.iaload, 1) := by decide +kernel
theorem dX6_copy_45 : decode cX6_copy 45 = .ok (.iload 4, 2) := by decide +kernel
theorem dX6_copy_47 : decode cX6_copy 47 = .ok (.iload 5, 2) := by decide +kernel
theorem dX6_copy_49 : decode cX6_copy 49 = .ok (.invokevirtual 216, 3) := by decide +kernel
theorem dX6_copy_52 : decode cX6_copy 52 = .ok (.istore 6, 2) := by decide +kernel
theorem dX6_copy_54 : decode cX6_copy 54 = .ok (.iload 6, 2) := by decide +kernel
theorem dX6_copy_56 : decode cX6_copy 56 = .ok (.ifCond .ne 20, 3) := by decide +kernel
theorem dX6_copy_59 : decode cX6_copy 59 = .ok (.aload_n 0, 1) := by decide +kernel
theorem dX6_copy_60 : decode cX6_copy 60 = .ok (.iload_n 1, 1) := by decide +kernel
theorem dX6_copy_61 : decode cX6_copy 61 = .ok (.aload_n 0, 1) := by decide +kernel
theorem dX6_copy_62 : decode cX6_copy 62 = .ok (.getfield 38, 3) := by decide +kernel
theorem dX6_copy_65 : decode cX6_copy 65 = .ok (.iload_n 1, 1) := by decide +kernel
theorem dX6_copy_66 : decode cX6_copy 66 = .ok (.iaload, 1) := by decide +kernel
theorem dX6_copy_67 : decode cX6_copy 67 = .ok (.iload_n 2, 1) := by decide +kernel
theorem dX6_copy_68 : decode cX6_copy 68 = .ok (.iload 5, 2) := by decide +kernel
theorem dX6_copy_70 : decode cX6_copy 70 = .ok (.invokevirtual 216, 3) := by decide +kernel
theorem dX6_copy_73 : decode cX6_copy 73 = .ok (.goto 5, 3) := by decide +kernel
theorem dX6_copy_76 : decode cX6_copy 76 = .ok (.iload 6, 2) := by decide +kernel
theorem dX6_copy_78 : decode cX6_copy 78 = .ok (.istore 6, 2) := by decide +kernel
theorem dX6_copy_80 : decode cX6_copy 80 = .ok (.iload 6, 2) := by decide +kernel
theorem dX6_copy_82 : decode cX6_copy 82 = .ok (.ifCond .ge 6, 3) := by decide +kernel
theorem dX6_copy_85 : decode cX6_copy 85 = .ok (.iload 6, 2) := by decide +kernel
theorem dX6_copy_87 : decode cX6_copy 87 = .ok (.ireturn, 1) := by decide +kernel
