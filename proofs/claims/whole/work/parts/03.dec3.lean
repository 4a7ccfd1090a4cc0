theorem dX5_foretellDone_12 : decode cX5_foretellDone 12 = .ok (.getfield 39, 3) := by decide +kernel
theorem dX5_foretellDone_15 : decode cX5_foretellDone 15 = .ok (.iload_n 1, 1) := by decide +kernel
theorem dX5_foretellDone_16 : decode cX5_foretellDone 16 = .ok (.putfield 145, 3) := by decide +kernel
theorem dX5_foretellDone_19 : decode cX5_foretellDone 19 = .ok (.aload_n 0, 1) := by decide +kernel
theorem dX5_foretellDone_20 : decode cX5_foretellDone 20 = .ok (.getfield 39, 3) := by decide +kernel
theorem dX5_foretellDone_23 : decode cX5_foretellDone 23 = .ok (.invokevirtual 151, 3) := by decide +kernel
theorem dX5_foretellDone_26 : decode cX5_foretellDone 26 = .ok (.aload_n 0, 1) := by decide +kernel
theorem dX5_foretellDone_27 : decode cX5_foretellDone 27 = .ok (.getfield 42, 3) := by decide +kernel
theorem dX5_foretellDone_30 : decode cX5_foretellDone 30 = .ok (.aload_n 0, 1) := by decide +kernel
theorem dX5_foretellDone_31 : decode cX5_foretellDone 31 = .ok (.getfield 19, 3) := by decide +kernel
theorem dX5_foretellDone_34 : decode cX5_foretellDone 34 = .ok (.invokevirtual 239, 3) := by decide +kernel
theorem dX5_foretellDone_37 : decode cX5_foretellDone 37 = .ok (.iconst 0, 1) := by decide +kernel
theorem dX5_foretellDone_38 : decode cX5_foretellDone 38 = .ok (.istore_n 2, 1) := by decide +kernel
theorem dX5_foretellDone_39 : decode cX5_foretellDone 39 = .ok (.iload_n 2, 1) := by decide +kernel
theorem dX5_foretellDone_40 : decode cX5_foretellDone 40 = .ok (.bipush 7, 2) := by decide +kernel
theorem dX5_foretellDone_42 : decode cX5_foretellDone 42 = .ok (.if_icmp .ge 17, 3) := by decide +kernel
theorem dX5_foretellDone_45 : decode cX5_foretellDone 45 = .ok (.aload_n 0, 1) := by decide +kernel
theorem dX5_foretellDone_46 : decode cX5_foretellDone 46 = .ok (.getfield 45, 3) := by decide +kernel
theorem dX5_foretellDone_49 : decode cX5_foretellDone 49 = .ok (.iload_n 2, 1) := by decide +kernel
theorem dX5_foretellDone_50 : decode cX5_foretellDone 50 = .ok (.bipush (-4), 2) := by decide +kernel
theorem dX5_foretellDone_52 : decode cX5_foretellDone 52 = .ok (.iastore, 1) := by decide +kernel
theorem dX5_foretellDone_53 : decode cX5_foretellDone 53 = .ok (.iinc 2 1, 3) := by decide +kernel
theorem dX5_foretellDone_56 : decode cX5_foretellDone 56 = .ok (.goto (-17), 3) := by decide +kernel
theorem dX5_foretellDone_59 : decode cX5_foretellDone 59 = .ok (.iconst 1, 1) := by decide +kernel
theorem dX5_foretellDone_60 : decode cX5_foretellDone 60 = .ok (.istore_n 2, 1) := by decide +kernel
theorem dX5_foretellDone_61 : decode cX5_foretellDone 61 = .ok (.iconst 0, 1) := by decide +kernel
theorem dX5_foretellDone_62 : decode cX5_foretellDone 62 = .ok (.istore_n 3, 1) := by decide +kernel
theorem dX5_foretellDone_63 : decode cX5_foretellDone 63 = .ok (.iload_n 3, 1) := by decide +kernel
theorem dX5_foretellDone_64 : decode cX5_foretellDone 64 = .ok (.sipush 240, 3) := by decide +kernel
theorem dX5_foretellDone_67 : decode cX5_foretellDone 67 = .ok (.if_icmp .gt 32, 3) := by decide +kernel
theorem dX5_foretellDone_70 : decode cX5_foretellDone 70 = .ok (.iload_n 2, 1) := by decide +kernel
theorem dX5_foretellDone_71 : decode cX5_foretellDone 71 = .ok (.ifCond .eq 28, 3) := by decide +kernel
theorem dX5_foretellDone_74 : decode cX5_foretellDone 74 = .ok (.aload_n 0, 1) := by decide +kernel
theorem dX5_foretellDone_75 : decode cX5_foretellDone 75 = .ok (.iload_n 3, 1) := by decide +kernel
theorem dX5_foretellDone_76 : decode cX5_foretellDone 76 = .ok (.invokevirtual 267, 3) := by decide +kernel
theorem dX5_foretellDone_79 : decode cX5_foretellDone 79 = .ok (.aload_n 0, 1) := by decide +kernel
theorem dX5_foretellDone_80 : decode cX5_foretellDone 80 = .ok (.getfield 42, 3) := by decide +kernel
theorem dX5_foretellDone_83 : decode cX5_foretellDone 83 = .ok (.aload_n 0, 1) := by decide +kernel
theorem dX5_foretellDone_84 : decode cX5_foretellDone 84 = .ok (.getfield 39, 3) := by decide +kernel
theorem dX5_foretellDone_87 : decode cX5_foretellDone 87 = .ok (.bipush 127, 2) := by decide +kernel
theorem dX5_foretellDone_89 : decode cX5_foretellDone 89 = .ok (.invokevirtual 205, 3) := by decide +kernel
theorem dX5_foretellDone_92 : decode cX5_foretellDone 92 = .ok (.istore_n 2, 1) := by decide +kernel
theorem dX5_foretellDone_93 : decode cX5_foretellDone 93 = .ok (.iinc 3 1, 3) := by decide +kernel
theorem dX5_foretellDone_96 : decode cX5_foretellDone 96 = .ok (.goto (-33), 3) := by decide +kernel
theorem dX5_foretellDone_99 : decode cX5_foretellDone 99 = .ok (.return_, 1) := by decide +kernel
theorem dX5_markDone_0 : decode cX5_markDone 0 = .ok (.iconst 0, 1) := by decide +kernel
theorem dX5_markDone_1 : decode cX5_markDone 1 = .ok (.istore_n 2, 1) := by decide +kernel
theorem dX5_markDone_2 : decode cX5_markDone 2 = .ok (.iload_n 2, 1) := by decide +kernel
theorem dX5_markDone_3 : decode cX5_markDone 3 = .ok (.aload_n 0, 1) := by decide +kernel
theorem dX5_markDone_4 : decode cX5_markDone 4 = .ok (.getfield 39, 3) := by decide +kernel
theorem dX5_markDone_7 : decode cX5_markDone 7 = .ok (.getfield 73, 3) := by decide +kernel
theorem dX5_markDone_10 : decode cX5_markDone 10 = .ok (.if_icmp .ge 42, 3) := by decide +kernel
theorem dX5_markDone_13 : decode cX5_markDone 13 = .ok (.aload_n 0, 1) := by decide +kernel
theorem dX5_markDone_14 : decode cX5_markDone 14 = .ok (.getfield 45, 3) := by decide +kernel
theorem dX5_markDone_17 : decode cX5_markDone 17 = .ok (.iload_n 2, 1) := by decide +kernel
theorem dX5_markDone_18 : decode cX5_markDone 18 = .ok (.iaload, 1) := by decide +kernel
theorem dX5_markDone_19 : decode cX5_markDone 19 = .ok (.bipush (-4), 2) := by decide +kernel
theorem dX5_markDone_21 : decode cX5_markDone 21 = .ok (.if_icmp .ne 25, 3) := by decide +kernel
theorem dX5_markDone_24 : decode cX5_markDone 24 = .ok (.aload_n 0, 1) := by decide +kernel
theorem dX5_markDone_25 : decode cX5_markDone 25 = .ok (.getfield 42, 3) := by decide +kernel
theorem dX5_markDone_28 : decode cX5_markDone 28 = .ok (.aload_n 0, 1) := by decide +kernel
theorem dX5_markDone_29 : decode cX5_markDone 29 = .ok (.getfield 39, 3) := by decide +kernel
theorem dX5_markDone_32 : decode cX5_markDone 32 = .ok (.iload_n 2, 1) := by decide +kernel
theorem dX5_markDone_33 : decode cX5_markDone 33 = .ok (.invokevirtual 107, 3) := by decide +kernel
theorem dX5_markDone_36 : decode cX5_markDone 36 = .ok (.ifCond .eq 10, 3) := by decide +kernel
theorem dX5_markDone_39 : decode cX5_markDone 39 = .ok (.aload_n 0, 1) := by decide +kernel
theorem dX5_markDone_40 : decode cX5_markDone 40 = .ok (.getfield 45, 3) := by decide +kernel
theorem dX5_markDone_43 : decode cX5_markDone 43 = .ok (.iload_n 2, 1) := by decide +kernel
theorem dX5_markDone_44 : decode cX5_markDone 44 = .ok (.iload_n 1, 1) := by decide +kernel
theorem dX5_markDone_45 : decode cX5_markDone 45 = .ok (.iastore, 1) := by decide +kernel
theorem dX5_markDone_46 : decode cX5_markDone 46 = .ok (.iinc 2 1, 3) := by decide +kernel
theorem dX5_markDone_49 : decode cX5_markDone 49 = .ok (.goto (-47), 3) := by decide +kernel
theorem dX5_markDone_52 : decode cX5_markDone 52 = .ok (.return_, 1) := by decide +kernel
theorem dX5_herdWaits_0 : decode cX5_herdWaits 0 = .ok (.iconst 0, 1) := by decide +kernel
theorem dX5_herdWaits_1 : decode cX5_herdWaits 1 = .ok (.istore_n 2, 1) := by decide +kernel
theorem dX5_herdWaits_2 : decode cX5_herdWaits 2 = .ok (.iconst 0, 1) := by decide +kernel
theorem dX5_herdWaits_3 : decode cX5_herdWaits 3 = .ok (.istore_n 3, 1) := by decide +kernel
theorem dX5_herdWaits_4 : decode cX5_herdWaits 4 = .ok (.iload_n 3, 1) := by decide +kernel
theorem dX5_herdWaits_5 : decode cX5_herdWaits 5 = .ok (.aload_n 0, 1) := by decide +kernel
theorem dX5_herdWaits_6 : decode cX5_herdWaits 6 = .ok (.getfield 10, 3) := by decide +kernel
theorem dX5_herdWaits_9 : decode cX5_herdWaits 9 = .ok (.getfield 73, 3) := by decide +kernel
theorem dX5_herdWaits_12 : decode cX5_herdWaits 12 = .ok (.if_icmp .ge 59, 3) := by decide +kernel
theorem dX5_herdWaits_15 : decode cX5_herdWaits 15 = .ok (.aload_n 0, 1) := by decide +kernel
theorem dX5_herdWaits_16 : decode cX5_herdWaits 16 = .ok (.getfield 10, 3) := by decide +kernel
theorem dX5_herdWaits_19 : decode cX5_herdWaits 19 = .ok (.getfield 94, 3) := by decide +kernel
theorem dX5_herdWaits_22 : decode cX5_herdWaits 22 = .ok (.iload_n 3, 1) := by decide +kernel
theorem dX5_herdWaits_23 : decode cX5_herdWaits 23 = .ok (.iaload, 1) := by decide +kernel
theorem dX5_herdWaits_24 : decode cX5_herdWaits 24 = .ok (.iload_n 1, 1) := by decide +kernel
theorem dX5_herdWaits_25 : decode cX5_herdWaits 25 = .ok (.if_icmp .ne 40, 3) := by decide +kernel
theorem dX5_herdWaits_28 : decode cX5_herdWaits 28 = .ok (.iload_n 3, 1) := by decide +kernel
theorem dX5_herdWaits_29 : decode cX5_herdWaits 29 = .ok (.aload_n 0, 1) := by decide +kernel
theorem dX5_herdWaits_30 : decode cX5_herdWaits 30 = .ok (.getfield 10, 3) := by decide +kernel
theorem dX5_herdWaits_33 : decode cX5_herdWaits 33 = .ok (.getfield 148, 3) := by decide +kernel
theorem dX5_herdWaits_36 : decode cX5_herdWaits 36 = .ok (.if_icmp .eq 29, 3) := by decide +kernel
theorem dX5_herdWaits_39 : decode cX5_herdWaits 39 = .ok (.iload_n 2, 1) := by decide +kernel
theorem dX5_herdWaits_40 : decode cX5_herdWaits 40 = .ok (.aload_n 0, 1) := by decide +kernel
theorem dX5_herdWaits_41 : decode cX5_herdWaits 41 = .ok (.getfield 45, 3) := by decide +kernel
theorem dX5_herdWaits_44 : decode cX5_herdWaits 44 = .ok (.iload_n 3, 1) := by decide +kernel
theorem dX5_herdWaits_45 : decode cX5_herdWaits 45 = .ok (.iaload, 1) := by decide +kernel
theorem dX5_herdWaits_46 : decode cX5_herdWaits 46 = .ok (.bipush (-4), 2) := by decide +kernel
theorem dX5_herdWaits_48 : decode cX5_herdWaits 48 = .ok (.if_icmp .ne 9, 3) := by decide +kernel
theorem dX5_herdWaits_51 : decode cX5_herdWaits 51 = .ok (.sipush 240, 3) := by decide +kernel
theorem dX5_herdWaits_54 : decode cX5_herdWaits 54 = .ok (.goto 9, 3) := by decide +kernel
theorem dX5_herdWaits_57 : decode cX5_herdWaits 57 = .ok (.aload_n 0, 1) := by decide +kernel
theorem dX5_herdWaits_58 : decode cX5_herdWaits 58 = .ok (.getfield 45, 3) := by decide +kernel
theorem dX5_herdWaits_61 : decode cX5_herdWaits 61 = .ok (.iload_n 3, 1) := by decide +kernel
theorem dX5_herdWaits_62 : decode cX5_herdWaits 62 = .ok (.iaload, 1) := by decide +kernel
theorem dX5_herdWaits_63 : decode cX5_herdWaits 63 = .ok (.iadd, 1) := by decide +kernel
theorem dX5_herdWaits_64 : decode cX5_herdWaits 64 = .ok (.istore_n 2, 1) := by decide +kernel
theorem dX5_herdWaits_65 : decode cX5_herdWaits 65 = .ok (.iinc 3 1, 3) := by decide +kernel
theorem dX5_herdWaits_68 : decode cX5_herdWaits 68 = .ok (.goto (-64), 3) := by decide +kernel
theorem dX5_herdWaits_71 : decode cX5_herdWaits 71 = .ok (.iload_n 2, 1) := by decide +kernel
theorem dX5_herdWaits_72 : decode cX5_herdWaits 72 = .ok (.ireturn, 1) := by decide +kernel
theorem dX5_bestLaw_0 : decode cX5_bestLaw 0 = .ok (.iload_n 1, 1) := by decide +kernel
theorem dX5_bestLaw_1 : decode cX5_bestLaw 1 = .ok (.iconst 0, 1) := by decide +kernel
theorem dX5_bestLaw_2 : decode cX5_bestLaw 2 = .ok (.iconst 1, 1) := by decide +kernel
theorem dX5_bestLaw_3 : decode cX5_bestLaw 3 = .ok (.invokestatic 69, 3) := by decide +kernel
theorem dX5_bestLaw_6 : decode cX5_bestLaw 6 = .ok (.ifCond .eq 5, 3) := by decide +kernel
theorem dX5_bestLaw_9 : decode cX5_bestLaw 9 = .ok (.iconst (-1), 1) := by decide +kernel
theorem dX5_bestLaw_10 : decode cX5_bestLaw 10 = .ok (.ireturn, 1) := by decide +kernel
theorem dX5_bestLaw_11 : decode cX5_bestLaw 11 = .ok (.iconst 0, 1) := by decide +kernel
theorem dX5_bestLaw_12 : decode cX5_bestLaw 12 = .ok (.istore_n 3, 1) := by decide +kernel
theorem dX5_bestLaw_13 : decode cX5_bestLaw 13 = .ok (.sipush 1681, 3) := by decide +kernel
theorem dX5_bestLaw_16 : decode cX5_bestLaw 16 = .ok (.istore 4, 2) := by decide +kernel
theorem dX5_bestLaw_18 : decode cX5_bestLaw 18 = .ok (.iconst 0, 1) := by decide +kernel
theorem dX5_bestLaw_19 : decode cX5_bestLaw 19 = .ok (.istore 5, 2) := by decide +kernel
theorem dX5_bestLaw_21 : decode cX5_bestLaw 21 = .ok (.iload 5, 2) := by decide +kernel
theorem dX5_bestLaw_23 : decode cX5_bestLaw 23 = .ok (.iconst 3, 1) := by decide +kernel
theorem dX5_bestLaw_24 : decode cX5_bestLaw 24 = .ok (.if_icmp .gt 64, 3) := by decide +kernel
theorem dX5_bestLaw_27 : decode cX5_bestLaw 27 = .ok (.aload_n 0, 1) := by decide +kernel
theorem dX5_bestLaw_28 : decode cX5_bestLaw 28 = .ok (.iload 5, 2) := by decide +kernel
theorem dX5_bestLaw_30 : decode cX5_bestLaw 30 = .ok (.invokevirtual 226, 3) := by decide +kernel
theorem dX5_bestLaw_33 : decode cX5_bestLaw 33 = .ok (.aload_n 0, 1) := by decide +kernel
theorem dX5_bestLaw_34 : decode cX5_bestLaw 34 = .ok (.iconst 0, 1) := by decide +kernel
theorem dX5_bestLaw_35 : decode cX5_bestLaw 35 = .ok (.invokevirtual 232, 3) := by decide +kernel
theorem dX5_bestLaw_38 : decode cX5_bestLaw 38 = .ok (.istore 6, 2) := by decide +kernel
theorem dX5_bestLaw_40 : decode cX5_bestLaw 40 = .ok (.aload_n 0, 1) := by decide +kernel
theorem dX5_bestLaw_41 : decode cX5_bestLaw 41 = .ok (.iconst 1, 1) := by decide +kernel
theorem dX5_bestLaw_42 : decode cX5_bestLaw 42 = .ok (.invokevirtual 232, 3) := by decide +kernel
theorem dX5_bestLaw_45 : decode cX5_bestLaw 45 = .ok (.istore 7, 2) := by decide +kernel
theorem dX5_bestLaw_47 : decode cX5_bestLaw 47 = .ok (.iload_n 2, 1) := by decide +kernel
theorem dX5_bestLaw_48 : decode cX5_bestLaw 48 = .ok (.ifCond .eq 13, 3) := by decide +kernel
theorem dX5_bestLaw_51 : decode cX5_bestLaw 51 = .ok (.iload 6, 2) := by decide +kernel
theorem dX5_bestLaw_53 : decode cX5_bestLaw 53 = .ok (.iload 7, 2) := by decide +kernel
theorem dX5_bestLaw_55 : decode cX5_bestLaw 55 = .ok (.invokestatic 270, 3) := by decide +kernel
theorem dX5_bestLaw_58 : decode cX5_bestLaw 58 = .ok (.goto 8, 3) := by decide +kernel
theorem dX5_bestLaw_61 : decode cX5_bestLaw 61 = .ok (.iload 6, 2) := by decide +kernel
theorem dX5_bestLaw_63 : decode cX5_bestLaw 63 = .ok (.iload 7, 2) := by decide +kernel
theorem dX5_bestLaw_65 : decode cX5_bestLaw 65 = .ok (.iadd, 1) := by decide +kernel
theorem dX5_bestLaw_66 : decode cX5_bestLaw 66 = .ok (.istore 8, 2) := by decide +kernel
theorem dX5_bestLaw_68 : decode cX5_bestLaw 68 = .ok (.iload 8, 2) := by decide +kernel
theorem dX5_bestLaw_70 : decode cX5_bestLaw 70 = .ok (.iload 4, 2) := by decide +kernel
theorem dX5_bestLaw_72 : decode cX5_bestLaw 72 = .ok (.if_icmp .ge 10, 3) := by decide +kernel
theorem dX5_bestLaw_75 : decode cX5_bestLaw 75 = .ok (.iload 5, 2) := by decide +kernel
theorem dX5_bestLaw_77 : decode cX5_bestLaw 77 = .ok (.istore_n 3, 1) := by decide +kernel
theorem dX5_bestLaw_78 : decode cX5_bestLaw 78 = .ok (.iload 8, 2) := by decide +kernel
theorem dX5_bestLaw_80 : decode cX5_bestLaw 80 = .ok (.istore 4, 2) := by decide +kernel
theorem dX5_bestLaw_82 : decode cX5_bestLaw 82 = .ok (.iinc 5 1, 3) := by decide +kernel
theorem dX5_bestLaw_85 : decode cX5_bestLaw 85 = .ok (.goto (-64), 3) := by decide +kernel
theorem dX5_bestLaw_88 : decode cX5_bestLaw 88 = .ok (.iload_n 1, 1) := by decide +kernel
theorem dX5_bestLaw_89 : decode cX5_bestLaw 89 = .ok (.ifCond .ne 7, 3) := by decide +kernel
theorem dX5_bestLaw_92 : decode cX5_bestLaw 92 = .ok (.iload_n 3, 1) := by decide +kernel
theorem dX5_bestLaw_93 : decode cX5_bestLaw 93 = .ok (.goto 5, 3) := by decide +kernel
theorem dX5_bestLaw_96 : decode cX5_bestLaw 96 = .ok (.iload 4, 2) := by decide +kernel
theorem dX5_bestLaw_98 : decode cX5_bestLaw 98 = .ok (.ireturn, 1) := by decide +kernel
theorem dX5_buckets_0 : decode cX5_buckets 0 = .ok (.iload_n 1, 1) := by decide +kernel
theorem dX5_buckets_1 : decode cX5_buckets 1 = .ok (.invokestatic 273, 3) := by decide +kernel
theorem dX5_buckets_4 : decode cX5_buckets 4 = .ok (.ifCond .ne 23, 3) := by decide +kernel
theorem dX5_buckets_7 : decode cX5_buckets 7 = .ok (.iload_n 2, 1) := by decide +kernel
theorem dX5_buckets_8 : decode cX5_buckets 8 = .ok (.iconst 0, 1) := by decide +kernel
theorem dX5_buckets_9 : decode cX5_buckets 9 = .ok (.iconst 3, 1) := by decide +kernel
theorem dX5_buckets_10 : decode cX5_buckets 10 = .ok (.invokestatic 69, 3) := by decide +kernel
theorem dX5_buckets_13 : decode cX5_buckets 13 = .ok (.ifCond .ne 14, 3) := by decide +kernel
theorem dX5_buckets_16 : decode cX5_buckets 16 = .ok (.iload 4, 2) := by decide +kernel
theorem dX5_buckets_18 : decode cX5_buckets 18 = .ok (.iconst 1, 1) := by decide +kernel
theorem dX5_buckets_19 : decode cX5_buckets 19 = .ok (.bipush 8, 2) := by decide +kernel
theorem dX5_buckets_21 : decode cX5_buckets 21 = .ok (.invokestatic 69, 3) := by decide +kernel
theorem dX5_buckets_24 : decode cX5_buckets 24 = .ok (.ifCond .eq 5, 3) := by decide +kernel
theorem dX5_buckets_27 : decode cX5_buckets 27 = .ok (.iconst (-1), 1) := by decide +kernel
theorem dX5_buckets_28 : decode cX5_buckets 28 = .ok (.ireturn, 1) := by decide +kernel
theorem dX5_buckets_29 : decode cX5_buckets 29 = .ok (.aload_n 0, 1) := by decide +kernel
theorem dX5_buckets_30 : decode cX5_buckets 30 = .ok (.getfield 64, 3) := by decide +kernel
theorem dX5_buckets_33 : decode cX5_buckets 33 = .ok (.iload_n 1, 1) := by decide +kernel
theorem dX5_buckets_34 : decode cX5_buckets 34 = .ok (.aaload, 1) := by decide +kernel
theorem dX5_buckets_35 : decode cX5_buckets 35 = .ok (.iload_n 2, 1) := by decide +kernel
theorem dX5_buckets_36 : decode cX5_buckets 36 = .ok (.iload_n 3, 1) := by decide +kernel
theorem dX5_buckets_37 : decode cX5_buckets 37 = .ok (.iconst 2, 1) := by decide +kernel
theorem dX5_buckets_38 : decode cX5_buckets 38 = .ok (.iload 4, 2) := by decide +kernel
theorem dX5_buckets_40 : decode cX5_buckets 40 = .ok (.imul, 1) := by decide +kernel
theorem dX5_buckets_41 : decode cX5_buckets 41 = .ok (.invokevirtual 276, 3) := by decide +kernel
theorem dX5_buckets_44 : decode cX5_buckets 44 = .ok (.istore 5, 2) := by decide +kernel
theorem dX5_buckets_46 : decode cX5_buckets 46 = .ok (.iload 5, 2) := by decide +kernel
theorem dX5_buckets_48 : decode cX5_buckets 48 = .ok (.ifCond .eq 6, 3) := by decide +kernel
theorem dX5_buckets_51 : decode cX5_buckets 51 = .ok (.iload 5, 2) := by decide +kernel
theorem dX5_buckets_53 : decode cX5_buckets 53 = .ok (.ireturn, 1) := by decide +kernel
theorem dX5_buckets_54 : decode cX5_buckets 54 = .ok (.aload_n 0, 1) := by decide +kernel
theorem dX5_buckets_55 : decode cX5_buckets 55 = .ok (.aload_n 0, 1) := by decide +kernel
theorem dX5_buckets_56 : decode cX5_buckets 56 = .ok (.getfield 64, 3) := by decide +kernel
theorem dX5_buckets_59 : decode cX5_buckets 59 = .ok (.iload_n 1, 1) := by decide +kernel
theorem dX5_buckets_60 : decode cX5_buckets 60 = .ok (.aaload, 1) := by decide +kernel
theorem dX5_buckets_61 : decode cX5_buckets 61 = .ok (.iload_n 3, 1) := by decide +kernel
theorem dX5_buckets_62 : decode cX5_buckets 62 = .ok (.iload 4, 2) := by decide +kernel
theorem dX5_buckets_64 : decode cX5_buckets 64 = .ok (.invokevirtual 279, 3) := by decide +kernel
theorem dX5_buckets_67 : decode cX5_buckets 67 = .ok (.ifCond .ne 6, 3) := by decide +kernel
theorem dX5_buckets_70 : decode cX5_buckets 70 = .ok (.bipush (-2), 2) := by decide +kernel
theorem dX5_buckets_72 : decode cX5_buckets 72 = .ok (.ireturn, 1) := by decide +kernel
theorem dX5_buckets_73 : decode cX5_buckets 73 = .ok (.iconst 0, 1) := by decide +kernel
theorem dX5_buckets_74 : decode cX5_buckets 74 = .ok (.istore 6, 2) := by decide +kernel
theorem dX5_buckets_76 : decode cX5_buckets 76 = .ok (.iconst 1, 1) := by decide +kernel
theorem dX5_buckets_77 : decode cX5_buckets 77 = .ok (.istore 7, 2) := by decide +kernel
theorem dX5_buckets_79 : decode cX5_buckets 79 = .ok (.iload 7, 2) := by decide +kernel
theorem dX5_buckets_81 : decode cX5_buckets 81 = .ok (.bipush 9, 2) := by decide +kernel
theorem dX5_buckets_83 : decode cX5_buckets 83 = .ok (.if_icmp .gt 29, 3) := by decide +kernel
theorem dX5_buckets_86 : decode cX5_buckets 86 = .ok (.aload_n 0, 1) := by decide +kernel
theorem dX5_buckets_87 : decode cX5_buckets 87 = .ok (.iload 7, 2) := by decide +kernel
theorem dX5_buckets_89 : decode cX5_buckets 89 = .ok (.iload 4, 2) := by decide +kernel
theorem dX5_buckets_91 : decode cX5_buckets 91 = .ok (.invokevirtual 283, 3) := by decide +kernel
theorem dX5_buckets_94 : decode cX5_buckets 94 = .ok (.ifCond .eq 12, 3) := by decide +kernel
theorem dX5_buckets_97 : decode cX5_buckets 97 = .ok (.iload 6, 2) := by decide +kernel
theorem dX5_buckets_99 : decode cX5_buckets 99 = .ok (.iconst 1, 1) := by decide +kernel
theorem dX5_buckets_100 : decode cX5_buckets 100 = .ok (.iload 7, 2) := by decide +kernel
theorem dX5_buckets_102 : decode cX5_buckets 102 = .ok (.ishl, 1) := by decide +kernel
theorem dX5_buckets_103 : decode cX5_buckets 103 = .ok (.ior, 1) := by decide +kernel
theorem dX5_buckets_104 : decode cX5_buckets 104 = .ok (.istore 6, 2) := by decide +kernel
theorem dX5_buckets_106 : decode cX5_buckets 106 = .ok (.iinc 7 1, 3) := by decide +kernel
theorem dX5_buckets_109 : decode cX5_buckets 109 = .ok (.goto (-30), 3) := by decide +kernel
theorem dX5_buckets_112 : decode cX5_buckets 112 = .ok (.iload 6, 2) := by decide +kernel
theorem dX5_buckets_114 : decode cX5_buckets 114 = .ok (.ireturn, 1) := by decide +kernel
theorem dX5_readSeen_0 : decode cX5_readSeen 0 = .ok (.iconst 0, 1) := by decide +kernel
theorem dX5_readSeen_1 : decode cX5_readSeen 1 = .ok (.istore 4, 2) := by decide +kernel
theorem dX5_readSeen_3 : decode cX5_readSeen 3 = .ok (.iload 4, 2) := by decide +kernel
theorem dX5_readSeen_5 : decode cX5_readSeen 5 = .ok (.iload_n 3, 1) := by decide +kernel
theorem dX5_readSeen_6 : decode cX5_readSeen 6 = .ok (.if_icmp .ge 91, 3) := by decide +kernel
theorem dX5_readSeen_9 : decode cX5_readSeen 9 = .ok (.aload_n 1, 1) := by decide +kernel
theorem dX5_readSeen_10 : decode cX5_readSeen 10 = .ok (.getfield 287, 3) := by decide +kernel
theorem dX5_readSeen_13 : decode cX5_readSeen 13 = .ok (.iload_n 2, 1) := by decide +kernel
theorem dX5_readSeen_14 : decode cX5_readSeen 14 = .ok (.iconst 2, 1) := by decide +kernel
theorem dX5_readSeen_15 : decode cX5_readSeen 15 = .ok (.iload 4, 2) := by decide +kernel
theorem dX5_readSeen_17 : decode cX5_readSeen 17 = .ok (.imul, 1) := by decide +kernel
theorem dX5_readSeen_18 : decode cX5_readSeen 18 = .ok (.iadd, 1) := by decide +kernel
theorem dX5_readSeen_19 : decode cX5_readSeen 19 = .ok (.laload, 1) := by decide +kernel
theorem dX5_readSeen_20 : decode cX5_readSeen 20 = .ok (.lstore 5, 2) := by decide +kernel
theorem dX5_readSeen_22 : decode cX5_readSeen 22 = .ok (.aload_n 1, 1) := by decide +kernel
theorem dX5_readSeen_23 : decode cX5_readSeen 23 = .ok (.getfield 287, 3) := by decide +kernel
theorem dX5_readSeen_26 : decode cX5_readSeen 26 = .ok (.iload_n 2, 1) := by decide +kernel
theorem dX5_readSeen_27 : decode cX5_readSeen 27 = .ok (.iconst 2, 1) := by decide +kernel
theorem dX5_readSeen_28 : decode cX5_readSeen 28 = .ok (.iload 4, 2) := by decide +kernel
theorem dX5_readSeen_30 : decode cX5_readSeen 30 = .ok (.imul, 1) := by decide +kernel
theorem dX5_readSeen_31 : decode cX5_readSeen 31 = .ok (.iadd, 1) := by decide +kernel
theorem dX5_readSeen_32 : decode cX5_readSeen 32 = .ok (.iconst 1, 1) := by decide +kernel
theorem dX5_readSeen_33 : decode cX5_readSeen 33 = .ok (.iadd, 1) := by decide +kernel
theorem dX5_readSeen_34 : decode cX5_readSeen 34 = .ok (.laload, 1) := by decide +kernel
theorem dX5_readSeen_35 : decode cX5_readSeen 35 = .ok (.lstore 7, 2) := by decide +kernel
theorem dX5_readSeen_37 : decode cX5_readSeen 37 = .ok (.lload 5, 2) := by decide +kernel
theorem dX5_readSeen_39 : decode cX5_readSeen 39 = .ok (.lconst 0, 1) := by decide +kernel
theorem dX5_readSeen_40 : decode cX5_readSeen 40 = .ok (.lcmp, 1) := by decide +kernel
theorem dX5_readSeen_41 : decode cX5_readSeen 41 = .ok (.ifCond .lt 28, 3) := by decide +kernel
theorem dX5_readSeen_44 : decode cX5_readSeen 44 = .ok (.lload 5, 2) := by decide +kernel
theorem dX5_readSeen_46 : decode cX5_readSeen 46 = .ok (.ldc2_w 291, 3) := by decide +kernel
theorem dX5_readSeen_49 : decode cX5_readSeen 49 = .ok (.lcmp, 1) := by decide +kernel
theorem dX5_readSeen_50 : decode cX5_readSeen 50 = .ok (.ifCond .gt 19, 3) := by decide +kernel
theorem dX5_readSeen_53 : decode cX5_readSeen 53 = .ok (.lload 7, 2) := by decide +kernel
theorem dX5_readSeen_55 : decode cX5_readSeen 55 = .ok (.lconst 0, 1) := by decide +kernel
theorem dX5_readSeen_56 : decode cX5_readSeen 56 = .ok (.lcmp, 1) := by decide +kernel
theorem dX5_readSeen_57 : decode cX5_readSeen 57 = .ok (.ifCond .lt 12, 3) := by decide +kernel
theorem dX5_readSeen_60 : decode cX5_readSeen 60 = .ok (.lload 7, 2) := by decide +kernel
theorem dX5_readSeen_62 : decode cX5_readSeen 62 = .ok (.ldc2_w 293, 3) := by decide +kernel
theorem dX5_readSeen_65 : decode cX5_readSeen 65 = .ok (.lcmp, 1) := by decide +kernel
theorem dX5_readSeen_66 : decode cX5_readSeen 66 = .ok (.ifCond .le 5, 3) := by decide +kernel
theorem dX5_readSeen_69 : decode cX5_readSeen 69 = .ok (.iconst 0, 1) := by decide +kernel
theorem dX5_readSeen_70 : decode cX5_readSeen 70 = .ok (.ireturn, 1) := by decide +kernel
theorem dX5_readSeen_71 : decode cX5_readSeen 71 = .ok (.aload_n 0, 1) := by decide +kernel
theorem dX5_readSeen_72 : decode cX5_readSeen 72 = .ok (.getfield 49, 3) := by decide +kernel
theorem dX5_readSeen_75 : decode cX5_readSeen 75 = .ok (.iload 4, 2) := by decide +kernel
theorem dX5_readSeen_77 : decode cX5_readSeen 77 = .ok (.lload 5, 2) := by decide +kernel
theorem dX5_readSeen_79 : decode cX5_readSeen 79 = .ok (.l2i, 1) := by decide +kernel
theorem dX5_readSeen_80 : decode cX5_readSeen 80 = .ok (.iastore, 1) := by decide +kernel
theorem dX5_readSeen_81 : decode cX5_readSeen 81 = .ok (.aload_n 0, 1) := by decide +kernel
theorem dX5_readSeen_82 : decode cX5_readSeen 82 = .ok (.getfield 52, 3) := by decide +kernel
theorem dX5_readSeen_85 : decode cX5_readSeen 85 = .ok (.iload 4, 2) := by decide +kernel
theorem dX5_readSeen_87 : decode cX5_readSeen 87 = .ok (.lload 7, 2) := by decide +kernel
theorem dX5_readSeen_89 : decode cX5_readSeen 89 = .ok (.l2i, 1) := by decide +kernel
theorem dX5_readSeen_90 : decode cX5_readSeen 90 = .ok (.iastore, 1) := by decide +kernel
theorem dX5_readSeen_91 : decode cX5_readSeen 91 = .ok (.iinc 4 1, 3) := by decide +kernel
theorem dX5_readSeen_94 : decode cX5_readSeen 94 = .ok (.goto (-91), 3) := by decide +kernel
theorem dX5_readSeen_97 : decode cX5_readSeen 97 = .ok (.iconst 1, 1) := by decide +kernel
theorem dX5_readSeen_98 : decode cX5_readSeen 98 = .ok (.ireturn, 1) := by decide +kernel
theorem dX5_wouldBeSeen_0 : decode cX5_wouldBeSeen 0 = .ok (.aload_n 0, 1) := by decide +kernel
theorem dX5_wouldBeSeen_1 : decode cX5_wouldBeSeen 1 = .ok (.invokevirtual 219, 3) := by decide +kernel
theorem dX5_wouldBeSeen_4 : decode cX5_wouldBeSeen 4 = .ok (.aload_n 0, 1) := by decide +kernel
theorem dX5_wouldBeSeen_5 : decode cX5_wouldBeSeen 5 = .ok (.getfield 39, 3) := by decide +kernel
theorem dX5_wouldBeSeen_8 : decode cX5_wouldBeSeen 8 = .ok (.iload_n 1, 1) := by decide +kernel
theorem dX5_wouldBeSeen_9 : decode cX5_wouldBeSeen 9 = .ok (.putfield 136, 3) := by decide +kernel
theorem dX5_wouldBeSeen_12 : decode cX5_wouldBeSeen 12 = .ok (.iconst 0, 1) := by decide +kernel
theorem dX5_wouldBeSeen_13 : decode cX5_wouldBeSeen 13 = .ok (.istore_n 3, 1) := by decide +kernel
theorem dX5_wouldBeSeen_14 : decode cX5_wouldBeSeen 14 = .ok (.iconst 0, 1) := by decide +kernel
theorem dX5_wouldBeSeen_15 : decode cX5_wouldBeSeen 15 = .ok (.istore 4, 2) := by decide +kernel
theorem dX5_wouldBeSeen_17 : decode cX5_wouldBeSeen 17 = .ok (.iload 4, 2) := by decide +kernel
theorem dX5_wouldBeSeen_19 : decode cX5_wouldBeSeen 19 = .ok (.iload_n 2, 1) := by decide +kernel
theorem dX5_wouldBeSeen_20 : decode cX5_wouldBeSeen 20 = .ok (.if_icmp .ge 21, 3) := by decide +kernel
theorem dX5_wouldBeSeen_23 : decode cX5_wouldBeSeen 23 = .ok (.iload_n 3, 1) := by decide +kernel
theorem dX5_wouldBeSeen_24 : decode cX5_wouldBeSeen 24 = .ok (.aload_n 0, 1) := by decide +kernel
theorem dX5_wouldBeSeen_25 : decode cX5_wouldBeSeen 25 = .ok (.getfield 49, 3) := by decide +kernel
theorem dX5_wouldBeSeen_28 : decode cX5_wouldBeSeen 28 = .ok (.iload 4, 2) := by decide +kernel
theorem dX5_wouldBeSeen_30 : decode cX5_wouldBeSeen 30 = .ok (.iaload, 1) := by decide +kernel
theorem dX5_wouldBeSeen_31 : decode cX5_wouldBeSeen 31 = .ok (.invokestatic 270, 3) := by decide +kernel
theorem dX5_wouldBeSeen_34 : decode cX5_wouldBeSeen 34 = .ok (.istore_n 3, 1) := by decide +kernel
theorem dX5_wouldBeSeen_35 : decode cX5_wouldBeSeen 35 = .ok (.iinc 4 1, 3) := by decide +kernel
theorem dX5_wouldBeSeen_38 : decode cX5_wouldBeSeen 38 = .ok (.goto (-21), 3) := by decide +kernel
theorem dX5_wouldBeSeen_41 : decode cX5_wouldBeSeen 41 = .ok (.iconst 0, 1) := by decide +kernel
theorem dX5_wouldBeSeen_42 : decode cX5_wouldBeSeen 42 = .ok (.istore 4, 2) := by decide +kernel
theorem dX5_wouldBeSeen_44 : decode cX5_wouldBeSeen 44 = .ok (.iload 4, 2) := by decide +kernel
theorem dX5_wouldBeSeen_46 : decode cX5_wouldBeSeen 46 = .ok (.iload_n 3, 1) := by decide +kernel
theorem dX5_wouldBeSeen_47 : decode cX5_wouldBeSeen 47 = .ok (.if_icmp .gt 69, 3) := by decide +kernel
theorem dX5_wouldBeSeen_50 : decode cX5_wouldBeSeen 50 = .ok (.iconst 0, 1) := by decide +kernel
theorem dX5_wouldBeSeen_51 : decode cX5_wouldBeSeen 51 = .ok (.istore 5, 2) := by decide +kernel
theorem dX5_wouldBeSeen_53 : decode cX5_wouldBeSeen 53 = .ok (.iload 5, 2) := by decide +kernel
theorem dX5_wouldBeSeen_55 : decode cX5_wouldBeSeen 55 = .ok (.iload_n 2, 1) := by decide +kernel
theorem dX5_wouldBeSeen_56 : decode cX5_wouldBeSeen 56 = .ok (.if_icmp .ge 40, 3) := by decide +kernel
theorem dX5_wouldBeSeen_59 : decode cX5_wouldBeSeen 59 = .ok (.aload_n 0, 1) := by decide +kernel
theorem dX5_wouldBeSeen_60 : decode cX5_wouldBeSeen 60 = .ok (.getfield 49, 3) := by decide +kernel
theorem dX5_wouldBeSeen_63 : decode cX5_wouldBeSeen 63 = .ok (.iload 5, 2) := by decide +kernel
theorem dX5_wouldBeSeen_65 : decode cX5_wouldBeSeen 65 = .ok (.iaload, 1) := by decide +kernel
theorem dX5_wouldBeSeen_66 : decode cX5_wouldBeSeen 66 = .ok (.iload 4, 2) := by decide +kernel
theorem dX5_wouldBeSeen_68 : decode cX5_wouldBeSeen 68 = .ok (.if_icmp .ne 22, 3) := by decide +kernel
theorem dX5_wouldBeSeen_71 : decode cX5_wouldBeSeen 71 = .ok (.aload_n 0, 1) := by decide +kernel
theorem dX5_wouldBeSeen_72 : decode cX5_wouldBeSeen 72 = .ok (.getfield 52, 3) := by decide +kernel
theorem dX5_wouldBeSeen_75 : decode cX5_wouldBeSeen 75 = .ok (.iload 5, 2) := by decide +kernel
theorem dX5_wouldBeSeen_77 : decode cX5_wouldBeSeen 77 = .ok (.iaload, 1) := by decide +kernel
theorem dX5_wouldBeSeen_78 : decode cX5_wouldBeSeen 78 = .ok (.aload_n 0, 1) := by decide +kernel
theorem dX5_wouldBeSeen_79 : decode cX5_wouldBeSeen 79 = .ok (.getfield 42, 3) := by decide +kernel
theorem dX5_wouldBeSeen_82 : decode cX5_wouldBeSeen 82 = .ok (.getfield 127, 3) := by decide +kernel
theorem dX5_wouldBeSeen_85 : decode cX5_wouldBeSeen 85 = .ok (.if_icmp .eq 5, 3) := by decide +kernel
theorem dX5_wouldBeSeen_88 : decode cX5_wouldBeSeen 88 = .ok (.iconst 0, 1) := by decide +kernel
theorem dX5_wouldBeSeen_89 : decode cX5_wouldBeSeen 89 = .ok (.ireturn, 1) := by decide +kernel
theorem dX5_wouldBeSeen_90 : decode cX5_wouldBeSeen 90 = .ok (.iinc 5 1, 3) := by decide +kernel
theorem dX5_wouldBeSeen_93 : decode cX5_wouldBeSeen 93 = .ok (.goto (-40), 3) := by decide +kernel
theorem dX5_wouldBeSeen_96 : decode cX5_wouldBeSeen 96 = .ok (.aload_n 0, 1) := by decide +kernel
theorem dX5_wouldBeSeen_97 : decode cX5_wouldBeSeen 97 = .ok (.getfield 42, 3) := by decide +kernel
theorem dX5_wouldBeSeen_100 : decode cX5_wouldBeSeen 100 = .ok (.aload_n 0, 1) := by decide +kernel
theorem dX5_wouldBeSeen_101 : decode cX5_wouldBeSeen 101 = .ok (.getfield 39, 3) := by decide +kernel
theorem dX5_wouldBeSeen_104 : decode cX5_wouldBeSeen 104 = .ok (.bipush 127, 2) := by decide +kernel
theorem dX5_wouldBeSeen_106 : decode cX5_wouldBeSeen 106 = .ok (.invokevirtual 205, 3) := by decide +kernel
theorem dX5_wouldBeSeen_109 : decode cX5_wouldBeSeen 109 = .ok (.pop, 1) := by decide +kernel
theorem dX5_wouldBeSeen_110 : decode cX5_wouldBeSeen 110 = .ok (.iinc 4 1, 3) := by decide +kernel
theorem dX5_wouldBeSeen_113 : decode cX5_wouldBeSeen 113 = .ok (.goto (-69), 3) := by decide +kernel
theorem dX5_wouldBeSeen_116 : decode cX5_wouldBeSeen 116 = .ok (.iconst 1, 1) := by decide +kernel
theorem dX5_wouldBeSeen_117 : decode cX5_wouldBeSeen 117 = .ok (.ireturn, 1) := by decide +kernel
theorem dX5_film_0 : decode cX5_film 0 = .ok (.iload_n 1, 1) := by decide +kernel
theorem dX5_film_1 : decode cX5_film 1 = .ok (.iconst 1, 1) := by decide +kernel
theorem dX5_film_2 : decode cX5_film 2 = .ok (.bipush 24, 2) := by decide +kernel
theorem dX5_film_4 : decode cX5_film 4 = .ok (.invokestatic 69, 3) := by decide +kernel
theorem dX5_film_7 : decode cX5_film 7 = .ok (.ifCond .ne 19, 3) := by decide +kernel
theorem dX5_film_10 : decode cX5_film 10 = .ok (.iload_n 2, 1) := by decide +kernel
theorem dX5_film_11 : decode cX5_film 11 = .ok (.invokestatic 273, 3) := by decide +kernel
theorem dX5_film_14 : decode cX5_film 14 = .ok (.ifCond .ne 12, 3) := by decide +kernel
theorem dX5_film_17 : decode cX5_film 17 = .ok (.iload_n 3, 1) := by decide +kernel
theorem dX5_film_18 : decode cX5_film 18 = .ok (.iconst 0, 1) := by decide +kernel
theorem dX5_film_19 : decode cX5_film 19 = .ok (.iconst 3, 1) := by decide +kernel
theorem dX5_film_20 : decode cX5_film 20 = .ok (.invokestatic 69, 3) := by decide +kernel
theorem dX5_film_23 : decode cX5_film 23 = .ok (.ifCond .eq 5, 3) := by decide +kernel
theorem dX5_film_26 : decode cX5_film 26 = .ok (.iconst (-1), 1) := by decide +kernel
theorem dX5_film_27 : decode cX5_film 27 = .ok (.ireturn, 1) := by decide +kernel
theorem dX5_film_28 : decode cX5_film 28 = .ok (.aload_n 0, 1) := by decide +kernel
theorem dX5_film_29 : decode cX5_film 29 = .ok (.getfield 64, 3) := by decide +kernel
theorem dX5_film_32 : decode cX5_film 32 = .ok (.iload_n 2, 1) := by decide +kernel
theorem dX5_film_33 : decode cX5_film 33 = .ok (.aaload, 1) := by decide +kernel
theorem dX5_film_34 : decode cX5_film 34 = .ok (.iload_n 3, 1) := by decide +kernel
theorem dX5_film_35 : decode cX5_film 35 = .ok (.iload 4, 2) := by decide +kernel
theorem dX5_film_37 : decode cX5_film 37 = .ok (.iload_n 1, 1) := by decide +kernel
theorem dX5_film_38 : decode cX5_film 38 = .ok (.invokevirtual 276, 3) := by decide +kernel
theorem dX5_film_41 : decode cX5_film 41 = .ok (.istore 5, 2) := by decide +kernel
theorem dX5_film_43 : decode cX5_film 43 = .ok (.iload 5, 2) := by decide +kernel
theorem dX5_film_45 : decode cX5_film 45 = .ok (.ifCond .eq 6, 3) := by decide +kernel
theorem dX5_film_48 : decode cX5_film 48 = .ok (.iload 5, 2) := by decide +kernel
theorem dX5_film_50 : decode cX5_film 50 = .ok (.ireturn, 1) := by decide +kernel
theorem dX5_film_51 : decode cX5_film 51 = .ok (.aload_n 0, 1) := by decide +kernel
theorem dX5_film_52 : decode cX5_film 52 = .ok (.invokevirtual 219, 3) := by decide +kernel
theorem dX5_film_55 : decode cX5_film 55 = .ok (.iconst 0, 1) := by decide +kernel
theorem dX5_film_56 : decode cX5_film 56 = .ok (.istore 6, 2) := by decide +kernel
theorem dX5_film_58 : decode cX5_film 58 = .ok (.iload 6, 2) := by decide +kernel
theorem dX5_film_60 : decode cX5_film 60 = .ok (.iload_n 1, 1) := by decide +kernel
theorem dX5_film_61 : decode cX5_film 61 = .ok (.if_icmp .ge 45, 3) := by decide +kernel
theorem dX5_film_64 : decode cX5_film 64 = .ok (.aload_n 0, 1) := by decide +kernel
theorem dX5_film_65 : decode cX5_film 65 = .ok (.getfield 42, 3) := by decide +kernel
theorem dX5_film_68 : decode cX5_film 68 = .ok (.aload_n 0, 1) := by decide +kernel
theorem dX5_film_69 : decode cX5_film 69 = .ok (.getfield 39, 3) := by decide +kernel
theorem dX5_film_72 : decode cX5_film 72 = .ok (.bipush 127, 2) := by decide +kernel
theorem dX5_film_74 : decode cX5_film 74 = .ok (.invokevirtual 205, 3) := by decide +kernel
theorem dX5_film_77 : decode cX5_film 77 = .ok (.pop, 1) := by decide +kernel
theorem dX5_film_78 : decode cX5_film 78 = .ok (.aload_n 0, 1) := by decide +kernel
theorem dX5_film_79 : decode cX5_film 79 = .ok (.getfield 64, 3) := by decide +kernel
theorem dX5_film_82 : decode cX5_film 82 = .ok (.iload_n 2, 1) := by decide +kernel
theorem dX5_film_83 : decode cX5_film 83 = .ok (.aaload, 1) := by decide +kernel
theorem dX5_film_84 : decode cX5_film 84 = .ok (.iload 4, 2) := by decide +kernel
theorem dX5_film_86 : decode cX5_film 86 = .ok (.iload 6, 2) := by decide +kernel
theorem dX5_film_88 : decode cX5_film 88 = .ok (.iadd, 1) := by decide +kernel
theorem dX5_film_89 : decode cX5_film 89 = .ok (.aload_n 0, 1) := by decide +kernel
theorem dX5_film_90 : decode cX5_film 90 = .ok (.getfield 42, 3) := by decide +kernel
theorem dX5_film_93 : decode cX5_film 93 = .ok (.getfield 127, 3) := by decide +kernel
theorem dX5_film_96 : decode cX5_film 96 = .ok (.i2l, 1) := by decide +kernel
theorem dX5_film_97 : decode cX5_film 97 = .ok (.invokevirtual 295, 3) := by decide +kernel
theorem dX5_film_100 : decode cX5_film 100 = .ok (.iinc 6 1, 3) := by decide +kernel
theorem dX5_film_103 : decode cX5_film 103 = .ok (.goto (-45), 3) := by decide +kernel
theorem dX5_film_106 : decode cX5_film 106 = .ok (.iload_n 1, 1) := by decide +kernel
theorem dX5_film_107 : decode cX5_film 107 = .ok (.ireturn, 1) := by decide +kernel
theorem dX5_sheet_0 : decode cX5_sheet 0 = .ok (.iload_n 1, 1) := by decide +kernel
theorem dX5_sheet_1 : decode cX5_sheet 1 = .ok (.invokestatic 273, 3) := by decide +kernel
theorem dX5_sheet_4 : decode cX5_sheet 4 = .ok (.ifCond .ne 18, 3) := by decide +kernel
theorem dX5_sheet_7 : decode cX5_sheet 7 = .ok (.iload_n 2, 1) := by decide +kernel
theorem dX5_sheet_8 : decode cX5_sheet 8 = .ok (.iconst 0, 1) := by decide +kernel
theorem dX5_sheet_9 : decode cX5_sheet 9 = .ok (.iconst 3, 1) := by decide +kernel
theorem dX5_sheet_10 : decode cX5_sheet 10 = .ok (.invokestatic 69, 3) := by decide +kernel
theorem dX5_sheet_13 : decode cX5_sheet 13 = .ok (.ifCond .ne 9, 3) := by decide +kernel
theorem dX5_sheet_16 : decode cX5_sheet 16 = .ok (.iload_n 3, 1) := by decide +kernel
theorem dX5_sheet_17 : decode cX5_sheet 17 = .ok (.bipush 24, 2) := by decide +kernel
theorem dX5_sheet_19 : decode cX5_sheet 19 = .ok (.if_icmp .le 5, 3) := by decide +kernel
theorem dX5_sheet_22 : decode cX5_sheet 22 = .ok (.iconst (-1), 1) := by decide +kernel
theorem dX5_sheet_23 : decode cX5_sheet 23 = .ok (.ireturn, 1) := by decide +kernel
theorem dX5_sheet_24 : decode cX5_sheet 24 = .ok (.iload_n 3, 1) := by decide +kernel
theorem dX5_sheet_25 : decode cX5_sheet 25 = .ok (.ifCond .ge 6, 3) := by decide +kernel
theorem dX5_sheet_28 : decode cX5_sheet 28 = .ok (.bipush (-14), 2) := by decide +kernel
theorem dX5_sheet_30 : decode cX5_sheet 30 = .ok (.ireturn, 1) := by decide +kernel
theorem dX5_sheet_31 : decode cX5_sheet 31 = .ok (.aload_n 0, 1) := by decide +kernel
theorem dX5_sheet_32 : decode cX5_sheet 32 = .ok (.getfield 64, 3) := by decide +kernel
theorem dX5_sheet_35 : decode cX5_sheet 35 = .ok (.iload_n 1, 1) := by decide +kernel
theorem dX5_sheet_36 : decode cX5_sheet 36 = .ok (.aaload, 1) := by decide +kernel
theorem dX5_sheet_37 : decode cX5_sheet 37 = .ok (.iload_n 2, 1) := by decide +kernel
theorem dX5_sheet_38 : decode cX5_sheet 38 = .ok (.iload_n 3, 1) := by decide +kernel
theorem dX5_sheet_39 : decode cX5_sheet 39 = .ok (.invokevirtual 298, 3) := by decide +kernel
theorem dX5_sheet_42 : decode cX5_sheet 42 = .ok (.iload_n 3, 1) := by decide +kernel
theorem dX5_sheet_43 : decode cX5_sheet 43 = .ok (.ireturn, 1) := by decide +kernel
theorem dX5_drop_0 : decode cX5_drop 0 = .ok (.iload_n 1, 1) := by decide +kernel
theorem dX5_drop_1 : decode cX5_drop 1 = .ok (.invokestatic 273, 3) := by decide +kernel
theorem dX5_drop_4 : decode cX5_drop 4 = .ok (.ifCond .eq 5, 3) := by decide +kernel
theorem dX5_drop_7 : decode cX5_drop 7 = .ok (.iconst (-1), 1) := by decide +kernel
theorem dX5_drop_8 : decode cX5_drop 8 = .ok (.ireturn, 1) := by decide +kernel
theorem dX5_drop_9 : decode cX5_drop 9 = .ok (.aload_n 0, 1) := by decide +kernel
theorem dX5_drop_10 : decode cX5_drop 10 = .ok (.getfield 64, 3) := by decide +kernel
theorem dX5_drop_13 : decode cX5_drop 13 = .ok (.iload_n 1, 1) := by decide +kernel
theorem dX5_drop_14 : decode cX5_drop 14 = .ok (.aaload, 1) := by decide +kernel
theorem dX5_drop_15 : decode cX5_drop 15 = .ok (.getfield 301, 3) := by decide +kernel
theorem dX5_drop_18 : decode cX5_drop 18 = .ok (.iconst (-1), 1) := by decide +kernel
theorem dX5_drop_19 : decode cX5_drop 19 = .ok (.if_icmp .ne 6, 3) := by decide +kernel
theorem dX5_drop_22 : decode cX5_drop 22 = .ok (.bipush (-11), 2) := by decide +kernel
theorem dX5_drop_24 : decode cX5_drop 24 = .ok (.ireturn, 1) := by decide +kernel
theorem dX5_drop_25 : decode cX5_drop 25 = .ok (.aload_n 0, 1) := by decide +kernel
theorem dX5_drop_26 : decode cX5_drop 26 = .ok (.getfield 64, 3) := by decide +kernel
theorem dX5_drop_29 : decode cX5_drop 29 = .ok (.iload_n 1, 1) := by decide +kernel
theorem dX5_drop_30 : decode cX5_drop 30 = .ok (.aaload, 1) := by decide +kernel
theorem dX5_drop_31 : decode cX5_drop 31 = .ok (.getfield 304, 3) := by decide +kernel
theorem dX5_drop_34 : decode cX5_drop 34 = .ok (.istore_n 2, 1) := by decide +kernel
theorem dX5_drop_35 : decode cX5_drop 35 = .ok (.aload_n 0, 1) := by decide +kernel
theorem dX5_drop_36 : decode cX5_drop 36 = .ok (.getfield 64, 3) := by decide +kernel
theorem dX5_drop_39 : decode cX5_drop 39 = .ok (.iload_n 1, 1) := by decide +kernel
theorem dX5_drop_40 : decode cX5_drop 40 = .ok (.aaload, 1) := by decide +kernel
theorem dX5_drop_41 : decode cX5_drop 41 = .ok (.iconst (-1), 1) := by decide +kernel
theorem dX5_drop_42 : decode cX5_drop 42 = .ok (.iconst 0, 1) := by decide +kernel
theorem dX5_drop_43 : decode cX5_drop 43 = .ok (.invokevirtual 298, 3) := by decide +kernel
theorem dX5_drop_46 : decode cX5_drop 46 = .ok (.iload_n 2, 1) := by decide +kernel
theorem dX5_drop_47 : decode cX5_drop 47 = .ok (.ireturn, 1) := by decide +kernel
theorem dX5_item_0 : decode cX5_item 0 = .ok (.iload_n 1, 1) := by decide +kernel
theorem dX5_item_1 : decode cX5_item 1 = .ok (.invokestatic 273, 3) := by decide +kernel
theorem dX5_item_4 : decode cX5_item 4 = .ok (.ifCond .ne 12, 3) := by decide +kernel
theorem dX5_item_7 : decode cX5_item 7 = .ok (.iload_n 2, 1) := by decide +kernel
theorem dX5_item_8 : decode cX5_item 8 = .ok (.iconst 0, 1) := by decide +kernel
theorem dX5_item_9 : decode cX5_item 9 = .ok (.iconst 3, 1) := by decide +kernel
theorem dX5_item_10 : decode cX5_item 10 = .ok (.invokestatic 69, 3) := by decide +kernel
theorem dX5_item_13 : decode cX5_item 13 = .ok (.ifCond .eq 5, 3) := by decide +kernel
theorem dX5_item_16 : decode cX5_item 16 = .ok (.iconst (-1), 1) := by decide +kernel
theorem dX5_item_17 : decode cX5_item 17 = .ok (.ireturn, 1) := by decide +kernel
theorem dX5_item_18 : decode cX5_item 18 = .ok (.aload_n 0, 1) := by decide +kernel
theorem dX5_item_19 : decode cX5_item 19 = .ok (.getfield 64, 3) := by decide +kernel
theorem dX5_item_22 : decode cX5_item 22 = .ok (.iload_n 1, 1) := by decide +kernel
theorem dX5_item_23 : decode cX5_item 23 = .ok (.aaload, 1) := by decide +kernel
theorem dX5_item_24 : decode cX5_item 24 = .ok (.iload_n 2, 1) := by decide +kernel
theorem dX5_item_25 : decode cX5_item 25 = .ok (.iload_n 3, 1) := by decide +kernel
theorem dX5_item_26 : decode cX5_item 26 = .ok (.iconst 1, 1) := by decide +kernel
theorem dX5_item_27 : decode cX5_item 27 = .ok (.invokevirtual 276, 3) := by decide +kernel
theorem dX5_item_30 : decode cX5_item 30 = .ok (.istore 6, 2) := by decide +kernel
theorem dX5_item_32 : decode cX5_item 32 = .ok (.iload 6, 2) := by decide +kernel
theorem dX5_item_34 : decode cX5_item 34 = .ok (.ifCond .eq 6, 3) := by decide +kernel
theorem dX5_item_37 : decode cX5_item 37 = .ok (.iload 6, 2) := by decide +kernel
theorem dX5_item_39 : decode cX5_item 39 = .ok (.ireturn, 1) := by decide +kernel
theorem dX5_item_40 : decode cX5_item 40 = .ok (.aload_n 0, 1) := by decide +kernel
theorem dX5_item_41 : decode cX5_item 41 = .ok (.getfield 64, 3) := by decide +kernel
theorem dX5_item_44 : decode cX5_item 44 = .ok (.iload_n 1, 1) := by decide +kernel
theorem dX5_item_45 : decode cX5_item 45 = .ok (.aaload, 1) := by decide +kernel
theorem dX5_item_46 : decode cX5_item 46 = .ok (.iload_n 3, 1) := by decide +kernel
theorem dX5_item_47 : decode cX5_item 47 = .ok (.lload 4, 2) := by decide +kernel
theorem dX5_item_49 : decode cX5_item 49 = .ok (.invokevirtual 295, 3) := by decide +kernel
theorem dX5_item_52 : decode cX5_item 52 = .ok (.iconst 1, 1) := by decide +kernel
theorem dX5_item_53 : decode cX5_item 53 = .ok (.ireturn, 1) := by decide +kernel
theorem dX5_copy_0 : decode cX5_copy 0 = .ok (.iload_n 1, 1) := by decide +kernel
theorem dX5_copy_1 : decode cX5_copy 1 = .ok (.invokestatic 273, 3) := by decide +kernel
theorem dX5_copy_4 : decode cX5_copy 4 = .ok (.ifCond .ne 10, 3) := by decide +kernel
theorem dX5_copy_7 : decode cX5_copy 7 = .ok (.iload_n 3, 1) := by decide +kernel
theorem dX5_copy_8 : decode cX5_copy 8 = .ok (.invokestatic 273, 3) := by decide +kernel
theorem dX5_copy_11 : decode cX5_copy 11 = .ok (.ifCond .eq 5, 3) := by decide +kernel
theorem dX5_copy_14 : decode cX5_copy 14 = .ok (.iconst (-1), 1) := by decide +kernel
theorem dX5_copy_15 : decode cX5_copy 15 = .ok (.ireturn, 1) := by decide +kernel
theorem dX5_copy_16 : decode cX5_copy 16 = .ok (.aload_n 0, 1) := by decide +kernel
theorem dX5_copy_17 : decode cX5_copy 17 = .ok (.getfield 64, 3) := by decide +kernel
theorem dX5_copy_20 : decode cX5_copy 20 = .ok (.iload_n 1, 1) := by decide +kernel
theorem dX5_copy_21 : decode cX5_copy 21 = .ok (.aaload, 1) := by decide +kernel
theorem dX5_copy_22 : decode cX5_copy 22 = .ok (.astore 6, 2) := by decide +kernel
theorem dX5_copy_24 : decode cX5_copy 24 = .ok (.aload_n 0, 1) := by decide +kernel
theorem dX5_copy_25 : decode cX5_copy 25 = .ok (.getfield 64, 3) := by decide +kernel
theorem dX5_copy_28 : decode cX5_copy 28 = .ok (.iload_n 3, 1) := by decide +kernel
theorem dX5_copy_29 : decode cX5_copy 29 = .ok (.aaload, 1) := by decide +kernel
theorem dX5_copy_30 : decode cX5_copy 30 = .ok (.astore 7, 2) := by decide +kernel
theorem dX5_copy_32 : decode cX5_copy 32 = .ok (.aload 6, 2) := by decide +kernel
theorem dX5_copy_34 : decode cX5_copy 34 = .ok (.getfield 301, 3) := by decide +kernel
theorem dX5_copy_37 : decode cX5_copy 37 = .ok (.iconst (-1), 1) := by decide +kernel
theorem dX5_copy_38 : decode cX5_copy 38 = .ok (.if_icmp .eq 12, 3) := by decide +kernel
theorem dX5_copy_41 : decode cX5_copy 41 = .ok (.aload 7, 2) := by decide +kernel
theorem dX5_copy_43 : decode cX5_copy 43 = .ok (.getfield 301, 3) := by decide +kernel
theorem dX5_copy_46 : decode cX5_copy 46 = .ok (.iconst (-1), 1) := by decide +kernel
theorem dX5_copy_47 : decode cX5_copy 47 = .ok (.if_icmp .ne 6, 3) := by decide +kernel
theorem dX5_copy_50 : decode cX5_copy 50 = .ok (.bipush (-11), 2) := by decide +kernel
theorem dX5_copy_52 : decode cX5_copy 52 = .ok (.ireturn, 1) := by decide +kernel
theorem dX5_copy_53 : decode cX5_copy 53 = .ok (.aload 6, 2) := by decide +kernel
theorem dX5_copy_55 : decode cX5_copy 55 = .ok (.getfield 301, 3) := by decide +kernel
theorem dX5_copy_58 : decode cX5_copy 58 = .ok (.aload 7, 2) := by decide +kernel
theorem dX5_copy_60 : decode cX5_copy 60 = .ok (.getfield 301, 3) := by decide +kernel
theorem dX5_copy_63 : decode cX5_copy 63 = .ok (.if_icmp .eq 6, 3) := by decide +kernel
theorem dX5_copy_66 : decode cX5_copy 66 = .ok (.bipush (-12), 2) := by decide +kernel
theorem dX5_copy_68 : decode cX5_copy 68 = .ok (.ireturn, 1) := by decide +kernel
theorem dX5_copy_69 : decode cX5_copy 69 = .ok (.aload 6, 2) := by decide +kernel
theorem dX5_copy_71 : decode cX5_copy 71 = .ok (.iload_n 2, 1) := by decide +kernel
theorem dX5_copy_72 : decode cX5_copy 72 = .ok (.iload 5, 2) := by decide +kernel
theorem dX5_copy_74 : decode cX5_copy 74 = .ok (.invokevirtual 307, 3) := by decide +kernel
theorem dX5_copy_77 : decode cX5_copy 77 = .ok (.ifCond .ne 15, 3) := by decide +kernel
theorem dX5_copy_80 : decode cX5_copy 80 = .ok (.aload 7, 2) := by decide +kernel
theorem dX5_copy_82 : decode cX5_copy 82 = .ok (.iload 4, 2) := by decide +kernel
theorem dX5_copy_84 : decode cX5_copy 84 = .ok (.iload 5, 2) := by decide +kernel
theorem dX5_copy_86 : decode cX5_copy 86 = .ok (.invokevirtual 307, 3) := by decide +kernel
theorem dX5_copy_89 : decode cX5_copy 89 = .ok (.ifCond .eq 6, 3) := by decide +kernel
theorem dX5_copy_92 : decode cX5_copy 92 = .ok (.bipush (-13), 2) := by decide +kernel
theorem dX5_copy_94 : decode cX5_copy 94 = .ok (.ireturn, 1) := by decide +kernel
theorem dX5_copy_95 : decode cX5_copy 95 = .ok (.aload 6, 2) := by decide +kernel
theorem dX5_copy_97 : decode cX5_copy 97 = .ok (.getfield 287, 3) := by decide +kernel
theorem dX5_copy_100 : decode cX5_copy 100 = .ok (.iload_n 2, 1) := by decide +kernel
theorem dX5_copy_101 : decode cX5_copy 101 = .ok (.aload 7, 2) := by decide +kernel
theorem dX5_copy_103 : decode cX5_copy 103 = .ok (.getfield 287, 3) := by decide +kernel
theorem dX5_copy_106 : decode cX5_copy 106 = .ok (.iload 4, 2) := by decide +kernel
theorem dX5_copy_108 : decode cX5_copy 108 = .ok (.iload 5, 2) := by decide +kernel
theorem dX5_copy_110 : decode cX5_copy 110 = .ok (.invokestatic 309, 3) := by decide +kernel
theorem dX5_copy_113 : decode cX5_copy 113 = .ok (.iload 5, 2) := by decide +kernel
theorem dX5_copy_115 : decode cX5_copy 115 = .ok (.ireturn, 1) := by decide +kernel
theorem dX5_noSheet_0 : decode cX5_noSheet 0 = .ok (.iload_n 0, 1) := by decide +kernel
theorem dX5_noSheet_1 : decode cX5_noSheet 1 = .ok (.iconst 0, 1) := by decide +kernel
theorem dX5_noSheet_2 : decode cX5_noSheet 2 = .ok (.iconst 3, 1) := by decide +kernel
theorem dX5_noSheet_3 : decode cX5_noSheet 3 = .ok (.invokestatic 69, 3) := by decide +kernel
theorem dX5_noSheet_6 : decode cX5_noSheet 6 = .ok (.ireturn, 1) := by decide +kernel
theorem dX5_outside_0 : decode cX5_outside 0 = .ok (.iload_n 0, 1) := by decide +kernel
theorem dX5_outside_1 : decode cX5_outside 1 = .ok (.iload_n 1, 1) := by decide +kernel
theorem dX5_outside_2 : decode cX5_outside 2 = .ok (.if_icmp .lt 8, 3) := by decide +kernel
theorem dX5_outside_5 : decode cX5_outside 5 = .ok (.iload_n 0, 1) := by decide +kernel
theorem dX5_outside_6 : decode cX5_outside 6 = .ok (.iload_n 2, 1) := by decide +kernel
theorem dX5_outside_7 : decode cX5_outside 7 = .ok (.if_icmp .le 7, 3) := by decide +kernel
theorem dX5_outside_10 : decode cX5_outside 10 = .ok (.iconst 1, 1) := by decide +kernel
theorem dX5_outside_11 : decode cX5_outside 11 = .ok (.goto 4, 3) := by decide +kernel
theorem dX5_outside_14 : decode cX5_outside 14 = .ok (.iconst 0, 1) := by decide +kernel
theorem dX5_outside_15 : decode cX5_outside 15 = .ok (.ireturn, 1) := by decide +kernel
theorem dX5_milky_0 : decode cX5_milky 0 = .ok (.iload_n 0, 1) := by decide +kernel
theorem dX5_milky_1 : decode cX5_milky 1 = .ok (.iconst 1, 1) := by decide +kernel
theorem dX5_milky_2 : decode cX5_milky 2 = .ok (.if_icmp .eq 8, 3) := by decide +kernel
theorem dX5_milky_5 : decode cX5_milky 5 = .ok (.iload_n 0, 1) := by decide +kernel
theorem dX5_milky_6 : decode cX5_milky 6 = .ok (.iconst 3, 1) := by decide +kernel
theorem dX5_milky_7 : decode cX5_milky 7 = .ok (.if_icmp .ne 7, 3) := by decide +kernel
theorem dX5_milky_10 : decode cX5_milky 10 = .ok (.iconst 1, 1) := by decide +kernel
theorem dX5_milky_11 : decode cX5_milky 11 = .ok (.goto 4, 3) := by decide +kernel
theorem dX5_milky_14 : decode cX5_milky 14 = .ok (.iconst 0, 1) := by decide +kernel
theorem dX5_milky_15 : decode cX5_milky 15 = .ok (.ireturn, 1) := by decide +kernel
theorem dX5_gulp_0 : decode cX5_gulp 0 = .ok (.iload_n 0, 1) := by decide +kernel
theorem dX5_gulp_1 : decode cX5_gulp 1 = .ok (.lookupswitch 32 #[(2, 27), (3, 29)], 27) := by decide +kernel
theorem dX5_gulp_28 : decode cX5_gulp 28 = .ok (.iconst 2, 1) := by decide +kernel
theorem dX5_gulp_29 : decode cX5_gulp 29 = .ok (.ireturn, 1) := by decide +kernel
theorem dX5_gulp_30 : decode cX5_gulp 30 = .ok (.bipush 8, 2) := by decide +kernel
theorem dX5_gulp_32 : decode cX5_gulp 32 = .ok (.ireturn, 1) := by decide +kernel
theorem dX5_gulp_33 : decode cX5_gulp 33 = .ok (.iconst 4, 1) := by decide +kernel
theorem dX5_gulp_34 : decode cX5_gulp 34 = .ok (.ireturn, 1) := by decide +kernel
theorem dX6_in_0 : decode cX6_in 0 = .ok (.lload_n 0, 1) := by decide +kernel
theorem dX6_in_1 : decode cX6_in 1 = .ok (.lload_n 2, 1) := by decide +kernel
theorem dX6_in_2 : decode cX6_in 2 = .ok (.lcmp, 1) := by decide +kernel
theorem dX6_in_3 : decode cX6_in 3 = .ok (.ifCond .lt 14, 3) := by decide +kernel
theorem dX6_in_6 : decode cX6_in 6 = .ok (.lload_n 0, 1) := by decide +kernel
theorem dX6_in_7 : decode cX6_in 7 = .ok (.lload 4, 2) := by decide +kernel
theorem dX6_in_9 : decode cX6_in 9 = .ok (.lcmp, 1) := by decide +kernel
theorem dX6_in_10 : decode cX6_in 10 = .ok (.ifCond .gt 7, 3) := by decide +kernel
theorem dX6_in_13 : decode cX6_in 13 = .ok (.iconst 1, 1) := by decide +kernel
theorem dX6_in_14 : decode cX6_in 14 = .ok (.goto 4, 3) := by decide +kernel
theorem dX6_in_17 : decode cX6_in 17 = .ok (.iconst 0, 1) := by decide +kernel
theorem dX6_in_18 : decode cX6_in 18 = .ok (.ireturn, 1) := by decide +kernel
theorem dX6_init_0 : decode cX6_init 0 = .ok (.aload_n 0, 1) := by decide +kernel
theorem dX6_init_1 : decode cX6_init 1 = .ok (.invokespecial 1, 3) := by decide +kernel
theorem dX6_init_4 : decode cX6_init 4 = .ok (.aload_n 0, 1) := by decide +kernel
theorem dX6_init_5 : decode cX6_init 5 = .ok (.bipush 63, 2) := by decide +kernel
theorem dX6_init_7 : decode cX6_init 7 = .ok (.newarray .int, 2) := by decide +kernel
theorem dX6_init_9 : decode cX6_init 9 = .ok (.putfield 7, 3) := by decide +kernel
theorem dX6_init_12 : decode cX6_init 12 = .ok (.aload_n 0, 1) := by decide +kernel
theorem dX6_init_13 : decode cX6_init 13 = .ok (.bipush 7, 2) := by decide +kernel
theorem dX6_init_15 : decode cX6_init 15 = .ok (.newarray .int, 2) := by decide +kernel
theorem dX6_init_17 : decode cX6_init 17 = .ok (.putfield 13, 3) := by decide +kernel
theorem dX6_init_20 : decode cX6_init 20 = .ok (.aload_n 0, 1) := by decide +kernel
theorem dX6_init_21 : decode cX6_init 21 = .ok (.iconst (-1), 1) := by decide +kernel
theorem dX6_init_22 : decode cX6_init 22 = .ok (.putfield 16, 3) := by decide +kernel
theorem dX6_init_25 : decode cX6_init 25 = .ok (.aload_n 0, 1) := by decide +kernel
theorem dX6_init_26 : decode cX6_init 26 = .ok (.sipush 504, 3) := by decide +kernel
theorem dX6_init_29 : decode cX6_init 29 = .ok (.newarray .int, 2) := by decide +kernel
theorem dX6_init_31 : decode cX6_init 31 = .ok (.putfield 20, 3) := by decide +kernel
theorem dX6_init_34 : decode cX6_init 34 = .ok (.aload_n 0, 1) := by decide +kernel
theorem dX6_init_35 : decode cX6_init 35 = .ok (.bipush 63, 2) := by decide +kernel
theorem dX6_init_37 : decode cX6_init 37 = .ok (.newarray .int, 2) := by decide +kernel
theorem dX6_init_39 : decode cX6_init 39 = .ok (.putfield 23, 3) := by decide +kernel
theorem dX6_init_42 : decode cX6_init 42 = .ok (.aload_n 0, 1) := by decide +kernel
theorem dX6_init_43 : decode cX6_init 43 = .ok (.bipush 7, 2) := by decide +kernel
theorem dX6_init_45 : decode cX6_init 45 = .ok (.newarray .int, 2) := by decide +kernel
theorem dX6_init_47 : decode cX6_init 47 = .ok (.putfield 26, 3) := by decide +kernel
theorem dX6_init_50 : decode cX6_init 50 = .ok (.aload_n 0, 1) := by decide +kernel
theorem dX6_init_51 : decode cX6_init 51 = .ok (.bipush 60, 2) := by decide +kernel
theorem dX6_init_53 : decode cX6_init 53 = .ok (.newarray .int, 2) := by decide +kernel
theorem dX6_init_55 : decode cX6_init 55 = .ok (.putfield 29, 3) := by decide +kernel
theorem dX6_init_58 : decode cX6_init 58 = .ok (.aload_n 0, 1) := by decide +kernel
theorem dX6_init_59 : decode cX6_init 59 = .ok (.bipush 21, 2) := by decide +kernel
theorem dX6_init_61 : decode cX6_init 61 = .ok (.newarray .int, 2) := by decide +kernel
theorem dX6_init_63 : decode cX6_init 63 = .ok (.putfield 32, 3) := by decide +kernel
theorem dX6_init_66 : decode cX6_init 66 = .ok (.aload_n 0, 1) := by decide +kernel
theorem dX6_init_67 : decode cX6_init 67 = .ok (.sipush 567, 3) := by decide +kernel
theorem dX6_init_70 : decode cX6_init 70 = .ok (.newarray .int, 2) := by decide +kernel
theorem dX6_init_72 : decode cX6_init 72 = .ok (.putfield 35, 3) := by decide +kernel
theorem dX6_init_75 : decode cX6_init 75 = .ok (.aload_n 0, 1) := by decide +kernel
theorem dX6_init_76 : decode cX6_init 76 = .ok (.iconst 4, 1) := by decide +kernel
theorem dX6_init_77 : decode cX6_init 77 = .ok (.newarray .int, 2) := by decide +kernel
theorem dX6_init_79 : decode cX6_init 79 = .ok (.putfield 38, 3) := by decide +kernel
theorem dX6_init_82 : decode cX6_init 82 = .ok (.aload_n 0, 1) := by decide +kernel
theorem dX6_init_83 : decode cX6_init 83 = .ok (.iconst 4, 1) := by decide +kernel
theorem dX6_init_84 : decode cX6_init 84 = .ok (.newarray .int, 2) := by decide +kernel
theorem dX6_init_86 : decode cX6_init 86 = .ok (.putfield 41, 3) := by decide +kernel
theorem dX6_init_89 : decode cX6_init 89 = .ok (.aload_n 0, 1) := by decide +kernel
theorem dX6_init_90 : decode cX6_init 90 = .ok (.bipush 96, 2) := by decide +kernel
theorem dX6_init_92 : decode cX6_init 92 = .ok (.newarray .long, 2) := by decide +kernel
theorem dX6_init_94 : decode cX6_init 94 = .ok (.putfield 44, 3) := by decide +kernel
theorem dX6_init_97 : decode cX6_init 97 = .ok (.aload_n 0, 1) := by decide +kernel
theorem dX6_init_98 : decode cX6_init 98 = .ok (.bipush 24, 2) := by decide +kernel
theorem dX6_init_100 : decode cX6_init 100 = .ok (.newarray .long, 2) := by decide +kernel
theorem dX6_init_102 : decode cX6_init 102 = .ok (.putfield 48, 3) := by decide +kernel
theorem dX6_init_105 : decode cX6_init 105 = .ok (.aload_n 0, 1) := by decide +kernel
theorem dX6_init_106 : decode cX6_init 106 = .ok (.getfield 7, 3) := by decide +kernel
theorem dX6_init_109 : decode cX6_init 109 = .ok (.iconst 0, 1) := by decide +kernel
theorem dX6_init_110 : decode cX6_init 110 = .ok (.bipush 30, 2) := by decide +kernel
theorem dX6_init_112 : decode cX6_init 112 = .ok (.iastore, 1) := by decide +kernel
theorem dX6_init_113 : decode cX6_init 113 = .ok (.aload_n 0, 1) := by decide +kernel
theorem dX6_init_114 : decode cX6_init 114 = .ok (.getfield 7, 3) := by decide +kernel
theorem dX6_init_117 : decode cX6_init 117 = .ok (.iconst 1, 1) := by decide +kernel
theorem dX6_init_118 : decode cX6_init 118 = .ok (.iconst 4, 1) := by decide +kernel
theorem dX6_init_119 : decode cX6_init 119 = .ok (.iastore, 1) := by decide +kernel
theorem dX6_init_120 : decode cX6_init 120 = .ok (.aload_n 0, 1) := by decide +kernel
theorem dX6_init_121 : decode cX6_init 121 = .ok (.getfield 7, 3) := by decide +kernel
theorem dX6_init_124 : decode cX6_init 124 = .ok (.iconst 2, 1) := by decide +kernel
theorem dX6_init_125 : decode cX6_init 125 = .ok (.bipush 10, 2) := by decide +kernel
theorem dX6_init_127 : decode cX6_init 127 = .ok (.iastore, 1) := by decide +kernel
theorem dX6_init_128 : decode cX6_init 128 = .ok (.aload_n 0, 1) := by decide +kernel
theorem dX6_init_129 : decode cX6_init 129 = .ok (.getfield 7, 3) := by decide +kernel
theorem dX6_init_132 : decode cX6_init 132 = .ok (.iconst 3, 1) := by decide +kernel
theorem dX6_init_133 : decode cX6_init 133 = .ok (.iconst 4, 1) := by decide +kernel
theorem dX6_init_134 : decode cX6_init 134 = .ok (.iastore, 1) := by decide +kernel
theorem dX6_init_135 : decode cX6_init 135 = .ok (.aload_n 0, 1) := by decide +kernel
theorem dX6_init_136 : decode cX6_init 136 = .ok (.getfield 7, 3) := by decide +kernel
theorem dX6_init_139 : decode cX6_init 139 = .ok (.iconst 4, 1) := by decide +kernel
theorem dX6_init_140 : decode cX6_init 140 = .ok (.iconst 3, 1) := by decide +kernel
theorem dX6_init_141 : decode cX6_init 141 = .ok (.iastore, 1) := by decide +kernel
theorem dX6_init_142 : decode cX6_init 142 = .ok (.aload_n 0, 1) := by decide +kernel
theorem dX6_init_143 : decode cX6_init 143 = .ok (.getfield 7, 3) := by decide +kernel
theorem dX6_init_146 : decode cX6_init 146 = .ok (.bipush 10, 2) := by decide +kernel
theorem dX6_init_148 : decode cX6_init 148 = .ok (.bipush (-4), 2) := by decide +kernel
theorem dX6_init_150 : decode cX6_init 150 = .ok (.iastore, 1) := by decide +kernel
theorem dX6_init_151 : decode cX6_init 151 = .ok (.aload_n 0, 1) := by decide +kernel
theorem dX6_init_152 : decode cX6_init 152 = .ok (.getfield 7, 3) := by decide +kernel
theorem dX6_init_155 : decode cX6_init 155 = .ok (.bipush 13, 2) := by decide +kernel
theorem dX6_init_157 : decode cX6_init 157 = .ok (.iconst 1, 1) := by decide +kernel
theorem dX6_init_158 : decode cX6_init 158 = .ok (.iastore, 1) := by decide +kernel
theorem dX6_init_159 : decode cX6_init 159 = .ok (.iconst 0, 1) := by decide +kernel
theorem dX6_init_160 : decode cX6_init 160 = .ok (.istore_n 1, 1) := by decide +kernel
theorem dX6_init_161 : decode cX6_init 161 = .ok (.iload_n 1, 1) := by decide +kernel
theorem dX6_init_162 : decode cX6_init 162 = .ok (.iconst 4, 1) := by decide +kernel
theorem dX6_init_163 : decode cX6_init 163 = .ok (.if_icmp .ge 16, 3) := by decide +kernel
theorem dX6_init_166 : decode cX6_init 166 = .ok (.aload_n 0, 1) := by decide +kernel
theorem dX6_init_167 : decode cX6_init 167 = .ok (.getfield 38, 3) := by decide +kernel
theorem dX6_init_170 : decode cX6_init 170 = .ok (.iload_n 1, 1) := by decide +kernel
theorem dX6_init_171 : decode cX6_init 171 = .ok (.iconst (-1), 1) := by decide +kernel
theorem dX6_init_172 : decode cX6_init 172 = .ok (.iastore, 1) := by decide +kernel
theorem dX6_init_173 : decode cX6_init 173 = .ok (.iinc 1 1, 3) := by decide +kernel
theorem dX6_init_176 : decode cX6_init 176 = .ok (.goto (-15), 3) := by decide +kernel
theorem dX6_init_179 : decode cX6_init 179 = .ok (.return_, 1) := by decide +kernel
theorem dX6_isBeast_0 : decode cX6_isBeast 0 = .ok (.iload_n 1, 1) := by decide +kernel
theorem dX6_isBeast_1 : decode cX6_isBeast 1 = .ok (.i2l, 1) := by decide +kernel
theorem dX6_isBeast_2 : decode cX6_isBeast 2 = .ok (.lconst 0, 1) := by decide +kernel
theorem dX6_isBeast_3 : decode cX6_isBeast 3 = .ok (.aload_n 0, 1) := by decide +kernel
theorem dX6_isBeast_4 : decode cX6_isBeast 4 = .ok (.getfield 7, 3) := by decide +kernel
theorem dX6_isBeast_7 : decode cX6_isBeast 7 = .ok (.bipush 12, 2) := by decide +kernel
theorem dX6_isBeast_9 : decode cX6_isBeast 9 = .ok (.iaload, 1) := by decide +kernel
theorem dX6_isBeast_10 : decode cX6_isBeast 10 = .ok (.iconst 1, 1) := by decide +kernel
theorem dX6_isBeast_11 : decode cX6_isBeast 11 = .ok (.isub, 1) := by decide +kernel
theorem dX6_isBeast_12 : decode cX6_isBeast 12 = .ok (.i2l, 1) := by decide +kernel
theorem dX6_isBeast_13 : decode cX6_isBeast 13 = .ok (.invokestatic 51, 3) := by decide +kernel
theorem dX6_isBeast_16 : decode cX6_isBeast 16 = .ok (.ireturn, 1) := by decide +kernel
theorem dX6_at_0 : decode cX6_at 0 = .ok (.aload_n 0, 1) := by decide +kernel
theorem dX6_at_1 : decode cX6_at 1 = .ok (.getfield 7, 3) := by decide +kernel
theorem dX6_at_4 : decode cX6_at 4 = .ok (.bipush 14, 2) := by decide +kernel
theorem dX6_at_6 : decode cX6_at 6 = .ok (.bipush 7, 2) := by decide +kernel
theorem dX6_at_8 : decode cX6_at 8 = .ok (.iload_n 1, 1) := by decide +kernel
theorem dX6_at_9 : decode cX6_at 9 = .ok (.imul, 1) := by decide +kernel
theorem dX6_at_10 : decode cX6_at 10 = .ok (.iadd, 1) := by decide +kernel
theorem dX6_at_11 : decode cX6_at 11 = .ok (.iload_n 2, 1) := by decide +kernel
theorem dX6_at_12 : decode cX6_at 12 = .ok (.iadd, 1) := by decide +kernel
theorem dX6_at_13 : decode cX6_at 13 = .ok (.iaload, 1) := by decide +kernel
theorem dX6_at_14 : decode cX6_at 14 = .ok (.ireturn, 1) := by decide +kernel
theorem dX6_isMilk_0 : decode cX6_isMilk 0 = .ok (.aload_n 0, 1) := by decide +kernel
theorem dX6_isMilk_1 : decode cX6_isMilk 1 = .ok (.iload_n 1, 1) := by decide +kernel
theorem dX6_isMilk_2 : decode cX6_isMilk 2 = .ok (.iconst 0, 1) := by decide +kernel
theorem dX6_isMilk_3 : decode cX6_isMilk 3 = .ok (.invokevirtual 55, 3) := by decide +kernel
theorem dX6_isMilk_6 : decode cX6_isMilk 6 = .ok (.iconst 1, 1) := by decide +kernel
theorem dX6_isMilk_7 : decode cX6_isMilk 7 = .ok (.if_icmp .eq 13, 3) := by decide +kernel
theorem dX6_isMilk_10 : decode cX6_isMilk 10 = .ok (.aload_n 0, 1) := by decide +kernel
theorem dX6_isMilk_11 : decode cX6_isMilk 11 = .ok (.iload_n 1, 1) := by decide +kernel
theorem dX6_isMilk_12 : decode cX6_isMilk 12 = .ok (.iconst 0, 1) := by decide +kernel
theorem dX6_isMilk_13 : decode cX6_isMilk 13 = .ok (.invokevirtual 55, 3) := by decide +kernel
theorem dX6_isMilk_16 : decode cX6_isMilk 16 = .ok (.iconst 3, 1) := by decide +kernel
theorem dX6_isMilk_17 : decode cX6_isMilk 17 = .ok (.if_icmp .ne 7, 3) := by decide +kernel
theorem dX6_isMilk_20 : decode cX6_isMilk 20 = .ok (.iconst 1, 1) := by decide +kernel
theorem dX6_isMilk_21 : decode cX6_isMilk 21 = .ok (.goto 4, 3) := by decide +kernel
theorem dX6_isMilk_24 : decode cX6_isMilk 24 = .ok (.iconst 0, 1) := by decide +kernel
theorem dX6_isMilk_25 : decode cX6_isMilk 25 = .ok (.ireturn, 1) := by decide +kernel
theorem dX6_needs_0 : decode cX6_needs 0 = .ok (.iconst 3, 1) := by decide +kernel
theorem dX6_needs_1 : decode cX6_needs 1 = .ok (.aload_n 0, 1) := by decide +kernel
theorem dX6_needs_2 : decode cX6_needs 2 = .ok (.iload_n 1, 1) := by decide +kernel
theorem dX6_needs_3 : decode cX6_needs 3 = .ok (.iconst 1, 1) := by decide +kernel
theorem dX6_needs_4 : decode cX6_needs 4 = .ok (.invokevirtual 55, 3) := by decide +kernel
theorem dX6_needs_7 : decode cX6_needs 7 = .ok (.imul, 1) := by decide +kernel
theorem dX6_needs_8 : decode cX6_needs 8 = .ok (.aload_n 0, 1) := by decide +kernel
theorem dX6_needs_9 : decode cX6_needs 9 = .ok (.iload_n 1, 1) := by decide +kernel
theorem dX6_needs_10 : decode cX6_needs 10 = .ok (.iconst 4, 1) := by decide +kernel
theorem dX6_needs_11 : decode cX6_needs 11 = .ok (.invokevirtual 55, 3) := by decide +kernel
theorem dX6_needs_14 : decode cX6_needs 14 = .ok (.iconst 3, 1) := by decide +kernel
theorem dX6_needs_15 : decode cX6_needs 15 = .ok (.idiv, 1) := by decide +kernel
theorem dX6_needs_16 : decode cX6_needs 16 = .ok (.iadd, 1) := by decide +kernel
theorem dX6_needs_17 : decode cX6_needs 17 = .ok (.aload_n 0, 1) := by decide +kernel
theorem dX6_needs_18 : decode cX6_needs 18 = .ok (.iload_n 1, 1) := by decide +kernel
theorem dX6_needs_19 : decode cX6_needs 19 = .ok (.invokevirtual 59, 3) := by decide +kernel
theorem dX6_needs_22 : decode cX6_needs 22 = .ok (.ifCond .eq 7, 3) := by decide +kernel
theorem dX6_needs_25 : decode cX6_needs 25 = .ok (.iconst 5, 1) := by decide +kernel
theorem dX6_needs_26 : decode cX6_needs 26 = .ok (.goto 4, 3) := by decide +kernel
theorem dX6_needs_29 : decode cX6_needs 29 = .ok (.iconst 0, 1) := by decide +kernel
theorem dX6_needs_30 : decode cX6_needs 30 = .ok (.iadd, 1) := by decide +kernel
theorem dX6_needs_31 : decode cX6_needs 31 = .ok (.ireturn, 1) := by decide +kernel
theorem dX6_drinks_0 : decode cX6_drinks 0 = .ok (.aload_n 0, 1) := by decide +kernel
theorem dX6_drinks_1 : decode cX6_drinks 1 = .ok (.iload_n 1, 1) := by decide +kernel
theorem dX6_drinks_2 : decode cX6_drinks 2 = .ok (.iconst 0, 1) := by decide +kernel
theorem dX6_drinks_3 : decode cX6_drinks 3 = .ok (.invokevirtual 55, 3) := by decide +kernel
theorem dX6_drinks_6 : decode cX6_drinks 6 = .ok (.iconst 2, 1) := by decide +kernel
theorem dX6_drinks_7 : decode cX6_drinks 7 = .ok (.if_icmp .ne 7, 3) := by decide +kernel
theorem dX6_drinks_10 : decode cX6_drinks 10 = .ok (.iconst 2, 1) := by decide +kernel
theorem dX6_drinks_11 : decode cX6_drinks 11 = .ok (.goto 19, 3) := by decide +kernel
theorem dX6_drinks_14 : decode cX6_drinks 14 = .ok (.aload_n 0, 1) := by decide +kernel
theorem dX6_drinks_15 : decode cX6_drinks 15 = .ok (.iload_n 1, 1) := by decide +kernel
theorem dX6_drinks_16 : decode cX6_drinks 16 = .ok (.iconst 0, 1) := by decide +kernel
theorem dX6_drinks_17 : decode cX6_drinks 17 = .ok (.invokevirtual 55, 3) := by decide +kernel
theorem dX6_drinks_20 : decode cX6_drinks 20 = .ok (.iconst 3, 1) := by decide +kernel
theorem dX6_drinks_21 : decode cX6_drinks 21 = .ok (.if_icmp .ne 8, 3) := by decide +kernel
theorem dX6_drinks_24 : decode cX6_drinks 24 = .ok (.bipush 8, 2) := by decide +kernel
theorem dX6_drinks_26 : decode cX6_drinks 26 = .ok (.goto 4, 3) := by decide +kernel
theorem dX6_drinks_29 : decode cX6_drinks 29 = .ok (.iconst 4, 1) := by decide +kernel
theorem dX6_drinks_30 : decode cX6_drinks 30 = .ok (.ireturn, 1) := by decide +kernel
theorem dX6_isSated_0 : decode cX6_isSated 0 = .ok (.aload_n 0, 1) := by decide +kernel
theorem dX6_isSated_1 : decode cX6_isSated 1 = .ok (.iload_n 1, 1) := by decide +kernel
theorem dX6_isSated_2 : decode cX6_isSated 2 = .ok (.iconst 3, 1) := by decide +kernel
theorem dX6_isSated_3 : decode cX6_isSated 3 = .ok (.invokevirtual 55, 3) := by decide +kernel
theorem dX6_isSated_6 : decode cX6_isSated 6 = .ok (.aload_n 0, 1) := by decide +kernel
theorem dX6_isSated_7 : decode cX6_isSated 7 = .ok (.iload_n 1, 1) := by decide +kernel
theorem dX6_isSated_8 : decode cX6_isSated 8 = .ok (.invokevirtual 63, 3) := by decide +kernel
theorem dX6_isSated_11 : decode cX6_isSated 11 = .ok (.if_icmp .lt 7, 3) := by decide +kernel
theorem dX6_isSated_14 : decode cX6_isSated 14 = .ok (.iconst 1, 1) := by decide +kernel
theorem dX6_isSated_15 : decode cX6_isSated 15 = .ok (.goto 4, 3) := by decide +kernel
theorem dX6_isSated_18 : decode cX6_isSated 18 = .ok (.iconst 0, 1) := by decide +kernel
theorem dX6_isSated_19 : decode cX6_isSated 19 = .ok (.ireturn, 1) := by decide +kernel
theorem dX6_sated_0 : decode cX6_sated 0 = .ok (.iconst 0, 1) := by decide +kernel
theorem dX6_sated_1 : decode cX6_sated 1 = .ok (.istore_n 1, 1) := by decide +kernel
theorem dX6_sated_2 : decode cX6_sated 2 = .ok (.iconst 0, 1) := by decide +kernel
theorem dX6_sated_3 : decode cX6_sated 3 = .ok (.istore_n 2, 1) := by decide +kernel
theorem dX6_sated_4 : decode cX6_sated 4 = .ok (.iload_n 2, 1) := by decide +kernel
theorem dX6_sated_5 : decode cX6_sated 5 = .ok (.aload_n 0, 1) := by decide +kernel
theorem dX6_sated_6 : decode cX6_sated 6 = .ok (.getfield 7, 3) := by decide +kernel
theorem dX6_sated_9 : decode cX6_sated 9 = .ok (.bipush 12, 2) := by decide +kernel
theorem dX6_sated_11 : decode cX6_sated 11 = .ok (.iaload, 1) := by decide +kernel
theorem dX6_sated_12 : decode cX6_sated 12 = .ok (.if_icmp .ge 27, 3) := by decide +kernel
theorem dX6_sated_15 : decode cX6_sated 15 = .ok (.iload_n 1, 1) := by decide +kernel
theorem dX6_sated_16 : decode cX6_sated 16 = .ok (.aload_n 0, 1) := by decide +kernel
theorem dX6_sated_17 : decode cX6_sated 17 = .ok (.iload_n 2, 1) := by decide +kernel
theorem dX6_sated_18 : decode cX6_sated 18 = .ok (.invokevirtual 67, 3) := by decide +kernel
theorem dX6_sated_21 : decode cX6_sated 21 = .ok (.ifCond .eq 9, 3) := by decide +kernel
theorem dX6_sated_24 : decode cX6_sated 24 = .ok (.iconst 1, 1) := by decide +kernel
theorem dX6_sated_25 : decode cX6_sated 25 = .ok (.iload_n 2, 1) := by decide +kernel
theorem dX6_sated_26 : decode cX6_sated 26 = .ok (.ishl, 1) := by decide +kernel
theorem dX6_sated_27 : decode cX6_sated 27 = .ok (.goto 4, 3) := by decide +kernel
theorem dX6_sated_30 : decode cX6_sated 30 = .ok (.iconst 0, 1) := by decide +kernel
theorem dX6_sated_31 : decode cX6_sated 31 = .ok (.ior, 1) := by decide +kernel
theorem dX6_sated_32 : decode cX6_sated 32 = .ok (.istore_n 1, 1) := by decide +kernel
theorem dX6_sated_33 : decode cX6_sated 33 = .ok (.iinc 2 1, 3) := by decide +kernel
theorem dX6_sated_36 : decode cX6_sated 36 = .ok (.goto (-32), 3) := by decide +kernel
theorem dX6_sated_39 : decode cX6_sated 39 = .ok (.iload_n 1, 1) := by decide +kernel
theorem dX6_sated_40 : decode cX6_sated 40 = .ok (.ireturn, 1) := by decide +kernel
theorem dX6_beast_0 : decode cX6_beast 0 = .ok (.iload_n 1, 1) := by decide +kernel
theorem dX6_beast_1 : decode cX6_beast 1 = .ok (.i2l, 1) := by decide +kernel
theorem dX6_beast_2 : decode cX6_beast 2 = .ok (.lconst 0, 1) := by decide +kernel
theorem dX6_beast_3 : decode cX6_beast 3 = .ok (.ldc2_w 70, 3) := by decide +kernel
theorem dX6_beast_6 : decode cX6_beast 6 = .ok (.invokestatic 51, 3) := by decide +kernel
theorem dX6_beast_9 : decode cX6_beast 9 = .ok (.ifCond .eq 25, 3) := by decide +kernel
theorem dX6_beast_12 : decode cX6_beast 12 = .ok (.iload_n 2, 1) := by decide +kernel
theorem dX6_beast_13 : decode cX6_beast 13 = .ok (.i2l, 1) := by decide +kernel
theorem dX6_beast_14 : decode cX6_beast 14 = .ok (.lconst 1, 1) := by decide +kernel
theorem dX6_beast_15 : decode cX6_beast 15 = .ok (.ldc2_w 72, 3) := by decide +kernel
theorem dX6_beast_18 : decode cX6_beast 18 = .ok (.invokestatic 51, 3) := by decide +kernel
theorem dX6_beast_21 : decode cX6_beast 21 = .ok (.ifCond .eq 13, 3) := by decide +kernel
theorem dX6_beast_24 : decode cX6_beast 24 = .ok (.iload_n 3, 1) := by decide +kernel
theorem dX6_beast_25 : decode cX6_beast 25 = .ok (.i2l, 1) := by decide +kernel
theorem dX6_beast_26 : decode cX6_beast 26 = .ok (.lconst 0, 1) := by decide +kernel
theorem dX6_beast_27 : decode cX6_beast 27 = .ok (.lconst 1, 1) := by decide +kernel
theorem dX6_beast_28 : decode cX6_beast 28 = .ok (.invokestatic 51, 3) := by decide +kernel
theorem dX6_beast_31 : decode cX6_beast 31 = .ok (.ifCond .ne 5, 3) := by decide +kernel
theorem dX6_beast_34 : decode cX6_beast 34 = .ok (.iconst (-1), 1) := by decide +kernel
theorem dX6_beast_35 : decode cX6_beast 35 = .ok (.ireturn, 1) := by decide +kernel
theorem dX6_beast_36 : decode cX6_beast 36 = .ok (.aload_n 0, 1) := by decide +kernel
theorem dX6_beast_37 : decode cX6_beast 37 = .ok (.getfield 7, 3) := by decide +kernel
theorem dX6_beast_40 : decode cX6_beast 40 = .ok (.bipush 12, 2) := by decide +kernel
theorem dX6_beast_42 : decode cX6_beast 42 = .ok (.iaload, 1) := by decide +kernel
theorem dX6_beast_43 : decode cX6_beast 43 = .ok (.bipush 7, 2) := by decide +kernel
theorem dX6_beast_45 : decode cX6_beast 45 = .ok (.if_icmp .ne 6, 3) := by decide +kernel
theorem dX6_beast_48 : decode cX6_beast 48 = .ok (.bipush (-3), 2) := by decide +kernel
theorem dX6_beast_50 : decode cX6_beast 50 = .ok (.ireturn, 1) := by decide +kernel
theorem dX6_beast_51 : decode cX6_beast 51 = .ok (.bipush 14, 2) := by decide +kernel
theorem dX6_beast_53 : decode cX6_beast 53 = .ok (.bipush 7, 2) := by decide +kernel
theorem dX6_beast_55 : decode cX6_beast 55 = .ok (.aload_n 0, 1) := by decide +kernel
theorem dX6_beast_56 : decode cX6_beast 56 = .ok (.getfield 7, 3) := by decide +kernel
theorem dX6_beast_59 : decode cX6_beast 59 = .ok (.bipush 12, 2) := by decide +kernel
theorem dX6_beast_61 : decode cX6_beast 61 = .ok (.iaload, 1) := by decide +kernel
theorem dX6_beast_62 : decode cX6_beast 62 = .ok (.imul, 1) := by decide +kernel
theorem dX6_beast_63 : decode cX6_beast 63 = .ok (.iadd, 1) := by decide +kernel
theorem dX6_beast_64 : decode cX6_beast 64 = .ok (.istore 4, 2) := by decide +kernel
theorem dX6_beast_66 : decode cX6_beast 66 = .ok (.aload_n 0, 1) := by decide +kernel
theorem dX6_beast_67 : decode cX6_beast 67 = .ok (.getfield 7, 3) := by decide +kernel
theorem dX6_beast_70 : decode cX6_beast 70 = .ok (.iload 4, 2) := by decide +kernel
theorem dX6_beast_72 : decode cX6_beast 72 = .ok (.iload_n 1, 1) := by decide +kernel
theorem dX6_beast_73 : decode cX6_beast 73 = .ok (.iastore, 1) := by decide +kernel
theorem dX6_beast_74 : decode cX6_beast 74 = .ok (.aload_n 0, 1) := by decide +kernel
theorem dX6_beast_75 : decode cX6_beast 75 = .ok (.getfield 7, 3) := by decide +kernel
theorem dX6_beast_78 : decode cX6_beast 78 = .ok (.iload 4, 2) := by decide +kernel
theorem dX6_beast_80 : decode cX6_beast 80 = .ok (.iconst 1, 1) := by decide +kernel
theorem dX6_beast_81 : decode cX6_beast 81 = .ok (.iadd, 1) := by decide +kernel
theorem dX6_beast_82 : decode cX6_beast 82 = .ok (.iload_n 2, 1) := by decide +kernel
theorem dX6_beast_83 : decode cX6_beast 83 = .ok (.iastore, 1) := by decide +kernel
theorem dX6_beast_84 : decode cX6_beast 84 = .ok (.aload_n 0, 1) := by decide +kernel
theorem dX6_beast_85 : decode cX6_beast 85 = .ok (.getfield 7, 3) := by decide +kernel
theorem dX6_beast_88 : decode cX6_beast 88 = .ok (.iload 4, 2) := by decide +kernel
theorem dX6_beast_90 : decode cX6_beast 90 = .ok (.iconst 2, 1) := by decide +kernel
theorem dX6_beast_91 : decode cX6_beast 91 = .ok (.iadd, 1) := by decide +kernel
theorem dX6_beast_92 : decode cX6_beast 92 = .ok (.iload_n 3, 1) := by decide +kernel
theorem dX6_beast_93 : decode cX6_beast 93 = .ok (.iastore, 1) := by decide +kernel
theorem dX6_beast_94 : decode cX6_beast 94 = .ok (.iconst 3, 1) := by decide +kernel
theorem dX6_beast_95 : decode cX6_beast 95 = .ok (.istore 5, 2) := by decide +kernel
theorem dX6_beast_97 : decode cX6_beast 97 = .ok (.iload 5, 2) := by decide +kernel
theorem dX6_beast_99 : decode cX6_beast 99 = .ok (.bipush 7, 2) := by decide +kernel
theorem dX6_beast_101 : decode cX6_beast 101 = .ok (.if_icmp .ge 20, 3) := by decide +kernel
theorem dX6_beast_104 : decode cX6_beast 104 = .ok (.aload_n 0, 1) := by decide +kernel
theorem dX6_beast_105 : decode cX6_beast 105 = .ok (.getfield 7, 3) := by decide +kernel
theorem dX6_beast_108 : decode cX6_beast 108 = .ok (.iload 4, 2) := by decide +kernel
theorem dX6_beast_110 : decode cX6_beast 110 = .ok (.iload 5, 2) := by decide +kernel
theorem dX6_beast_112 : decode cX6_beast 112 = .ok (.iadd, 1) := by decide +kernel
theorem dX6_beast_113 : decode cX6_beast 113 = .ok (.iconst 0, 1) := by decide +kernel
theorem dX6_beast_114 : decode cX6_beast 114 = .ok (.iastore, 1) := by decide +kernel
theorem dX6_beast_115 : decode cX6_beast 115 = .ok (.iinc 5 1, 3) := by decide +kernel
theorem dX6_beast_118 : decode cX6_beast 118 = .ok (.goto (-21), 3) := by decide +kernel
theorem dX6_beast_121 : decode cX6_beast 121 = .ok (.aload_n 0, 1) := by decide +kernel
theorem dX6_beast_122 : decode cX6_beast 122 = .ok (.iconst 0, 1) := by decide +kernel
theorem dX6_beast_123 : decode cX6_beast 123 = .ok (.putfield 74, 3) := by decide +kernel
theorem dX6_beast_126 : decode cX6_beast 126 = .ok (.aload_n 0, 1) := by decide +kernel
theorem dX6_beast_127 : decode cX6_beast 127 = .ok (.iconst (-1), 1) := by decide +kernel
theorem dX6_beast_128 : decode cX6_beast 128 = .ok (.putfield 16, 3) := by decide +kernel
theorem dX6_beast_131 : decode cX6_beast 131 = .ok (.aload_n 0, 1) := by decide +kernel
theorem dX6_beast_132 : decode cX6_beast 132 = .ok (.getfield 7, 3) := by decide +kernel
theorem dX6_beast_135 : decode cX6_beast 135 = .ok (.bipush 12, 2) := by decide +kernel
theorem dX6_beast_137 : decode cX6_beast 137 = .ok (.dup2, 1) := by decide +kernel
theorem dX6_beast_138 : decode cX6_beast 138 = .ok (.iaload, 1) := by decide +kernel
theorem dX6_beast_139 : decode cX6_beast 139 = .ok (.iconst 1, 1) := by decide +kernel
theorem dX6_beast_140 : decode cX6_beast 140 = .ok (.iadd, 1) := by decide +kernel
theorem dX6_beast_141 : decode cX6_beast 141 = .ok (.iastore, 1) := by decide +kernel
theorem dX6_beast_142 : decode cX6_beast 142 = .ok (.aload_n 0, 1) := by decide +kernel
theorem dX6_beast_143 : decode cX6_beast 143 = .ok (.getfield 7, 3) := by decide +kernel
theorem dX6_beast_146 : decode cX6_beast 146 = .ok (.bipush 12, 2) := by decide +kernel
theorem dX6_beast_148 : decode cX6_beast 148 = .ok (.iaload, 1) := by decide +kernel
theorem dX6_beast_149 : decode cX6_beast 149 = .ok (.iconst 1, 1) := by decide +kernel
theorem dX6_beast_150 : decode cX6_beast 150 = .ok (.isub, 1) := by decide +kernel
theorem dX6_beast_151 : decode cX6_beast 151 = .ok (.ireturn, 1) := by decide +kernel
theorem dX6_of_0 : decode cX6_of 0 = .ok (.aload_n 0, 1) := by decide +kernel
theorem dX6_of_1 : decode cX6_of 1 = .ok (.iload_n 1, 1) := by decide +kernel
theorem dX6_of_2 : decode cX6_of 2 = .ok (.invokevirtual 77, 3) := by decide +kernel
theorem dX6_of_5 : decode cX6_of 5 = .ok (.ifCond .eq 15, 3) := by decide +kernel
theorem dX6_of_8 : decode cX6_of 8 = .ok (.iload_n 2, 1) := by decide +kernel
theorem dX6_of_9 : decode cX6_of 9 = .ok (.i2l, 1) := by decide +kernel
theorem dX6_of_10 : decode cX6_of 10 = .ok (.lconst 0, 1) := by decide +kernel
theorem dX6_of_11 : decode cX6_of 11 = .ok (.ldc2_w 80, 3) := by decide +kernel
theorem dX6_of_14 : decode cX6_of 14 = .ok (.invokestatic 51, 3) := by decide +kernel
theorem dX6_of_17 : decode cX6_of 17 = .ok (.ifCond .ne 5, 3) := by decide +kernel
theorem dX6_of_20 : decode cX6_of 20 = .ok (.iconst (-1), 1) := by decide +kernel
theorem dX6_of_21 : decode cX6_of 21 = .ok (.ireturn, 1) := by decide +kernel
theorem dX6_of_22 : decode cX6_of 22 = .ok (.iload_n 2, 1) := by decide +kernel
theorem dX6_of_23 : decode cX6_of 23 = .ok (.tableswitch 89 0 7 #[45, 45, 45, 52, 58, 58, 67, 81], 45) := by decide +kernel
theorem dX6_of_68 : decode cX6_of 68 = .ok (.aload_n 0, 1) := by decide +kernel
theorem dX6_of_69 : decode cX6_of 69 = .ok (.iload_n 1, 1) := by decide +kernel
theorem dX6_of_70 : decode cX6_of 70 = .ok (.iload_n 2, 1) := by decide +kernel
theorem dX6_of_71 : decode cX6_of 71 = .ok (.invokevirtual 55, 3) := by decide +kernel
theorem dX6_of_74 : decode cX6_of 74 = .ok (.ireturn, 1) := by decide +kernel
theorem dX6_of_75 : decode cX6_of 75 = .ok (.aload_n 0, 1) := by decide +kernel
theorem dX6_of_76 : decode cX6_of 76 = .ok (.iload_n 1, 1) := by decide +kernel
theorem dX6_of_77 : decode cX6_of 77 = .ok (.invokevirtual 63, 3) := by decide +kernel
theorem dX6_of_80 : decode cX6_of 80 = .ok (.ireturn, 1) := by decide +kernel
theorem dX6_of_81 : decode cX6_of 81 = .ok (.aload_n 0, 1) := by decide +kernel
theorem dX6_of_82 : decode cX6_of 82 = .ok (.iload_n 1, 1) := by decide +kernel
theorem dX6_of_83 : decode cX6_of 83 = .ok (.iload_n 2, 1) := by decide +kernel
theorem dX6_of_84 : decode cX6_of 84 = .ok (.iconst 1, 1) := by decide +kernel
theorem dX6_of_85 : decode cX6_of 85 = .ok (.isub, 1) := by decide +kernel
theorem dX6_of_86 : decode cX6_of 86 = .ok (.invokevirtual 55, 3) := by decide +kernel
theorem dX6_of_89 : decode cX6_of 89 = .ok (.ireturn, 1) := by decide +kernel
theorem dX6_of_90 : decode cX6_of 90 = .ok (.aload_n 0, 1) := by decide +kernel
theorem dX6_of_91 : decode cX6_of 91 = .ok (.iload_n 1, 1) := by decide +kernel
theorem dX6_of_92 : decode cX6_of 92 = .ok (.invokevirtual 67, 3) := by decide +kernel
theorem dX6_of_95 : decode cX6_of 95 = .ok (.ifCond .eq 7, 3) := by decide +kernel
theorem dX6_of_98 : decode cX6_of 98 = .ok (.iconst 1, 1) := by decide +kernel
theorem dX6_of_99 : decode cX6_of 99 = .ok (.goto 4, 3) := by decide +kernel
theorem dX6_of_102 : decode cX6_of 102 = .ok (.iconst 0, 1) := by decide +kernel
theorem dX6_of_103 : decode cX6_of 103 = .ok (.ireturn, 1) := by decide +kernel
theorem dX6_of_104 : decode cX6_of 104 = .ok (.aload_n 0, 1) := by decide +kernel
theorem dX6_of_105 : decode cX6_of 105 = .ok (.iload_n 1, 1) := by decide +kernel
theorem dX6_of_106 : decode cX6_of 106 = .ok (.bipush 6, 2) := by decide +kernel
theorem dX6_of_108 : decode cX6_of 108 = .ok (.invokevirtual 55, 3) := by decide +kernel
theorem dX6_of_111 : decode cX6_of 111 = .ok (.ireturn, 1) := by decide +kernel
theorem dX6_of_112 : decode cX6_of 112 = .ok (.aload_n 0, 1) := by decide +kernel
theorem dX6_of_113 : decode cX6_of 113 = .ok (.iload_n 1, 1) := by decide +kernel
theorem dX6_of_114 : decode cX6_of 114 = .ok (.invokevirtual 82, 3) := by decide +kernel
theorem dX6_of_117 : decode cX6_of 117 = .ok (.ireturn, 1) := by decide +kernel
theorem dX6_low_0 : decode cX6_low 0 = .ok (.iload_n 0, 1) := by decide +kernel
theorem dX6_low_1 : decode cX6_low 1 = .ok (.iconst 2, 1) := by decide +kernel
theorem dX6_low_2 : decode cX6_low 2 = .ok (.if_icmp .eq 13, 3) := by decide +kernel
theorem dX6_low_5 : decode cX6_low 5 = .ok (.iload_n 0, 1) := by decide +kernel
theorem dX6_low_6 : decode cX6_low 6 = .ok (.iconst 3, 1) := by decide +kernel
theorem dX6_low_7 : decode cX6_low 7 = .ok (.if_icmp .eq 8, 3) := by decide +kernel
theorem dX6_low_10 : decode cX6_low 10 = .ok (.iload_n 0, 1) := by decide +kernel
theorem dX6_low_11 : decode cX6_low 11 = .ok (.iconst 4, 1) := by decide +kernel
theorem dX6_low_12 : decode cX6_low 12 = .ok (.if_icmp .ne 7, 3) := by decide +kernel
theorem dX6_low_15 : decode cX6_low 15 = .ok (.iconst 1, 1) := by decide +kernel
theorem dX6_low_16 : decode cX6_low 16 = .ok (.goto 4, 3) := by decide +kernel
theorem dX6_low_19 : decode cX6_low 19 = .ok (.iconst 0, 1) := by decide +kernel
theorem dX6_low_20 : decode cX6_low 20 = .ok (.ireturn, 1) := by decide +kernel
theorem dX6_high_0 : decode cX6_high 0 = .ok (.iload_n 0, 1) := by decide +kernel
theorem dX6_high_1 : decode cX6_high 1 = .ok (.tableswitch 53 1 6 #[39, 42, 45, 48, 53, 51], 39) := by decide +kernel
theorem dX6_high_40 : decode cX6_high 40 = .ok (.bipush 20, 2) := by decide +kernel
theorem dX6_high_42 : decode cX6_high 42 = .ok (.ireturn, 1) := by decide +kernel
theorem dX6_high_43 : decode cX6_high 43 = .ok (.bipush 40, 2) := by decide +kernel
theorem dX6_high_45 : decode cX6_high 45 = .ok (.ireturn, 1) := by decide +kernel
theorem dX6_high_46 : decode cX6_high 46 = .ok (.bipush 9, 2) := by decide +kernel
theorem dX6_high_48 : decode cX6_high 48 = .ok (.ireturn, 1) := by decide +kernel
theorem dX6_high_49 : decode cX6_high 49 = .ok (.bipush 7, 2) := by decide +kernel
theorem dX6_high_51 : decode cX6_high 51 = .ok (.ireturn, 1) := by decide +kernel
theorem dX6_high_52 : decode cX6_high 52 = .ok (.iconst 3, 1) := by decide +kernel
theorem dX6_high_53 : decode cX6_high 53 = .ok (.ireturn, 1) := by decide +kernel
theorem dX6_high_54 : decode cX6_high 54 = .ok (.bipush 60, 2) := by decide +kernel
theorem dX6_high_56 : decode cX6_high 56 = .ok (.ireturn, 1) := by decide +kernel
theorem dX6_well_0 : decode cX6_well 0 = .ok (.iload_n 1, 1) := by decide +kernel
theorem dX6_well_1 : decode cX6_well 1 = .ok (.i2l, 1) := by decide +kernel
theorem dX6_well_2 : decode cX6_well 2 = .ok (.lconst 0, 1) := by decide +kernel
theorem dX6_well_3 : decode cX6_well 3 = .ok (.ldc2_w 85, 3) := by decide +kernel
theorem dX6_well_6 : decode cX6_well 6 = .ok (.invokestatic 51, 3) := by decide +kernel
theorem dX6_well_9 : decode cX6_well 9 = .ok (.ifCond .eq 21, 3) := by decide +kernel
theorem dX6_well_12 : decode cX6_well 12 = .ok (.iload_n 2, 1) := by decide +kernel
theorem dX6_well_13 : decode cX6_well 13 = .ok (.i2l, 1) := by decide +kernel
theorem dX6_well_14 : decode cX6_well 14 = .ok (.iload_n 1, 1) := by decide +kernel
theorem dX6_well_15 : decode cX6_well 15 = .ok (.invokestatic 87, 3) := by decide +kernel
theorem dX6_well_18 : decode cX6_well 18 = .ok (.i2l, 1) := by decide +kernel
theorem dX6_well_19 : decode cX6_well 19 = .ok (.iload_n 1, 1) := by decide +kernel
theorem dX6_well_20 : decode cX6_well 20 = .ok (.invokestatic 90, 3) := by decide +kernel
theorem dX6_well_23 : decode cX6_well 23 = .ok (.i2l, 1) := by decide +kernel
theorem dX6_well_24 : decode cX6_well 24 = .ok (.invokestatic 51, 3) := by decide +kernel
theorem dX6_well_27 : decode cX6_well 27 = .ok (.ifCond .ne 5, 3) := by decide +kernel
theorem dX6_well_30 : decode cX6_well 30 = .ok (.iconst (-1), 1) := by decide +kernel
theorem dX6_well_31 : decode cX6_well 31 = .ok (.ireturn, 1) := by decide +kernel
theorem dX6_well_32 : decode cX6_well 32 = .ok (.aload_n 0, 1) := by decide +kernel
theorem dX6_well_33 : decode cX6_well 33 = .ok (.getfield 7, 3) := by decide +kernel
theorem dX6_well_36 : decode cX6_well 36 = .ok (.iload_n 1, 1) := by decide +kernel
theorem dX6_well_37 : decode cX6_well 37 = .ok (.iaload, 1) := by decide +kernel
theorem dX6_well_38 : decode cX6_well 38 = .ok (.istore_n 3, 1) := by decide +kernel
theorem dX6_well_39 : decode cX6_well 39 = .ok (.aload_n 0, 1) := by decide +kernel
theorem dX6_well_40 : decode cX6_well 40 = .ok (.getfield 7, 3) := by decide +kernel
theorem dX6_well_43 : decode cX6_well 43 = .ok (.iload_n 1, 1) := by decide +kernel
theorem dX6_well_44 : decode cX6_well 44 = .ok (.iload_n 2, 1) := by decide +kernel
theorem dX6_well_45 : decode cX6_well 45 = .ok (.iastore, 1) := by decide +kernel
theorem dX6_well_46 : decode cX6_well 46 = .ok (.iload_n 3, 1) := by decide +kernel
theorem dX6_well_47 : decode cX6_well 47 = .ok (.ireturn, 1) := by decide +kernel
theorem dX6_pull_0 : decode cX6_pull 0 = .ok (.iload_n 1, 1) := by decide +kernel
theorem dX6_pull_1 : decode cX6_pull 1 = .ok (.bipush (-4), 2) := by decide +kernel
theorem dX6_pull_3 : decode cX6_pull 3 = .ok (.if_icmp .eq 13, 3) := by decide +kernel
theorem dX6_pull_6 : decode cX6_pull 6 = .ok (.aload_n 0, 1) := by decide +kernel
theorem dX6_pull_7 : decode cX6_pull 7 = .ok (.iload_n 1, 1) := by decide +kernel
theorem dX6_pull_8 : decode cX6_pull 8 = .ok (.invokevirtual 77, 3) := by decide +kernel
theorem dX6_pull_11 : decode cX6_pull 11 = .ok (.ifCond .ne 5, 3) := by decide +kernel
theorem dX6_pull_14 : decode cX6_pull 14 = .ok (.iconst (-1), 1) := by decide +kernel
theorem dX6_pull_15 : decode cX6_pull 15 = .ok (.ireturn, 1) := by decide +kernel
theorem dX6_pull_16 : decode cX6_pull 16 = .ok (.aload_n 0, 1) := by decide +kernel
theorem dX6_pull_17 : decode cX6_pull 17 = .ok (.getfield 7, 3) := by decide +kernel
theorem dX6_pull_20 : decode cX6_pull 20 = .ok (.bipush 10, 2) := by decide +kernel
theorem dX6_pull_22 : decode cX6_pull 22 = .ok (.iaload, 1) := by decide +kernel
theorem dX6_pull_23 : decode cX6_pull 23 = .ok (.istore_n 2, 1) := by decide +kernel
theorem dX6_pull_24 : decode cX6_pull 24 = .ok (.aload_n 0, 1) := by decide +kernel
theorem dX6_pull_25 : decode cX6_pull 25 = .ok (.getfield 7, 3) := by decide +kernel
theorem dX6_pull_28 : decode cX6_pull 28 = .ok (.bipush 10, 2) := by decide +kernel
theorem dX6_pull_30 : decode cX6_pull 30 = .ok (.iload_n 1, 1) := by decide +kernel
theorem dX6_pull_31 : decode cX6_pull 31 = .ok (.iastore, 1) := by decide +kernel
theorem dX6_pull_32 : decode cX6_pull 32 = .ok (.iload_n 2, 1) := by decide +kernel
theorem dX6_pull_33 : decode cX6_pull 33 = .ok (.ireturn, 1) := by decide +kernel
theorem dX6_isAhead_0 : decode cX6_isAhead 0 = .ok (.iload_n 3, 1) := by decide +kernel
theorem dX6_isAhead_1 : decode cX6_isAhead 1 = .ok (.iconst 1, 1) := by decide +kernel
theorem dX6_isAhead_2 : decode cX6_isAhead 2 = .ok (.if_icmp .ne 39, 3) := by decide +kernel
theorem dX6_isAhead_5 : decode cX6_isAhead 5 = .ok (.aload_n 0, 1) := by decide +kernel
theorem dX6_isAhead_6 : decode cX6_isAhead 6 = .ok (.iload_n 1, 1) := by decide +kernel
theorem dX6_isAhead_7 : decode cX6_isAhead 7 = .ok (.iconst 1, 1) := by decide +kernel
theorem dX6_isAhead_8 : decode cX6_isAhead 8 = .ok (.invokevirtual 55, 3) := by decide +kernel
theorem dX6_isAhead_11 : decode cX6_isAhead 11 = .ok (.aload_n 0, 1) := by decide +kernel
theorem dX6_isAhead_12 : decode cX6_isAhead 12 = .ok (.iload_n 2, 1) := by decide +kernel
theorem dX6_isAhead_13 : decode cX6_isAhead 13 = .ok (.iconst 1, 1) := by decide +kernel
theorem dX6_isAhead_14 : decode cX6_isAhead 14 = .ok (.invokevirtual 55, 3) := by decide +kernel
theorem dX6_isAhead_17 : decode cX6_isAhead 17 = .ok (.if_icmp .eq 24, 3) := by decide +kernel
theorem dX6_isAhead_20 : decode cX6_isAhead 20 = .ok (.aload_n 0, 1) := by decide +kernel
theorem dX6_isAhead_21 : decode cX6_isAhead 21 = .ok (.iload_n 1, 1) := by decide +kernel
theorem dX6_isAhead_22 : decode cX6_isAhead 22 = .ok (.iconst 1, 1) := by decide +kernel
theorem dX6_isAhead_23 : decode cX6_isAhead 23 = .ok (.invokevirtual 55, 3) := by decide +kernel
theorem dX6_isAhead_26 : decode cX6_isAhead 26 = .ok (.aload_n 0, 1) := by decide +kernel
theorem dX6_isAhead_27 : decode cX6_isAhead 27 = .ok (.iload_n 2, 1) := by decide +kernel
theorem dX6_isAhead_28 : decode cX6_isAhead 28 = .ok (.iconst 1, 1) := by decide +kernel
theorem dX6_isAhead_29 : decode cX6_isAhead 29 = .ok (.invokevirtual 55, 3) := by decide +kernel
theorem dX6_isAhead_32 : decode cX6_isAhead 32 = .ok (.if_icmp .le 7, 3) := by decide +kernel
theorem dX6_isAhead_35 : decode cX6_isAhead 35 = .ok (.iconst 1, 1) := by decide +kernel
theorem dX6_isAhead_36 : decode cX6_isAhead 36 = .ok (.goto 4, 3) := by decide +kernel
theorem dX6_isAhead_39 : decode cX6_isAhead 39 = .ok (.iconst 0, 1) := by decide +kernel
theorem dX6_isAhead_40 : decode cX6_isAhead 40 = .ok (.ireturn, 1) := by decide +kernel
theorem dX6_isAhead_41 : decode cX6_isAhead 41 = .ok (.iload_n 3, 1) := by decide +kernel
theorem dX6_isAhead_42 : decode cX6_isAhead 42 = .ok (.iconst 2, 1) := by decide +kernel
theorem dX6_isAhead_43 : decode cX6_isAhead 43 = .ok (.if_icmp .ne 22, 3) := by decide +kernel
theorem dX6_isAhead_46 : decode cX6_isAhead 46 = .ok (.aload_n 0, 1) := by decide +kernel
theorem dX6_isAhead_47 : decode cX6_isAhead 47 = .ok (.iload_n 1, 1) := by decide +kernel
theorem dX6_isAhead_48 : decode cX6_isAhead 48 = .ok (.invokevirtual 59, 3) := by decide +kernel
theorem dX6_isAhead_51 : decode cX6_isAhead 51 = .ok (.aload_n 0, 1) := by decide +kernel
theorem dX6_isAhead_52 : decode cX6_isAhead 52 = .ok (.iload_n 2, 1) := by decide +kernel
theorem dX6_isAhead_53 : decode cX6_isAhead 53 = .ok (.invokevirtual 59, 3) := by decide +kernel
theorem dX6_isAhead_56 : decode cX6_isAhead 56 = .ok (.if_icmp .eq 9, 3) := by decide +kernel
theorem dX6_isAhead_59 : decode cX6_isAhead 59 = .ok (.aload_n 0, 1) := by decide +kernel
theorem dX6_isAhead_60 : decode cX6_isAhead 60 = .ok (.iload_n 1, 1) := by decide +kernel
theorem dX6_isAhead_61 : decode cX6_isAhead 61 = .ok (.invokevirtual 59, 3) := by decide +kernel
theorem dX6_isAhead_64 : decode cX6_isAhead 64 = .ok (.ireturn, 1) := by decide +kernel
theorem dX6_isAhead_65 : decode cX6_isAhead 65 = .ok (.iload_n 3, 1) := by decide +kernel
theorem dX6_isAhead_66 : decode cX6_isAhead 66 = .ok (.iconst 3, 1) := by decide +kernel
theorem dX6_isAhead_67 : decode cX6_isAhead 67 = .ok (.if_icmp .ne 52, 3) := by decide +kernel
theorem dX6_isAhead_70 : decode cX6_isAhead 70 = .ok (.aload_n 0, 1) := by decide +kernel
theorem dX6_isAhead_71 : decode cX6_isAhead 71 = .ok (.iload_n 1, 1) := by decide +kernel
theorem dX6_isAhead_72 : decode cX6_isAhead 72 = .ok (.invokevirtual 93, 3) := by decide +kernel
theorem dX6_isAhead_75 : decode cX6_isAhead 75 = .ok (.istore 4, 2) := by decide +kernel
theorem dX6_isAhead_77 : decode cX6_isAhead 77 = .ok (.aload_n 0, 1) := by decide +kernel
theorem dX6_isAhead_78 : decode cX6_isAhead 78 = .ok (.iload_n 2, 1) := by decide +kernel
theorem dX6_isAhead_79 : decode cX6_isAhead 79 = .ok (.invokevirtual 93, 3) := by decide +kernel
theorem dX6_isAhead_82 : decode cX6_isAhead 82 = .ok (.istore 5, 2) := by decide +kernel
theorem dX6_isAhead_84 : decode cX6_isAhead 84 = .ok (.iload 4, 2) := by decide +kernel
theorem dX6_isAhead_86 : decode cX6_isAhead 86 = .ok (.iload 5, 2) := by decide +kernel
theorem dX6_isAhead_88 : decode cX6_isAhead 88 = .ok (.if_icmp .lt 25, 3) := by decide +kernel
theorem dX6_isAhead_91 : decode cX6_isAhead 91 = .ok (.iload 4, 2) := by decide +kernel
theorem dX6_isAhead_93 : decode cX6_isAhead 93 = .ok (.iload 5, 2) := by decide +kernel
theorem dX6_isAhead_95 : decode cX6_isAhead 95 = .ok (.if_icmp .ne 22, 3) := by decide +kernel
theorem dX6_isAhead_98 : decode cX6_isAhead 98 = .ok (.aload_n 0, 1) := by decide +kernel
theorem dX6_isAhead_99 : decode cX6_isAhead 99 = .ok (.iload_n 1, 1) := by decide +kernel
theorem dX6_isAhead_100 : decode cX6_isAhead 100 = .ok (.iconst 2, 1) := by decide +kernel
theorem dX6_isAhead_101 : decode cX6_isAhead 101 = .ok (.invokevirtual 55, 3) := by decide +kernel
theorem dX6_isAhead_104 : decode cX6_isAhead 104 = .ok (.aload_n 0, 1) := by decide +kernel
theorem dX6_isAhead_105 : decode cX6_isAhead 105 = .ok (.iload_n 2, 1) := by decide +kernel
theorem dX6_isAhead_106 : decode cX6_isAhead 106 = .ok (.iconst 2, 1) := by decide +kernel
theorem dX6_isAhead_107 : decode cX6_isAhead 107 = .ok (.invokevirtual 55, 3) := by decide +kernel
theorem dX6_isAhead_110 : decode cX6_isAhead 110 = .ok (.if_icmp .ge 7, 3) := by decide +kernel
theorem dX6_isAhead_113 : decode cX6_isAhead 113 = .ok (.iconst 1, 1) := by decide +kernel
theorem dX6_isAhead_114 : decode cX6_isAhead 114 = .ok (.goto 4, 3) := by decide +kernel
theorem dX6_isAhead_117 : decode cX6_isAhead 117 = .ok (.iconst 0, 1) := by decide +kernel
theorem dX6_isAhead_118 : decode cX6_isAhead 118 = .ok (.ireturn, 1) := by decide +kernel
theorem dX6_isAhead_119 : decode cX6_isAhead 119 = .ok (.iload_n 1, 1) := by decide +kernel
theorem dX6_isAhead_120 : decode cX6_isAhead 120 = .ok (.iload_n 2, 1) := by decide +kernel
theorem dX6_isAhead_121 : decode cX6_isAhead 121 = .ok (.if_icmp .ge 7, 3) := by decide +kernel
theorem dX6_isAhead_124 : decode cX6_isAhead 124 = .ok (.iconst 1, 1) := by decide +kernel
theorem dX6_isAhead_125 : decode cX6_isAhead 125 = .ok (.goto 4, 3) := by decide +kernel
theorem dX6_isAhead_128 : decode cX6_isAhead 128 = .ok (.iconst 0, 1) := by decide +kernel
theorem dX6_isAhead_129 : decode cX6_isAhead 129 = .ok (.ireturn, 1) := by decide +kernel
theorem dX6_among_0 : decode cX6_among 0 = .ok (.iconst 0, 1) := by decide +kernel
theorem dX6_among_1 : decode cX6_among 1 = .ok (.istore_n 2, 1) := by decide +kernel
theorem dX6_among_2 : decode cX6_among 2 = .ok (.iconst 0, 1) := by decide +kernel
theorem dX6_among_3 : decode cX6_among 3 = .ok (.istore_n 3, 1) := by decide +kernel
theorem dX6_among_4 : decode cX6_among 4 = .ok (.iload_n 3, 1) := by decide +kernel
theorem dX6_among_5 : decode cX6_among 5 = .ok (.iload_n 1, 1) := by decide +kernel
theorem dX6_among_6 : decode cX6_among 6 = .ok (.if_icmp .ge 32, 3) := by decide +kernel
theorem dX6_among_9 : decode cX6_among 9 = .ok (.iload_n 2, 1) := by decide +kernel
theorem dX6_among_10 : decode cX6_among 10 = .ok (.aload_n 0, 1) := by decide +kernel
theorem dX6_among_11 : decode cX6_among 11 = .ok (.iload_n 3, 1) := by decide +kernel
theorem dX6_among_12 : decode cX6_among 12 = .ok (.iconst 2, 1) := by decide +kernel
theorem dX6_among_13 : decode cX6_among 13 = .ok (.invokevirtual 55, 3) := by decide +kernel
theorem dX6_among_16 : decode cX6_among 16 = .ok (.aload_n 0, 1) := by decide +kernel
theorem dX6_among_17 : decode cX6_among 17 = .ok (.iload_n 1, 1) := by decide +kernel
theorem dX6_among_18 : decode cX6_among 18 = .ok (.iconst 2, 1) := by decide +kernel
theorem dX6_among_19 : decode cX6_among 19 = .ok (.invokevirtual 55, 3) := by decide +kernel
theorem dX6_among_22 : decode cX6_among 22 = .ok (.if_icmp .ne 7, 3) := by decide +kernel
theorem dX6_among_25 : decode cX6_among 25 = .ok (.iconst 1, 1) := by decide +kernel
theorem dX6_among_26 : decode cX6_among 26 = .ok (.goto 4, 3) := by decide +kernel
theorem dX6_among_29 : decode cX6_among 29 = .ok (.iconst 0, 1) := by decide +kernel
theorem dX6_among_30 : decode cX6_among 30 = .ok (.iadd, 1) := by decide +kernel
theorem dX6_among_31 : decode cX6_among 31 = .ok (.istore_n 2, 1) := by decide +kernel
theorem dX6_among_32 : decode cX6_among 32 = .ok (.iinc 3 1, 3) := by decide +kernel
theorem dX6_among_35 : decode cX6_among 35 = .ok (.goto (-31), 3) := by decide +kernel
theorem dX6_among_38 : decode cX6_among 38 = .ok (.iload_n 2, 1) := by decide +kernel
theorem dX6_among_39 : decode cX6_among 39 = .ok (.ireturn, 1) := by decide +kernel
theorem dX6_orders_0 : decode cX6_orders 0 = .ok (.aload_n 0, 1) := by decide +kernel
theorem dX6_orders_1 : decode cX6_orders 1 = .ok (.iload_n 1, 1) := by decide +kernel
theorem dX6_orders_2 : decode cX6_orders 2 = .ok (.putfield 16, 3) := by decide +kernel
theorem dX6_orders_5 : decode cX6_orders 5 = .ok (.iconst 0, 1) := by decide +kernel
theorem dX6_orders_6 : decode cX6_orders 6 = .ok (.istore_n 2, 1) := by decide +kernel
theorem dX6_orders_7 : decode cX6_orders 7 = .ok (.iload_n 2, 1) := by decide +kernel
theorem dX6_orders_8 : decode cX6_orders 8 = .ok (.aload_n 0, 1) := by decide +kernel
theorem dX6_orders_9 : decode cX6_orders 9 = .ok (.getfield 7, 3) := by decide +kernel
theorem dX6_orders_12 : decode cX6_orders 12 = .ok (.bipush 12, 2) := by decide +kernel
theorem dX6_orders_14 : decode cX6_orders 14 = .ok (.iaload, 1) := by decide +kernel
theorem dX6_orders_15 : decode cX6_orders 15 = .ok (.if_icmp .ge 64, 3) := by decide +kernel
theorem dX6_orders_18 : decode cX6_orders 18 = .ok (.iconst 0, 1) := by decide +kernel
theorem dX6_orders_19 : decode cX6_orders 19 = .ok (.istore_n 3, 1) := by decide +kernel
theorem dX6_orders_20 : decode cX6_orders 20 = .ok (.iconst 0, 1) := by decide +kernel
theorem dX6_orders_21 : decode cX6_orders 21 = .ok (.istore 4, 2) := by decide +kernel
theorem dX6_orders_23 : decode cX6_orders 23 = .ok (.iload 4, 2) := by decide +kernel
theorem dX6_orders_25 : decode cX6_orders 25 = .ok (.aload_n 0, 1) := by decide +kernel
theorem dX6_orders_26 : decode cX6_orders 26 = .ok (.getfield 7, 3) := by decide +kernel
theorem dX6_orders_29 : decode cX6_orders 29 = .ok (.bipush 12, 2) := by decide +kernel
theorem dX6_orders_31 : decode cX6_orders 31 = .ok (.iaload, 1) := by decide +kernel
theorem dX6_orders_32 : decode cX6_orders 32 = .ok (.if_icmp .ge 34, 3) := by decide +kernel
theorem dX6_orders_35 : decode cX6_orders 35 = .ok (.iload_n 3, 1) := by decide +kernel
theorem dX6_orders_36 : decode cX6_orders 36 = .ok (.iload 4, 2) := by decide +kernel
theorem dX6_orders_38 : decode cX6_orders 38 = .ok (.iload_n 2, 1) := by decide +kernel
theorem dX6_orders_39 : decode cX6_orders 39 = .ok (.if_icmp .eq 18, 3) := by decide +kernel
theorem dX6_orders_42 : decode cX6_orders 42 = .ok (.aload_n 0, 1) := by decide +kernel
theorem dX6_orders_43 : decode cX6_orders 43 = .ok (.iload 4, 2) := by decide +kernel
theorem dX6_orders_45 : decode cX6_orders 45 = .ok (.iload_n 2, 1) := by decide +kernel
theorem dX6_orders_46 : decode cX6_orders 46 = .ok (.iload_n 1, 1) := by decide +kernel
theorem dX6_orders_47 : decode cX6_orders 47 = .ok (.invokevirtual 96, 3) := by decide +kernel
theorem dX6_orders_50 : decode cX6_orders 50 = .ok (.ifCond .eq 7, 3) := by decide +kernel
theorem dX6_orders_53 : decode cX6_orders 53 = .ok (.iconst 1, 1) := by decide +kernel
theorem dX6_orders_54 : decode cX6_orders 54 = .ok (.goto 4, 3) := by decide +kernel
theorem dX6_orders_57 : decode cX6_orders 57 = .ok (.iconst 0, 1) := by decide +kernel
theorem dX6_orders_58 : decode cX6_orders 58 = .ok (.iadd, 1) := by decide +kernel
theorem dX6_orders_59 : decode cX6_orders 59 = .ok (.istore_n 3, 1) := by decide +kernel
theorem dX6_orders_60 : decode cX6_orders 60 = .ok (.iinc 4 1, 3) := by decide +kernel
theorem dX6_orders_63 : decode cX6_orders 63 = .ok (.goto (-40), 3) := by decide +kernel
theorem dX6_orders_66 : decode cX6_orders 66 = .ok (.aload_n 0, 1) := by decide +kernel
theorem dX6_orders_67 : decode cX6_orders 67 = .ok (.getfield 13, 3) := by decide +kernel
theorem dX6_orders_70 : decode cX6_orders 70 = .ok (.iload_n 3, 1) := by decide +kernel
theorem dX6_orders_71 : decode cX6_orders 71 = .ok (.iload_n 2, 1) := by decide +kernel
theorem dX6_orders_72 : decode cX6_orders 72 = .ok (.iastore, 1) := by decide +kernel
theorem dX6_orders_73 : decode cX6_orders 73 = .ok (.iinc 2 1, 3) := by decide +kernel
theorem dX6_orders_76 : decode cX6_orders 76 = .ok (.goto (-69), 3) := by decide +kernel
theorem dX6_orders_79 : decode cX6_orders 79 = .ok (.return_, 1) := by decide +kernel
theorem dX6_turn_0 : decode cX6_turn 0 = .ok (.aload_n 0, 1) := by decide +kernel
theorem dX6_turn_1 : decode cX6_turn 1 = .ok (.iload_n 1, 1) := by decide +kernel
theorem dX6_turn_2 : decode cX6_turn 2 = .ok (.invokevirtual 77, 3) := by decide +kernel
theorem dX6_turn_5 : decode cX6_turn 5 = .ok (.ifCond .ne 5, 3) := by decide +kernel
theorem dX6_turn_8 : decode cX6_turn 8 = .ok (.iconst (-1), 1) := by decide +kernel
theorem dX6_turn_9 : decode cX6_turn 9 = .ok (.ireturn, 1) := by decide +kernel
theorem dX6_turn_10 : decode cX6_turn 10 = .ok (.aload_n 0, 1) := by decide +kernel
theorem dX6_turn_11 : decode cX6_turn 11 = .ok (.aload_n 0, 1) := by decide +kernel
theorem dX6_turn_12 : decode cX6_turn 12 = .ok (.getfield 7, 3) := by decide +kernel
theorem dX6_turn_15 : decode cX6_turn 15 = .ok (.bipush 6, 2) := by decide +kernel
theorem dX6_turn_17 : decode cX6_turn 17 = .ok (.iaload, 1) := by decide +kernel
theorem dX6_turn_18 : decode cX6_turn 18 = .ok (.invokevirtual 100, 3) := by decide +kernel
theorem dX6_turn_21 : decode cX6_turn 21 = .ok (.aload_n 0, 1) := by decide +kernel
theorem dX6_turn_22 : decode cX6_turn 22 = .ok (.getfield 13, 3) := by decide +kernel
theorem dX6_turn_25 : decode cX6_turn 25 = .ok (.iload_n 1, 1) := by decide +kernel
theorem dX6_turn_26 : decode cX6_turn 26 = .ok (.iaload, 1) := by decide +kernel
theorem dX6_turn_27 : decode cX6_turn 27 = .ok (.ireturn, 1) := by decide +kernel
theorem dX6_draws_0 : decode cX6_draws 0 = .ok (.aload_n 0, 1) := by decide +kernel
theorem dX6_draws_1 : decode cX6_draws 1 = .ok (.getfield 7, 3) := by decide +kernel
theorem dX6_draws_4 : decode cX6_draws 4 = .ok (.iconst 3, 1) := by decide +kernel
theorem dX6_draws_5 : decode cX6_draws 5 = .ok (.iaload, 1) := by decide +kernel
theorem dX6_draws_6 : decode cX6_draws 6 = .ok (.aload_n 0, 1) := by decide +kernel
theorem dX6_draws_7 : decode cX6_draws 7 = .ok (.getfield 7, 3) := by decide +kernel
