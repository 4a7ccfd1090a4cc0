theorem dX0_init_0 : decode cX0_init 0 = .ok (.aload_n 0, 1) := by decide +kernel
theorem dX0_init_1 : decode cX0_init 1 = .ok (.invokespecial 3, 3) := by decide +kernel
theorem dX0_init_4 : decode cX0_init 4 = .ok (.aload_n 0, 1) := by decide +kernel
theorem dX0_init_5 : decode cX0_init 5 = .ok (.iconst 4, 1) := by decide +kernel
theorem dX0_init_6 : decode cX0_init 6 = .ok (.putfield 9, 3) := by decide +kernel
theorem dX0_init_9 : decode cX0_init 9 = .ok (.aload_n 0, 1) := by decide +kernel
theorem dX0_init_10 : decode cX0_init 10 = .ok (.bipush 10, 2) := by decide +kernel
theorem dX0_init_12 : decode cX0_init 12 = .ok (.putfield 15, 3) := by decide +kernel
theorem dX0_init_15 : decode cX0_init 15 = .ok (.aload_n 0, 1) := by decide +kernel
theorem dX0_init_16 : decode cX0_init 16 = .ok (.iconst 4, 1) := by decide +kernel
theorem dX0_init_17 : decode cX0_init 17 = .ok (.putfield 18, 3) := by decide +kernel
theorem dX0_init_20 : decode cX0_init 20 = .ok (.aload_n 0, 1) := by decide +kernel
theorem dX0_init_21 : decode cX0_init 21 = .ok (.iconst 3, 1) := by decide +kernel
theorem dX0_init_22 : decode cX0_init 22 = .ok (.putfield 21, 3) := by decide +kernel
theorem dX0_init_25 : decode cX0_init 25 = .ok (.aload_n 0, 1) := by decide +kernel
theorem dX0_init_26 : decode cX0_init 26 = .ok (.bipush (-4), 2) := by decide +kernel
theorem dX0_init_28 : decode cX0_init 28 = .ok (.putfield 24, 3) := by decide +kernel
theorem dX0_init_31 : decode cX0_init 31 = .ok (.aload_n 0, 1) := by decide +kernel
theorem dX0_init_32 : decode cX0_init 32 = .ok (.bipush 7, 2) := by decide +kernel
theorem dX0_init_34 : decode cX0_init 34 = .ok (.newarray .int, 2) := by decide +kernel
theorem dX0_init_36 : decode cX0_init 36 = .ok (.putfield 27, 3) := by decide +kernel
theorem dX0_init_39 : decode cX0_init 39 = .ok (.aload_n 0, 1) := by decide +kernel
theorem dX0_init_40 : decode cX0_init 40 = .ok (.bipush 7, 2) := by decide +kernel
theorem dX0_init_42 : decode cX0_init 42 = .ok (.newarray .int, 2) := by decide +kernel
theorem dX0_init_44 : decode cX0_init 44 = .ok (.putfield 31, 3) := by decide +kernel
theorem dX0_init_47 : decode cX0_init 47 = .ok (.aload_n 0, 1) := by decide +kernel
theorem dX0_init_48 : decode cX0_init 48 = .ok (.bipush 7, 2) := by decide +kernel
theorem dX0_init_50 : decode cX0_init 50 = .ok (.newarray .int, 2) := by decide +kernel
theorem dX0_init_52 : decode cX0_init 52 = .ok (.putfield 34, 3) := by decide +kernel
theorem dX0_init_55 : decode cX0_init 55 = .ok (.aload_n 0, 1) := by decide +kernel
theorem dX0_init_56 : decode cX0_init 56 = .ok (.bipush 7, 2) := by decide +kernel
theorem dX0_init_58 : decode cX0_init 58 = .ok (.newarray .int, 2) := by decide +kernel
theorem dX0_init_60 : decode cX0_init 60 = .ok (.putfield 37, 3) := by decide +kernel
theorem dX0_init_63 : decode cX0_init 63 = .ok (.aload_n 0, 1) := by decide +kernel
theorem dX0_init_64 : decode cX0_init 64 = .ok (.bipush 7, 2) := by decide +kernel
theorem dX0_init_66 : decode cX0_init 66 = .ok (.newarray .int, 2) := by decide +kernel
theorem dX0_init_68 : decode cX0_init 68 = .ok (.putfield 40, 3) := by decide +kernel
theorem dX0_init_71 : decode cX0_init 71 = .ok (.return_, 1) := by decide +kernel
theorem dX0_takeFrom_0 : decode cX0_takeFrom 0 = .ok (.aload_n 0, 1) := by decide +kernel
theorem dX0_takeFrom_1 : decode cX0_takeFrom 1 = .ok (.aload_n 1, 1) := by decide +kernel
theorem dX0_takeFrom_2 : decode cX0_takeFrom 2 = .ok (.getfield 9, 3) := by decide +kernel
theorem dX0_takeFrom_5 : decode cX0_takeFrom 5 = .ok (.putfield 9, 3) := by decide +kernel
theorem dX0_takeFrom_8 : decode cX0_takeFrom 8 = .ok (.aload_n 0, 1) := by decide +kernel
theorem dX0_takeFrom_9 : decode cX0_takeFrom 9 = .ok (.aload_n 1, 1) := by decide +kernel
theorem dX0_takeFrom_10 : decode cX0_takeFrom 10 = .ok (.getfield 15, 3) := by decide +kernel
theorem dX0_takeFrom_13 : decode cX0_takeFrom 13 = .ok (.putfield 15, 3) := by decide +kernel
theorem dX0_takeFrom_16 : decode cX0_takeFrom 16 = .ok (.aload_n 0, 1) := by decide +kernel
theorem dX0_takeFrom_17 : decode cX0_takeFrom 17 = .ok (.aload_n 1, 1) := by decide +kernel
theorem dX0_takeFrom_18 : decode cX0_takeFrom 18 = .ok (.getfield 18, 3) := by decide +kernel
theorem dX0_takeFrom_21 : decode cX0_takeFrom 21 = .ok (.putfield 18, 3) := by decide +kernel
theorem dX0_takeFrom_24 : decode cX0_takeFrom 24 = .ok (.aload_n 0, 1) := by decide +kernel
theorem dX0_takeFrom_25 : decode cX0_takeFrom 25 = .ok (.aload_n 1, 1) := by decide +kernel
theorem dX0_takeFrom_26 : decode cX0_takeFrom 26 = .ok (.getfield 21, 3) := by decide +kernel
theorem dX0_takeFrom_29 : decode cX0_takeFrom 29 = .ok (.putfield 21, 3) := by decide +kernel
theorem dX0_takeFrom_32 : decode cX0_takeFrom 32 = .ok (.aload_n 0, 1) := by decide +kernel
theorem dX0_takeFrom_33 : decode cX0_takeFrom 33 = .ok (.aload_n 1, 1) := by decide +kernel
theorem dX0_takeFrom_34 : decode cX0_takeFrom 34 = .ok (.getfield 43, 3) := by decide +kernel
theorem dX0_takeFrom_37 : decode cX0_takeFrom 37 = .ok (.putfield 43, 3) := by decide +kernel
theorem dX0_takeFrom_40 : decode cX0_takeFrom 40 = .ok (.aload_n 0, 1) := by decide +kernel
theorem dX0_takeFrom_41 : decode cX0_takeFrom 41 = .ok (.aload_n 1, 1) := by decide +kernel
theorem dX0_takeFrom_42 : decode cX0_takeFrom 42 = .ok (.getfield 46, 3) := by decide +kernel
theorem dX0_takeFrom_45 : decode cX0_takeFrom 45 = .ok (.putfield 46, 3) := by decide +kernel
theorem dX0_takeFrom_48 : decode cX0_takeFrom 48 = .ok (.aload_n 0, 1) := by decide +kernel
theorem dX0_takeFrom_49 : decode cX0_takeFrom 49 = .ok (.aload_n 1, 1) := by decide +kernel
theorem dX0_takeFrom_50 : decode cX0_takeFrom 50 = .ok (.getfield 24, 3) := by decide +kernel
theorem dX0_takeFrom_53 : decode cX0_takeFrom 53 = .ok (.putfield 24, 3) := by decide +kernel
theorem dX0_takeFrom_56 : decode cX0_takeFrom 56 = .ok (.aload_n 0, 1) := by decide +kernel
theorem dX0_takeFrom_57 : decode cX0_takeFrom 57 = .ok (.aload_n 1, 1) := by decide +kernel
theorem dX0_takeFrom_58 : decode cX0_takeFrom 58 = .ok (.getfield 49, 3) := by decide +kernel
theorem dX0_takeFrom_61 : decode cX0_takeFrom 61 = .ok (.putfield 49, 3) := by decide +kernel
theorem dX0_takeFrom_64 : decode cX0_takeFrom 64 = .ok (.aload_n 1, 1) := by decide +kernel
theorem dX0_takeFrom_65 : decode cX0_takeFrom 65 = .ok (.getfield 27, 3) := by decide +kernel
theorem dX0_takeFrom_68 : decode cX0_takeFrom 68 = .ok (.iconst 0, 1) := by decide +kernel
theorem dX0_takeFrom_69 : decode cX0_takeFrom 69 = .ok (.aload_n 0, 1) := by decide +kernel
theorem dX0_takeFrom_70 : decode cX0_takeFrom 70 = .ok (.getfield 27, 3) := by decide +kernel
theorem dX0_takeFrom_73 : decode cX0_takeFrom 73 = .ok (.iconst 0, 1) := by decide +kernel
theorem dX0_takeFrom_74 : decode cX0_takeFrom 74 = .ok (.bipush 7, 2) := by decide +kernel
theorem dX0_takeFrom_76 : decode cX0_takeFrom 76 = .ok (.invokestatic 52, 3) := by decide +kernel
theorem dX0_takeFrom_79 : decode cX0_takeFrom 79 = .ok (.aload_n 1, 1) := by decide +kernel
theorem dX0_takeFrom_80 : decode cX0_takeFrom 80 = .ok (.getfield 31, 3) := by decide +kernel
theorem dX0_takeFrom_83 : decode cX0_takeFrom 83 = .ok (.iconst 0, 1) := by decide +kernel
theorem dX0_takeFrom_84 : decode cX0_takeFrom 84 = .ok (.aload_n 0, 1) := by decide +kernel
theorem dX0_takeFrom_85 : decode cX0_takeFrom 85 = .ok (.getfield 31, 3) := by decide +kernel
theorem dX0_takeFrom_88 : decode cX0_takeFrom 88 = .ok (.iconst 0, 1) := by decide +kernel
theorem dX0_takeFrom_89 : decode cX0_takeFrom 89 = .ok (.bipush 7, 2) := by decide +kernel
theorem dX0_takeFrom_91 : decode cX0_takeFrom 91 = .ok (.invokestatic 52, 3) := by decide +kernel
theorem dX0_takeFrom_94 : decode cX0_takeFrom 94 = .ok (.aload_n 1, 1) := by decide +kernel
theorem dX0_takeFrom_95 : decode cX0_takeFrom 95 = .ok (.getfield 34, 3) := by decide +kernel
theorem dX0_takeFrom_98 : decode cX0_takeFrom 98 = .ok (.iconst 0, 1) := by decide +kernel
theorem dX0_takeFrom_99 : decode cX0_takeFrom 99 = .ok (.aload_n 0, 1) := by decide +kernel
theorem dX0_takeFrom_100 : decode cX0_takeFrom 100 = .ok (.getfield 34, 3) := by decide +kernel
theorem dX0_takeFrom_103 : decode cX0_takeFrom 103 = .ok (.iconst 0, 1) := by decide +kernel
theorem dX0_takeFrom_104 : decode cX0_takeFrom 104 = .ok (.bipush 7, 2) := by decide +kernel
theorem dX0_takeFrom_106 : decode cX0_takeFrom 106 = .ok (.invokestatic 52, 3) := by decide +kernel
theorem dX0_takeFrom_109 : decode cX0_takeFrom 109 = .ok (.aload_n 1, 1) := by decide +kernel
theorem dX0_takeFrom_110 : decode cX0_takeFrom 110 = .ok (.getfield 37, 3) := by decide +kernel
theorem dX0_takeFrom_113 : decode cX0_takeFrom 113 = .ok (.iconst 0, 1) := by decide +kernel
theorem dX0_takeFrom_114 : decode cX0_takeFrom 114 = .ok (.aload_n 0, 1) := by decide +kernel
theorem dX0_takeFrom_115 : decode cX0_takeFrom 115 = .ok (.getfield 37, 3) := by decide +kernel
theorem dX0_takeFrom_118 : decode cX0_takeFrom 118 = .ok (.iconst 0, 1) := by decide +kernel
theorem dX0_takeFrom_119 : decode cX0_takeFrom 119 = .ok (.bipush 7, 2) := by decide +kernel
theorem dX0_takeFrom_121 : decode cX0_takeFrom 121 = .ok (.invokestatic 52, 3) := by decide +kernel
theorem dX0_takeFrom_124 : decode cX0_takeFrom 124 = .ok (.return_, 1) := by decide +kernel
theorem dX0_lacks_0 : decode cX0_lacks 0 = .ok (.iload_n 1, 1) := by decide +kernel
theorem dX0_lacks_1 : decode cX0_lacks 1 = .ok (.ifCond .lt 11, 3) := by decide +kernel
theorem dX0_lacks_4 : decode cX0_lacks 4 = .ok (.iload_n 1, 1) := by decide +kernel
theorem dX0_lacks_5 : decode cX0_lacks 5 = .ok (.aload_n 0, 1) := by decide +kernel
theorem dX0_lacks_6 : decode cX0_lacks 6 = .ok (.getfield 49, 3) := by decide +kernel
theorem dX0_lacks_9 : decode cX0_lacks 9 = .ok (.if_icmp .lt 7, 3) := by decide +kernel
theorem dX0_lacks_12 : decode cX0_lacks 12 = .ok (.iconst 1, 1) := by decide +kernel
theorem dX0_lacks_13 : decode cX0_lacks 13 = .ok (.goto 4, 3) := by decide +kernel
theorem dX0_lacks_16 : decode cX0_lacks 16 = .ok (.iconst 0, 1) := by decide +kernel
theorem dX0_lacks_17 : decode cX0_lacks 17 = .ok (.ireturn, 1) := by decide +kernel
theorem dX0_add_0 : decode cX0_add 0 = .ok (.aload_n 0, 1) := by decide +kernel
theorem dX0_add_1 : decode cX0_add 1 = .ok (.getfield 49, 3) := by decide +kernel
theorem dX0_add_4 : decode cX0_add 4 = .ok (.bipush 7, 2) := by decide +kernel
theorem dX0_add_6 : decode cX0_add 6 = .ok (.if_icmp .ge 68, 3) := by decide +kernel
theorem dX0_add_9 : decode cX0_add 9 = .ok (.aload_n 0, 1) := by decide +kernel
theorem dX0_add_10 : decode cX0_add 10 = .ok (.getfield 27, 3) := by decide +kernel
theorem dX0_add_13 : decode cX0_add 13 = .ok (.aload_n 0, 1) := by decide +kernel
theorem dX0_add_14 : decode cX0_add 14 = .ok (.getfield 49, 3) := by decide +kernel
theorem dX0_add_17 : decode cX0_add 17 = .ok (.iload_n 1, 1) := by decide +kernel
theorem dX0_add_18 : decode cX0_add 18 = .ok (.iastore, 1) := by decide +kernel
theorem dX0_add_19 : decode cX0_add 19 = .ok (.aload_n 0, 1) := by decide +kernel
theorem dX0_add_20 : decode cX0_add 20 = .ok (.getfield 31, 3) := by decide +kernel
theorem dX0_add_23 : decode cX0_add 23 = .ok (.aload_n 0, 1) := by decide +kernel
theorem dX0_add_24 : decode cX0_add 24 = .ok (.getfield 49, 3) := by decide +kernel
theorem dX0_add_27 : decode cX0_add 27 = .ok (.iload_n 2, 1) := by decide +kernel
theorem dX0_add_28 : decode cX0_add 28 = .ok (.iastore, 1) := by decide +kernel
theorem dX0_add_29 : decode cX0_add 29 = .ok (.aload_n 0, 1) := by decide +kernel
theorem dX0_add_30 : decode cX0_add 30 = .ok (.getfield 34, 3) := by decide +kernel
theorem dX0_add_33 : decode cX0_add 33 = .ok (.aload_n 0, 1) := by decide +kernel
theorem dX0_add_34 : decode cX0_add 34 = .ok (.getfield 49, 3) := by decide +kernel
theorem dX0_add_37 : decode cX0_add 37 = .ok (.iload_n 3, 1) := by decide +kernel
theorem dX0_add_38 : decode cX0_add 38 = .ok (.iastore, 1) := by decide +kernel
theorem dX0_add_39 : decode cX0_add 39 = .ok (.aload_n 0, 1) := by decide +kernel
theorem dX0_add_40 : decode cX0_add 40 = .ok (.getfield 37, 3) := by decide +kernel
theorem dX0_add_43 : decode cX0_add 43 = .ok (.aload_n 0, 1) := by decide +kernel
theorem dX0_add_44 : decode cX0_add 44 = .ok (.getfield 49, 3) := by decide +kernel
theorem dX0_add_47 : decode cX0_add 47 = .ok (.iconst 3, 1) := by decide +kernel
theorem dX0_add_48 : decode cX0_add 48 = .ok (.iload_n 2, 1) := by decide +kernel
theorem dX0_add_49 : decode cX0_add 49 = .ok (.imul, 1) := by decide +kernel
theorem dX0_add_50 : decode cX0_add 50 = .ok (.iload_n 1, 1) := by decide +kernel
theorem dX0_add_51 : decode cX0_add 51 = .ok (.invokestatic 58, 3) := by decide +kernel
theorem dX0_add_54 : decode cX0_add 54 = .ok (.ifCond .eq 7, 3) := by decide +kernel
theorem dX0_add_57 : decode cX0_add 57 = .ok (.iconst 5, 1) := by decide +kernel
theorem dX0_add_58 : decode cX0_add 58 = .ok (.goto 4, 3) := by decide +kernel
theorem dX0_add_61 : decode cX0_add 61 = .ok (.iconst 0, 1) := by decide +kernel
theorem dX0_add_62 : decode cX0_add 62 = .ok (.iadd, 1) := by decide +kernel
theorem dX0_add_63 : decode cX0_add 63 = .ok (.iastore, 1) := by decide +kernel
theorem dX0_add_64 : decode cX0_add 64 = .ok (.aload_n 0, 1) := by decide +kernel
theorem dX0_add_65 : decode cX0_add 65 = .ok (.dup, 1) := by decide +kernel
theorem dX0_add_66 : decode cX0_add 66 = .ok (.getfield 49, 3) := by decide +kernel
theorem dX0_add_69 : decode cX0_add 69 = .ok (.iconst 1, 1) := by decide +kernel
theorem dX0_add_70 : decode cX0_add 70 = .ok (.iadd, 1) := by decide +kernel
theorem dX0_add_71 : decode cX0_add 71 = .ok (.putfield 49, 3) := by decide +kernel
theorem dX0_add_74 : decode cX0_add 74 = .ok (.return_, 1) := by decide +kernel
theorem dX0_arrange_0 : decode cX0_arrange 0 = .ok (.aload_n 0, 1) := by decide +kernel
theorem dX0_arrange_1 : decode cX0_arrange 1 = .ok (.iconst 0, 1) := by decide +kernel
theorem dX0_arrange_2 : decode cX0_arrange 2 = .ok (.putfield 62, 3) := by decide +kernel
theorem dX0_arrange_5 : decode cX0_arrange 5 = .ok (.aload_n 0, 1) := by decide +kernel
theorem dX0_arrange_6 : decode cX0_arrange 6 = .ok (.getfield 46, 3) := by decide +kernel
theorem dX0_arrange_9 : decode cX0_arrange 9 = .ok (.tableswitch 54 1 3 #[27, 34, 47], 27) := by decide +kernel
theorem dX0_arrange_36 : decode cX0_arrange 36 = .ok (.aload_n 0, 1) := by decide +kernel
theorem dX0_arrange_37 : decode cX0_arrange 37 = .ok (.invokevirtual 65, 3) := by decide +kernel
theorem dX0_arrange_40 : decode cX0_arrange 40 = .ok (.goto 27, 3) := by decide +kernel
theorem dX0_arrange_43 : decode cX0_arrange 43 = .ok (.aload_n 0, 1) := by decide +kernel
theorem dX0_arrange_44 : decode cX0_arrange 44 = .ok (.iconst 1, 1) := by decide +kernel
theorem dX0_arrange_45 : decode cX0_arrange 45 = .ok (.invokevirtual 68, 3) := by decide +kernel
theorem dX0_arrange_48 : decode cX0_arrange 48 = .ok (.aload_n 0, 1) := by decide +kernel
theorem dX0_arrange_49 : decode cX0_arrange 49 = .ok (.iconst 0, 1) := by decide +kernel
theorem dX0_arrange_50 : decode cX0_arrange 50 = .ok (.invokevirtual 68, 3) := by decide +kernel
theorem dX0_arrange_53 : decode cX0_arrange 53 = .ok (.goto 14, 3) := by decide +kernel
theorem dX0_arrange_56 : decode cX0_arrange 56 = .ok (.aload_n 0, 1) := by decide +kernel
theorem dX0_arrange_57 : decode cX0_arrange 57 = .ok (.invokevirtual 72, 3) := by decide +kernel
theorem dX0_arrange_60 : decode cX0_arrange 60 = .ok (.goto 7, 3) := by decide +kernel
theorem dX0_arrange_63 : decode cX0_arrange 63 = .ok (.aload_n 0, 1) := by decide +kernel
theorem dX0_arrange_64 : decode cX0_arrange 64 = .ok (.invokevirtual 75, 3) := by decide +kernel
theorem dX0_arrange_67 : decode cX0_arrange 67 = .ok (.return_, 1) := by decide +kernel
theorem dX0_lineAsTheyCome_0 : decode cX0_lineAsTheyCome 0 = .ok (.iconst 0, 1) := by decide +kernel
theorem dX0_lineAsTheyCome_1 : decode cX0_lineAsTheyCome 1 = .ok (.istore_n 1, 1) := by decide +kernel
theorem dX0_lineAsTheyCome_2 : decode cX0_lineAsTheyCome 2 = .ok (.iload_n 1, 1) := by decide +kernel
theorem dX0_lineAsTheyCome_3 : decode cX0_lineAsTheyCome 3 = .ok (.aload_n 0, 1) := by decide +kernel
theorem dX0_lineAsTheyCome_4 : decode cX0_lineAsTheyCome 4 = .ok (.getfield 49, 3) := by decide +kernel
theorem dX0_lineAsTheyCome_7 : decode cX0_lineAsTheyCome 7 = .ok (.if_icmp .ge 14, 3) := by decide +kernel
theorem dX0_lineAsTheyCome_10 : decode cX0_lineAsTheyCome 10 = .ok (.aload_n 0, 1) := by decide +kernel
theorem dX0_lineAsTheyCome_11 : decode cX0_lineAsTheyCome 11 = .ok (.iload_n 1, 1) := by decide +kernel
theorem dX0_lineAsTheyCome_12 : decode cX0_lineAsTheyCome 12 = .ok (.invokevirtual 78, 3) := by decide +kernel
theorem dX0_lineAsTheyCome_15 : decode cX0_lineAsTheyCome 15 = .ok (.iinc 1 1, 3) := by decide +kernel
theorem dX0_lineAsTheyCome_18 : decode cX0_lineAsTheyCome 18 = .ok (.goto (-16), 3) := by decide +kernel
theorem dX0_lineAsTheyCome_21 : decode cX0_lineAsTheyCome 21 = .ok (.return_, 1) := by decide +kernel
theorem dX0_lineByDays_0 : decode cX0_lineByDays 0 = .ok (.bipush 9, 2) := by decide +kernel
theorem dX0_lineByDays_2 : decode cX0_lineByDays 2 = .ok (.istore_n 1, 1) := by decide +kernel
theorem dX0_lineByDays_3 : decode cX0_lineByDays 3 = .ok (.iload_n 1, 1) := by decide +kernel
theorem dX0_lineByDays_4 : decode cX0_lineByDays 4 = .ok (.iconst 1, 1) := by decide +kernel
theorem dX0_lineByDays_5 : decode cX0_lineByDays 5 = .ok (.if_icmp .lt 40, 3) := by decide +kernel
theorem dX0_lineByDays_8 : decode cX0_lineByDays 8 = .ok (.iconst 0, 1) := by decide +kernel
theorem dX0_lineByDays_9 : decode cX0_lineByDays 9 = .ok (.istore_n 2, 1) := by decide +kernel
theorem dX0_lineByDays_10 : decode cX0_lineByDays 10 = .ok (.iload_n 2, 1) := by decide +kernel
theorem dX0_lineByDays_11 : decode cX0_lineByDays 11 = .ok (.aload_n 0, 1) := by decide +kernel
theorem dX0_lineByDays_12 : decode cX0_lineByDays 12 = .ok (.getfield 49, 3) := by decide +kernel
theorem dX0_lineByDays_15 : decode cX0_lineByDays 15 = .ok (.if_icmp .ge 24, 3) := by decide +kernel
theorem dX0_lineByDays_18 : decode cX0_lineByDays 18 = .ok (.aload_n 0, 1) := by decide +kernel
theorem dX0_lineByDays_19 : decode cX0_lineByDays 19 = .ok (.getfield 31, 3) := by decide +kernel
theorem dX0_lineByDays_22 : decode cX0_lineByDays 22 = .ok (.iload_n 2, 1) := by decide +kernel
theorem dX0_lineByDays_23 : decode cX0_lineByDays 23 = .ok (.iaload, 1) := by decide +kernel
theorem dX0_lineByDays_24 : decode cX0_lineByDays 24 = .ok (.iload_n 1, 1) := by decide +kernel
theorem dX0_lineByDays_25 : decode cX0_lineByDays 25 = .ok (.if_icmp .ne 8, 3) := by decide +kernel
theorem dX0_lineByDays_28 : decode cX0_lineByDays 28 = .ok (.aload_n 0, 1) := by decide +kernel
theorem dX0_lineByDays_29 : decode cX0_lineByDays 29 = .ok (.iload_n 2, 1) := by decide +kernel
theorem dX0_lineByDays_30 : decode cX0_lineByDays 30 = .ok (.invokevirtual 78, 3) := by decide +kernel
theorem dX0_lineByDays_33 : decode cX0_lineByDays 33 = .ok (.iinc 2 1, 3) := by decide +kernel
theorem dX0_lineByDays_36 : decode cX0_lineByDays 36 = .ok (.goto (-26), 3) := by decide +kernel
theorem dX0_lineByDays_39 : decode cX0_lineByDays 39 = .ok (.iinc 1 (-1), 3) := by decide +kernel
theorem dX0_lineByDays_42 : decode cX0_lineByDays 42 = .ok (.goto (-39), 3) := by decide +kernel
theorem dX0_lineByDays_45 : decode cX0_lineByDays 45 = .ok (.return_, 1) := by decide +kernel
theorem dX0_lineMilky_0 : decode cX0_lineMilky 0 = .ok (.iconst 0, 1) := by decide +kernel
theorem dX0_lineMilky_1 : decode cX0_lineMilky 1 = .ok (.istore_n 2, 1) := by decide +kernel
theorem dX0_lineMilky_2 : decode cX0_lineMilky 2 = .ok (.iload_n 2, 1) := by decide +kernel
theorem dX0_lineMilky_3 : decode cX0_lineMilky 3 = .ok (.aload_n 0, 1) := by decide +kernel
theorem dX0_lineMilky_4 : decode cX0_lineMilky 4 = .ok (.getfield 49, 3) := by decide +kernel
theorem dX0_lineMilky_7 : decode cX0_lineMilky 7 = .ok (.if_icmp .ge 27, 3) := by decide +kernel
theorem dX0_lineMilky_10 : decode cX0_lineMilky 10 = .ok (.aload_n 0, 1) := by decide +kernel
theorem dX0_lineMilky_11 : decode cX0_lineMilky 11 = .ok (.getfield 27, 3) := by decide +kernel
theorem dX0_lineMilky_14 : decode cX0_lineMilky 14 = .ok (.iload_n 2, 1) := by decide +kernel
theorem dX0_lineMilky_15 : decode cX0_lineMilky 15 = .ok (.iaload, 1) := by decide +kernel
theorem dX0_lineMilky_16 : decode cX0_lineMilky 16 = .ok (.invokestatic 58, 3) := by decide +kernel
theorem dX0_lineMilky_19 : decode cX0_lineMilky 19 = .ok (.iload_n 1, 1) := by decide +kernel
theorem dX0_lineMilky_20 : decode cX0_lineMilky 20 = .ok (.if_icmp .ne 8, 3) := by decide +kernel
theorem dX0_lineMilky_23 : decode cX0_lineMilky 23 = .ok (.aload_n 0, 1) := by decide +kernel
theorem dX0_lineMilky_24 : decode cX0_lineMilky 24 = .ok (.iload_n 2, 1) := by decide +kernel
theorem dX0_lineMilky_25 : decode cX0_lineMilky 25 = .ok (.invokevirtual 78, 3) := by decide +kernel
theorem dX0_lineMilky_28 : decode cX0_lineMilky 28 = .ok (.iinc 2 1, 3) := by decide +kernel
theorem dX0_lineMilky_31 : decode cX0_lineMilky 31 = .ok (.goto (-29), 3) := by decide +kernel
theorem dX0_lineMilky_34 : decode cX0_lineMilky 34 = .ok (.return_, 1) := by decide +kernel
theorem dX0_lineByTurns_0 : decode cX0_lineByTurns 0 = .ok (.aload_n 0, 1) := by decide +kernel
theorem dX0_lineByTurns_1 : decode cX0_lineByTurns 1 = .ok (.iconst 0, 1) := by decide +kernel
theorem dX0_lineByTurns_2 : decode cX0_lineByTurns 2 = .ok (.iconst 0, 1) := by decide +kernel
theorem dX0_lineByTurns_3 : decode cX0_lineByTurns 3 = .ok (.invokevirtual 82, 3) := by decide +kernel
theorem dX0_lineByTurns_6 : decode cX0_lineByTurns 6 = .ok (.istore_n 1, 1) := by decide +kernel
theorem dX0_lineByTurns_7 : decode cX0_lineByTurns 7 = .ok (.aload_n 0, 1) := by decide +kernel
theorem dX0_lineByTurns_8 : decode cX0_lineByTurns 8 = .ok (.iconst 1, 1) := by decide +kernel
theorem dX0_lineByTurns_9 : decode cX0_lineByTurns 9 = .ok (.iconst 0, 1) := by decide +kernel
theorem dX0_lineByTurns_10 : decode cX0_lineByTurns 10 = .ok (.invokevirtual 82, 3) := by decide +kernel
theorem dX0_lineByTurns_13 : decode cX0_lineByTurns 13 = .ok (.istore_n 2, 1) := by decide +kernel
theorem dX0_lineByTurns_14 : decode cX0_lineByTurns 14 = .ok (.iconst 0, 1) := by decide +kernel
theorem dX0_lineByTurns_15 : decode cX0_lineByTurns 15 = .ok (.istore_n 3, 1) := by decide +kernel
theorem dX0_lineByTurns_16 : decode cX0_lineByTurns 16 = .ok (.iload_n 3, 1) := by decide +kernel
theorem dX0_lineByTurns_17 : decode cX0_lineByTurns 17 = .ok (.aload_n 0, 1) := by decide +kernel
theorem dX0_lineByTurns_18 : decode cX0_lineByTurns 18 = .ok (.getfield 49, 3) := by decide +kernel
theorem dX0_lineByTurns_21 : decode cX0_lineByTurns 21 = .ok (.if_icmp .ge 53, 3) := by decide +kernel
theorem dX0_lineByTurns_24 : decode cX0_lineByTurns 24 = .ok (.iload_n 1, 1) := by decide +kernel
theorem dX0_lineByTurns_25 : decode cX0_lineByTurns 25 = .ok (.aload_n 0, 1) := by decide +kernel
theorem dX0_lineByTurns_26 : decode cX0_lineByTurns 26 = .ok (.getfield 49, 3) := by decide +kernel
theorem dX0_lineByTurns_29 : decode cX0_lineByTurns 29 = .ok (.if_icmp .ge 17, 3) := by decide +kernel
theorem dX0_lineByTurns_32 : decode cX0_lineByTurns 32 = .ok (.aload_n 0, 1) := by decide +kernel
theorem dX0_lineByTurns_33 : decode cX0_lineByTurns 33 = .ok (.iload_n 1, 1) := by decide +kernel
theorem dX0_lineByTurns_34 : decode cX0_lineByTurns 34 = .ok (.invokevirtual 78, 3) := by decide +kernel
theorem dX0_lineByTurns_37 : decode cX0_lineByTurns 37 = .ok (.aload_n 0, 1) := by decide +kernel
theorem dX0_lineByTurns_38 : decode cX0_lineByTurns 38 = .ok (.iconst 0, 1) := by decide +kernel
theorem dX0_lineByTurns_39 : decode cX0_lineByTurns 39 = .ok (.iload_n 1, 1) := by decide +kernel
theorem dX0_lineByTurns_40 : decode cX0_lineByTurns 40 = .ok (.iconst 1, 1) := by decide +kernel
theorem dX0_lineByTurns_41 : decode cX0_lineByTurns 41 = .ok (.iadd, 1) := by decide +kernel
theorem dX0_lineByTurns_42 : decode cX0_lineByTurns 42 = .ok (.invokevirtual 82, 3) := by decide +kernel
theorem dX0_lineByTurns_45 : decode cX0_lineByTurns 45 = .ok (.istore_n 1, 1) := by decide +kernel
theorem dX0_lineByTurns_46 : decode cX0_lineByTurns 46 = .ok (.iload_n 2, 1) := by decide +kernel
theorem dX0_lineByTurns_47 : decode cX0_lineByTurns 47 = .ok (.aload_n 0, 1) := by decide +kernel
theorem dX0_lineByTurns_48 : decode cX0_lineByTurns 48 = .ok (.getfield 49, 3) := by decide +kernel
theorem dX0_lineByTurns_51 : decode cX0_lineByTurns 51 = .ok (.if_icmp .ge 17, 3) := by decide +kernel
theorem dX0_lineByTurns_54 : decode cX0_lineByTurns 54 = .ok (.aload_n 0, 1) := by decide +kernel
theorem dX0_lineByTurns_55 : decode cX0_lineByTurns 55 = .ok (.iload_n 2, 1) := by decide +kernel
theorem dX0_lineByTurns_56 : decode cX0_lineByTurns 56 = .ok (.invokevirtual 78, 3) := by decide +kernel
theorem dX0_lineByTurns_59 : decode cX0_lineByTurns 59 = .ok (.aload_n 0, 1) := by decide +kernel
theorem dX0_lineByTurns_60 : decode cX0_lineByTurns 60 = .ok (.iconst 1, 1) := by decide +kernel
theorem dX0_lineByTurns_61 : decode cX0_lineByTurns 61 = .ok (.iload_n 2, 1) := by decide +kernel
theorem dX0_lineByTurns_62 : decode cX0_lineByTurns 62 = .ok (.iconst 1, 1) := by decide +kernel
theorem dX0_lineByTurns_63 : decode cX0_lineByTurns 63 = .ok (.iadd, 1) := by decide +kernel
theorem dX0_lineByTurns_64 : decode cX0_lineByTurns 64 = .ok (.invokevirtual 82, 3) := by decide +kernel
theorem dX0_lineByTurns_67 : decode cX0_lineByTurns 67 = .ok (.istore_n 2, 1) := by decide +kernel
theorem dX0_lineByTurns_68 : decode cX0_lineByTurns 68 = .ok (.iinc 3 1, 3) := by decide +kernel
theorem dX0_lineByTurns_71 : decode cX0_lineByTurns 71 = .ok (.goto (-55), 3) := by decide +kernel
theorem dX0_lineByTurns_74 : decode cX0_lineByTurns 74 = .ok (.return_, 1) := by decide +kernel
theorem dX0_nextOf_0 : decode cX0_nextOf 0 = .ok (.iload_n 2, 1) := by decide +kernel
theorem dX0_nextOf_1 : decode cX0_nextOf 1 = .ok (.istore_n 3, 1) := by decide +kernel
theorem dX0_nextOf_2 : decode cX0_nextOf 2 = .ok (.iload_n 3, 1) := by decide +kernel
theorem dX0_nextOf_3 : decode cX0_nextOf 3 = .ok (.aload_n 0, 1) := by decide +kernel
theorem dX0_nextOf_4 : decode cX0_nextOf 4 = .ok (.getfield 49, 3) := by decide +kernel
theorem dX0_nextOf_7 : decode cX0_nextOf 7 = .ok (.if_icmp .ge 21, 3) := by decide +kernel
theorem dX0_nextOf_10 : decode cX0_nextOf 10 = .ok (.aload_n 0, 1) := by decide +kernel
theorem dX0_nextOf_11 : decode cX0_nextOf 11 = .ok (.getfield 34, 3) := by decide +kernel
theorem dX0_nextOf_14 : decode cX0_nextOf 14 = .ok (.iload_n 3, 1) := by decide +kernel
theorem dX0_nextOf_15 : decode cX0_nextOf 15 = .ok (.iaload, 1) := by decide +kernel
theorem dX0_nextOf_16 : decode cX0_nextOf 16 = .ok (.iload_n 1, 1) := by decide +kernel
theorem dX0_nextOf_17 : decode cX0_nextOf 17 = .ok (.if_icmp .ne 5, 3) := by decide +kernel
theorem dX0_nextOf_20 : decode cX0_nextOf 20 = .ok (.iload_n 3, 1) := by decide +kernel
theorem dX0_nextOf_21 : decode cX0_nextOf 21 = .ok (.ireturn, 1) := by decide +kernel
theorem dX0_nextOf_22 : decode cX0_nextOf 22 = .ok (.iinc 3 1, 3) := by decide +kernel
theorem dX0_nextOf_25 : decode cX0_nextOf 25 = .ok (.goto (-23), 3) := by decide +kernel
theorem dX0_nextOf_28 : decode cX0_nextOf 28 = .ok (.aload_n 0, 1) := by decide +kernel
theorem dX0_nextOf_29 : decode cX0_nextOf 29 = .ok (.getfield 49, 3) := by decide +kernel
theorem dX0_nextOf_32 : decode cX0_nextOf 32 = .ok (.ireturn, 1) := by decide +kernel
theorem dX0_lineUp_0 : decode cX0_lineUp 0 = .ok (.aload_n 0, 1) := by decide +kernel
theorem dX0_lineUp_1 : decode cX0_lineUp 1 = .ok (.getfield 62, 3) := by decide +kernel
theorem dX0_lineUp_4 : decode cX0_lineUp 4 = .ok (.bipush 7, 2) := by decide +kernel
theorem dX0_lineUp_6 : decode cX0_lineUp 6 = .ok (.if_icmp .ge 23, 3) := by decide +kernel
theorem dX0_lineUp_9 : decode cX0_lineUp 9 = .ok (.aload_n 0, 1) := by decide +kernel
theorem dX0_lineUp_10 : decode cX0_lineUp 10 = .ok (.getfield 40, 3) := by decide +kernel
theorem dX0_lineUp_13 : decode cX0_lineUp 13 = .ok (.aload_n 0, 1) := by decide +kernel
theorem dX0_lineUp_14 : decode cX0_lineUp 14 = .ok (.getfield 62, 3) := by decide +kernel
theorem dX0_lineUp_17 : decode cX0_lineUp 17 = .ok (.iload_n 1, 1) := by decide +kernel
theorem dX0_lineUp_18 : decode cX0_lineUp 18 = .ok (.iastore, 1) := by decide +kernel
theorem dX0_lineUp_19 : decode cX0_lineUp 19 = .ok (.aload_n 0, 1) := by decide +kernel
theorem dX0_lineUp_20 : decode cX0_lineUp 20 = .ok (.dup, 1) := by decide +kernel
theorem dX0_lineUp_21 : decode cX0_lineUp 21 = .ok (.getfield 62, 3) := by decide +kernel
theorem dX0_lineUp_24 : decode cX0_lineUp 24 = .ok (.iconst 1, 1) := by decide +kernel
theorem dX0_lineUp_25 : decode cX0_lineUp 25 = .ok (.iadd, 1) := by decide +kernel
theorem dX0_lineUp_26 : decode cX0_lineUp 26 = .ok (.putfield 62, 3) := by decide +kernel
theorem dX0_lineUp_29 : decode cX0_lineUp 29 = .ok (.return_, 1) := by decide +kernel
theorem dX1_init_0 : decode cX1_init 0 = .ok (.aload_n 0, 1) := by decide +kernel
theorem dX1_init_1 : decode cX1_init 1 = .ok (.invokespecial 3, 3) := by decide +kernel
theorem dX1_init_4 : decode cX1_init 4 = .ok (.aload_n 0, 1) := by decide +kernel
theorem dX1_init_5 : decode cX1_init 5 = .ok (.bipush 30, 2) := by decide +kernel
theorem dX1_init_7 : decode cX1_init 7 = .ok (.putfield 9, 3) := by decide +kernel
theorem dX1_init_10 : decode cX1_init 10 = .ok (.aload_n 0, 1) := by decide +kernel
theorem dX1_init_11 : decode cX1_init 11 = .ok (.iconst 1, 1) := by decide +kernel
theorem dX1_init_12 : decode cX1_init 12 = .ok (.putfield 15, 3) := by decide +kernel
theorem dX1_init_15 : decode cX1_init 15 = .ok (.aload_n 0, 1) := by decide +kernel
theorem dX1_init_16 : decode cX1_init 16 = .ok (.bipush 7, 2) := by decide +kernel
theorem dX1_init_18 : decode cX1_init 18 = .ok (.newarray .int, 2) := by decide +kernel
theorem dX1_init_20 : decode cX1_init 20 = .ok (.putfield 18, 3) := by decide +kernel
theorem dX1_init_23 : decode cX1_init 23 = .ok (.aload_n 0, 1) := by decide +kernel
theorem dX1_init_24 : decode cX1_init 24 = .ok (.bipush 7, 2) := by decide +kernel
theorem dX1_init_26 : decode cX1_init 26 = .ok (.newarray .int, 2) := by decide +kernel
theorem dX1_init_28 : decode cX1_init 28 = .ok (.putfield 22, 3) := by decide +kernel
theorem dX1_init_31 : decode cX1_init 31 = .ok (.aload_n 0, 1) := by decide +kernel
theorem dX1_init_32 : decode cX1_init 32 = .ok (.bipush 7, 2) := by decide +kernel
theorem dX1_init_34 : decode cX1_init 34 = .ok (.newarray .int, 2) := by decide +kernel
theorem dX1_init_36 : decode cX1_init 36 = .ok (.putfield 25, 3) := by decide +kernel
theorem dX1_init_39 : decode cX1_init 39 = .ok (.aload_n 0, 1) := by decide +kernel
theorem dX1_init_40 : decode cX1_init 40 = .ok (.bipush 7, 2) := by decide +kernel
theorem dX1_init_42 : decode cX1_init 42 = .ok (.newarray .int, 2) := by decide +kernel
theorem dX1_init_44 : decode cX1_init 44 = .ok (.putfield 28, 3) := by decide +kernel
theorem dX1_init_47 : decode cX1_init 47 = .ok (.return_, 1) := by decide +kernel
theorem dX1_takeFrom_0 : decode cX1_takeFrom 0 = .ok (.aload_n 0, 1) := by decide +kernel
theorem dX1_takeFrom_1 : decode cX1_takeFrom 1 = .ok (.aload_n 1, 1) := by decide +kernel
theorem dX1_takeFrom_2 : decode cX1_takeFrom 2 = .ok (.getfield 9, 3) := by decide +kernel
theorem dX1_takeFrom_5 : decode cX1_takeFrom 5 = .ok (.putfield 9, 3) := by decide +kernel
theorem dX1_takeFrom_8 : decode cX1_takeFrom 8 = .ok (.aload_n 0, 1) := by decide +kernel
theorem dX1_takeFrom_9 : decode cX1_takeFrom 9 = .ok (.aload_n 1, 1) := by decide +kernel
theorem dX1_takeFrom_10 : decode cX1_takeFrom 10 = .ok (.getfield 31, 3) := by decide +kernel
theorem dX1_takeFrom_13 : decode cX1_takeFrom 13 = .ok (.putfield 31, 3) := by decide +kernel
theorem dX1_takeFrom_16 : decode cX1_takeFrom 16 = .ok (.aload_n 0, 1) := by decide +kernel
theorem dX1_takeFrom_17 : decode cX1_takeFrom 17 = .ok (.aload_n 1, 1) := by decide +kernel
theorem dX1_takeFrom_18 : decode cX1_takeFrom 18 = .ok (.getfield 34, 3) := by decide +kernel
theorem dX1_takeFrom_21 : decode cX1_takeFrom 21 = .ok (.putfield 34, 3) := by decide +kernel
theorem dX1_takeFrom_24 : decode cX1_takeFrom 24 = .ok (.aload_n 0, 1) := by decide +kernel
theorem dX1_takeFrom_25 : decode cX1_takeFrom 25 = .ok (.aload_n 1, 1) := by decide +kernel
theorem dX1_takeFrom_26 : decode cX1_takeFrom 26 = .ok (.getfield 37, 3) := by decide +kernel
theorem dX1_takeFrom_29 : decode cX1_takeFrom 29 = .ok (.putfield 37, 3) := by decide +kernel
theorem dX1_takeFrom_32 : decode cX1_takeFrom 32 = .ok (.aload_n 0, 1) := by decide +kernel
theorem dX1_takeFrom_33 : decode cX1_takeFrom 33 = .ok (.aload_n 1, 1) := by decide +kernel
theorem dX1_takeFrom_34 : decode cX1_takeFrom 34 = .ok (.getfield 40, 3) := by decide +kernel
theorem dX1_takeFrom_37 : decode cX1_takeFrom 37 = .ok (.putfield 40, 3) := by decide +kernel
theorem dX1_takeFrom_40 : decode cX1_takeFrom 40 = .ok (.aload_n 0, 1) := by decide +kernel
theorem dX1_takeFrom_41 : decode cX1_takeFrom 41 = .ok (.aload_n 1, 1) := by decide +kernel
theorem dX1_takeFrom_42 : decode cX1_takeFrom 42 = .ok (.getfield 15, 3) := by decide +kernel
theorem dX1_takeFrom_45 : decode cX1_takeFrom 45 = .ok (.putfield 15, 3) := by decide +kernel
theorem dX1_takeFrom_48 : decode cX1_takeFrom 48 = .ok (.aload_n 1, 1) := by decide +kernel
theorem dX1_takeFrom_49 : decode cX1_takeFrom 49 = .ok (.getfield 18, 3) := by decide +kernel
theorem dX1_takeFrom_52 : decode cX1_takeFrom 52 = .ok (.iconst 0, 1) := by decide +kernel
theorem dX1_takeFrom_53 : decode cX1_takeFrom 53 = .ok (.aload_n 0, 1) := by decide +kernel
theorem dX1_takeFrom_54 : decode cX1_takeFrom 54 = .ok (.getfield 18, 3) := by decide +kernel
theorem dX1_takeFrom_57 : decode cX1_takeFrom 57 = .ok (.iconst 0, 1) := by decide +kernel
theorem dX1_takeFrom_58 : decode cX1_takeFrom 58 = .ok (.bipush 7, 2) := by decide +kernel
theorem dX1_takeFrom_60 : decode cX1_takeFrom 60 = .ok (.invokestatic 43, 3) := by decide +kernel
theorem dX1_takeFrom_63 : decode cX1_takeFrom 63 = .ok (.aload_n 1, 1) := by decide +kernel
theorem dX1_takeFrom_64 : decode cX1_takeFrom 64 = .ok (.getfield 22, 3) := by decide +kernel
theorem dX1_takeFrom_67 : decode cX1_takeFrom 67 = .ok (.iconst 0, 1) := by decide +kernel
theorem dX1_takeFrom_68 : decode cX1_takeFrom 68 = .ok (.aload_n 0, 1) := by decide +kernel
theorem dX1_takeFrom_69 : decode cX1_takeFrom 69 = .ok (.getfield 22, 3) := by decide +kernel
theorem dX1_takeFrom_72 : decode cX1_takeFrom 72 = .ok (.iconst 0, 1) := by decide +kernel
theorem dX1_takeFrom_73 : decode cX1_takeFrom 73 = .ok (.bipush 7, 2) := by decide +kernel
theorem dX1_takeFrom_75 : decode cX1_takeFrom 75 = .ok (.invokestatic 43, 3) := by decide +kernel
theorem dX1_takeFrom_78 : decode cX1_takeFrom 78 = .ok (.aload_n 1, 1) := by decide +kernel
theorem dX1_takeFrom_79 : decode cX1_takeFrom 79 = .ok (.getfield 25, 3) := by decide +kernel
theorem dX1_takeFrom_82 : decode cX1_takeFrom 82 = .ok (.iconst 0, 1) := by decide +kernel
theorem dX1_takeFrom_83 : decode cX1_takeFrom 83 = .ok (.aload_n 0, 1) := by decide +kernel
theorem dX1_takeFrom_84 : decode cX1_takeFrom 84 = .ok (.getfield 25, 3) := by decide +kernel
theorem dX1_takeFrom_87 : decode cX1_takeFrom 87 = .ok (.iconst 0, 1) := by decide +kernel
theorem dX1_takeFrom_88 : decode cX1_takeFrom 88 = .ok (.bipush 7, 2) := by decide +kernel
theorem dX1_takeFrom_90 : decode cX1_takeFrom 90 = .ok (.invokestatic 43, 3) := by decide +kernel
theorem dX1_takeFrom_93 : decode cX1_takeFrom 93 = .ok (.aload_n 1, 1) := by decide +kernel
theorem dX1_takeFrom_94 : decode cX1_takeFrom 94 = .ok (.getfield 28, 3) := by decide +kernel
theorem dX1_takeFrom_97 : decode cX1_takeFrom 97 = .ok (.iconst 0, 1) := by decide +kernel
theorem dX1_takeFrom_98 : decode cX1_takeFrom 98 = .ok (.aload_n 0, 1) := by decide +kernel
theorem dX1_takeFrom_99 : decode cX1_takeFrom 99 = .ok (.getfield 28, 3) := by decide +kernel
theorem dX1_takeFrom_102 : decode cX1_takeFrom 102 = .ok (.iconst 0, 1) := by decide +kernel
theorem dX1_takeFrom_103 : decode cX1_takeFrom 103 = .ok (.bipush 7, 2) := by decide +kernel
theorem dX1_takeFrom_105 : decode cX1_takeFrom 105 = .ok (.invokestatic 43, 3) := by decide +kernel
theorem dX1_takeFrom_108 : decode cX1_takeFrom 108 = .ok (.return_, 1) := by decide +kernel
theorem dX1_begin_0 : decode cX1_begin 0 = .ok (.aload_n 0, 1) := by decide +kernel
theorem dX1_begin_1 : decode cX1_begin 1 = .ok (.iload_n 1, 1) := by decide +kernel
theorem dX1_begin_2 : decode cX1_begin 2 = .ok (.putfield 9, 3) := by decide +kernel
theorem dX1_begin_5 : decode cX1_begin 5 = .ok (.aload_n 0, 1) := by decide +kernel
theorem dX1_begin_6 : decode cX1_begin 6 = .ok (.iconst 0, 1) := by decide +kernel
theorem dX1_begin_7 : decode cX1_begin 7 = .ok (.putfield 31, 3) := by decide +kernel
theorem dX1_begin_10 : decode cX1_begin 10 = .ok (.aload_n 0, 1) := by decide +kernel
theorem dX1_begin_11 : decode cX1_begin 11 = .ok (.iconst 0, 1) := by decide +kernel
theorem dX1_begin_12 : decode cX1_begin 12 = .ok (.putfield 34, 3) := by decide +kernel
theorem dX1_begin_15 : decode cX1_begin 15 = .ok (.aload_n 0, 1) := by decide +kernel
theorem dX1_begin_16 : decode cX1_begin 16 = .ok (.iconst 0, 1) := by decide +kernel
theorem dX1_begin_17 : decode cX1_begin 17 = .ok (.putfield 37, 3) := by decide +kernel
theorem dX1_begin_20 : decode cX1_begin 20 = .ok (.aload_n 0, 1) := by decide +kernel
theorem dX1_begin_21 : decode cX1_begin 21 = .ok (.iconst 0, 1) := by decide +kernel
theorem dX1_begin_22 : decode cX1_begin 22 = .ok (.putfield 40, 3) := by decide +kernel
theorem dX1_begin_25 : decode cX1_begin 25 = .ok (.iconst 0, 1) := by decide +kernel
theorem dX1_begin_26 : decode cX1_begin 26 = .ok (.istore_n 2, 1) := by decide +kernel
theorem dX1_begin_27 : decode cX1_begin 27 = .ok (.iload_n 2, 1) := by decide +kernel
theorem dX1_begin_28 : decode cX1_begin 28 = .ok (.bipush 7, 2) := by decide +kernel
theorem dX1_begin_30 : decode cX1_begin 30 = .ok (.if_icmp .ge 37, 3) := by decide +kernel
theorem dX1_begin_33 : decode cX1_begin 33 = .ok (.aload_n 0, 1) := by decide +kernel
theorem dX1_begin_34 : decode cX1_begin 34 = .ok (.getfield 18, 3) := by decide +kernel
theorem dX1_begin_37 : decode cX1_begin 37 = .ok (.iload_n 2, 1) := by decide +kernel
theorem dX1_begin_38 : decode cX1_begin 38 = .ok (.iconst 0, 1) := by decide +kernel
theorem dX1_begin_39 : decode cX1_begin 39 = .ok (.iastore, 1) := by decide +kernel
theorem dX1_begin_40 : decode cX1_begin 40 = .ok (.aload_n 0, 1) := by decide +kernel
theorem dX1_begin_41 : decode cX1_begin 41 = .ok (.getfield 22, 3) := by decide +kernel
theorem dX1_begin_44 : decode cX1_begin 44 = .ok (.iload_n 2, 1) := by decide +kernel
theorem dX1_begin_45 : decode cX1_begin 45 = .ok (.iconst 0, 1) := by decide +kernel
theorem dX1_begin_46 : decode cX1_begin 46 = .ok (.iastore, 1) := by decide +kernel
theorem dX1_begin_47 : decode cX1_begin 47 = .ok (.aload_n 0, 1) := by decide +kernel
theorem dX1_begin_48 : decode cX1_begin 48 = .ok (.getfield 25, 3) := by decide +kernel
theorem dX1_begin_51 : decode cX1_begin 51 = .ok (.iload_n 2, 1) := by decide +kernel
theorem dX1_begin_52 : decode cX1_begin 52 = .ok (.iconst 0, 1) := by decide +kernel
theorem dX1_begin_53 : decode cX1_begin 53 = .ok (.iastore, 1) := by decide +kernel
theorem dX1_begin_54 : decode cX1_begin 54 = .ok (.aload_n 0, 1) := by decide +kernel
theorem dX1_begin_55 : decode cX1_begin 55 = .ok (.getfield 28, 3) := by decide +kernel
theorem dX1_begin_58 : decode cX1_begin 58 = .ok (.iload_n 2, 1) := by decide +kernel
theorem dX1_begin_59 : decode cX1_begin 59 = .ok (.iconst 0, 1) := by decide +kernel
theorem dX1_begin_60 : decode cX1_begin 60 = .ok (.iastore, 1) := by decide +kernel
theorem dX1_begin_61 : decode cX1_begin 61 = .ok (.iinc 2 1, 3) := by decide +kernel
theorem dX1_begin_64 : decode cX1_begin 64 = .ok (.goto (-37), 3) := by decide +kernel
theorem dX1_begin_67 : decode cX1_begin 67 = .ok (.return_, 1) := by decide +kernel
theorem dX1_needs_0 : decode cX1_needs 0 = .ok (.aload_n 1, 1) := by decide +kernel
theorem dX1_needs_1 : decode cX1_needs 1 = .ok (.getfield 49, 3) := by decide +kernel
theorem dX1_needs_4 : decode cX1_needs 4 = .ok (.iload_n 2, 1) := by decide +kernel
theorem dX1_needs_5 : decode cX1_needs 5 = .ok (.iaload, 1) := by decide +kernel
theorem dX1_needs_6 : decode cX1_needs 6 = .ok (.aload_n 0, 1) := by decide +kernel
theorem dX1_needs_7 : decode cX1_needs 7 = .ok (.getfield 22, 3) := by decide +kernel
theorem dX1_needs_10 : decode cX1_needs 10 = .ok (.iload_n 2, 1) := by decide +kernel
theorem dX1_needs_11 : decode cX1_needs 11 = .ok (.iaload, 1) := by decide +kernel
theorem dX1_needs_12 : decode cX1_needs 12 = .ok (.iconst 3, 1) := by decide +kernel
theorem dX1_needs_13 : decode cX1_needs 13 = .ok (.idiv, 1) := by decide +kernel
theorem dX1_needs_14 : decode cX1_needs 14 = .ok (.iadd, 1) := by decide +kernel
theorem dX1_needs_15 : decode cX1_needs 15 = .ok (.ireturn, 1) := by decide +kernel
theorem dX1_needsYet_0 : decode cX1_needsYet 0 = .ok (.iconst 0, 1) := by decide +kernel
theorem dX1_needsYet_1 : decode cX1_needsYet 1 = .ok (.aload_n 0, 1) := by decide +kernel
theorem dX1_needsYet_2 : decode cX1_needsYet 2 = .ok (.aload_n 1, 1) := by decide +kernel
theorem dX1_needsYet_3 : decode cX1_needsYet 3 = .ok (.iload_n 2, 1) := by decide +kernel
theorem dX1_needsYet_4 : decode cX1_needsYet 4 = .ok (.invokevirtual 54, 3) := by decide +kernel
theorem dX1_needsYet_7 : decode cX1_needsYet 7 = .ok (.aload_n 0, 1) := by decide +kernel
theorem dX1_needsYet_8 : decode cX1_needsYet 8 = .ok (.getfield 18, 3) := by decide +kernel
theorem dX1_needsYet_11 : decode cX1_needsYet 11 = .ok (.iload_n 2, 1) := by decide +kernel
theorem dX1_needsYet_12 : decode cX1_needsYet 12 = .ok (.iaload, 1) := by decide +kernel
theorem dX1_needsYet_13 : decode cX1_needsYet 13 = .ok (.isub, 1) := by decide +kernel
theorem dX1_needsYet_14 : decode cX1_needsYet 14 = .ok (.invokestatic 58, 3) := by decide +kernel
theorem dX1_needsYet_17 : decode cX1_needsYet 17 = .ok (.ireturn, 1) := by decide +kernel
theorem dX1_needsYetOf_0 : decode cX1_needsYetOf 0 = .ok (.iconst 0, 1) := by decide +kernel
theorem dX1_needsYetOf_1 : decode cX1_needsYetOf 1 = .ok (.istore_n 3, 1) := by decide +kernel
theorem dX1_needsYetOf_2 : decode cX1_needsYetOf 2 = .ok (.iconst 0, 1) := by decide +kernel
theorem dX1_needsYetOf_3 : decode cX1_needsYetOf 3 = .ok (.istore 4, 2) := by decide +kernel
theorem dX1_needsYetOf_5 : decode cX1_needsYetOf 5 = .ok (.iload 4, 2) := by decide +kernel
theorem dX1_needsYetOf_7 : decode cX1_needsYetOf 7 = .ok (.aload_n 1, 1) := by decide +kernel
theorem dX1_needsYetOf_8 : decode cX1_needsYetOf 8 = .ok (.getfield 64, 3) := by decide +kernel
theorem dX1_needsYetOf_11 : decode cX1_needsYetOf 11 = .ok (.if_icmp .ge 29, 3) := by decide +kernel
theorem dX1_needsYetOf_14 : decode cX1_needsYetOf 14 = .ok (.iload_n 2, 1) := by decide +kernel
theorem dX1_needsYetOf_15 : decode cX1_needsYetOf 15 = .ok (.iload 4, 2) := by decide +kernel
theorem dX1_needsYetOf_17 : decode cX1_needsYetOf 17 = .ok (.ishr, 1) := by decide +kernel
theorem dX1_needsYetOf_18 : decode cX1_needsYetOf 18 = .ok (.iconst 1, 1) := by decide +kernel
theorem dX1_needsYetOf_19 : decode cX1_needsYetOf 19 = .ok (.iand, 1) := by decide +kernel
theorem dX1_needsYetOf_20 : decode cX1_needsYetOf 20 = .ok (.iconst 1, 1) := by decide +kernel
theorem dX1_needsYetOf_21 : decode cX1_needsYetOf 21 = .ok (.if_icmp .ne 13, 3) := by decide +kernel
theorem dX1_needsYetOf_24 : decode cX1_needsYetOf 24 = .ok (.iload_n 3, 1) := by decide +kernel
theorem dX1_needsYetOf_25 : decode cX1_needsYetOf 25 = .ok (.aload_n 0, 1) := by decide +kernel
theorem dX1_needsYetOf_26 : decode cX1_needsYetOf 26 = .ok (.aload_n 1, 1) := by decide +kernel
theorem dX1_needsYetOf_27 : decode cX1_needsYetOf 27 = .ok (.iload 4, 2) := by decide +kernel
theorem dX1_needsYetOf_29 : decode cX1_needsYetOf 29 = .ok (.invokevirtual 67, 3) := by decide +kernel
theorem dX1_needsYetOf_32 : decode cX1_needsYetOf 32 = .ok (.iadd, 1) := by decide +kernel
theorem dX1_needsYetOf_33 : decode cX1_needsYetOf 33 = .ok (.istore_n 3, 1) := by decide +kernel
theorem dX1_needsYetOf_34 : decode cX1_needsYetOf 34 = .ok (.iinc 4 1, 3) := by decide +kernel
theorem dX1_needsYetOf_37 : decode cX1_needsYetOf 37 = .ok (.goto (-32), 3) := by decide +kernel
theorem dX1_needsYetOf_40 : decode cX1_needsYetOf 40 = .ok (.iload_n 3, 1) := by decide +kernel
theorem dX1_needsYetOf_41 : decode cX1_needsYetOf 41 = .ok (.ireturn, 1) := by decide +kernel
theorem dX1_sated_0 : decode cX1_sated 0 = .ok (.aload_n 0, 1) := by decide +kernel
theorem dX1_sated_1 : decode cX1_sated 1 = .ok (.getfield 18, 3) := by decide +kernel
theorem dX1_sated_4 : decode cX1_sated 4 = .ok (.iload_n 2, 1) := by decide +kernel
theorem dX1_sated_5 : decode cX1_sated 5 = .ok (.iaload, 1) := by decide +kernel
theorem dX1_sated_6 : decode cX1_sated 6 = .ok (.aload_n 0, 1) := by decide +kernel
theorem dX1_sated_7 : decode cX1_sated 7 = .ok (.aload_n 1, 1) := by decide +kernel
theorem dX1_sated_8 : decode cX1_sated 8 = .ok (.iload_n 2, 1) := by decide +kernel
theorem dX1_sated_9 : decode cX1_sated 9 = .ok (.invokevirtual 54, 3) := by decide +kernel
theorem dX1_sated_12 : decode cX1_sated 12 = .ok (.if_icmp .lt 7, 3) := by decide +kernel
theorem dX1_sated_15 : decode cX1_sated 15 = .ok (.iconst 1, 1) := by decide +kernel
theorem dX1_sated_16 : decode cX1_sated 16 = .ok (.goto 4, 3) := by decide +kernel
theorem dX1_sated_19 : decode cX1_sated 19 = .ok (.iconst 0, 1) := by decide +kernel
theorem dX1_sated_20 : decode cX1_sated 20 = .ok (.ireturn, 1) := by decide +kernel
theorem dX1_satedSet_0 : decode cX1_satedSet 0 = .ok (.iconst 0, 1) := by decide +kernel
theorem dX1_satedSet_1 : decode cX1_satedSet 1 = .ok (.istore_n 2, 1) := by decide +kernel
theorem dX1_satedSet_2 : decode cX1_satedSet 2 = .ok (.iconst 0, 1) := by decide +kernel
theorem dX1_satedSet_3 : decode cX1_satedSet 3 = .ok (.istore_n 3, 1) := by decide +kernel
theorem dX1_satedSet_4 : decode cX1_satedSet 4 = .ok (.iload_n 3, 1) := by decide +kernel
theorem dX1_satedSet_5 : decode cX1_satedSet 5 = .ok (.aload_n 1, 1) := by decide +kernel
theorem dX1_satedSet_6 : decode cX1_satedSet 6 = .ok (.getfield 64, 3) := by decide +kernel
theorem dX1_satedSet_9 : decode cX1_satedSet 9 = .ok (.if_icmp .ge 24, 3) := by decide +kernel
theorem dX1_satedSet_12 : decode cX1_satedSet 12 = .ok (.aload_n 0, 1) := by decide +kernel
theorem dX1_satedSet_13 : decode cX1_satedSet 13 = .ok (.aload_n 1, 1) := by decide +kernel
theorem dX1_satedSet_14 : decode cX1_satedSet 14 = .ok (.iload_n 3, 1) := by decide +kernel
theorem dX1_satedSet_15 : decode cX1_satedSet 15 = .ok (.invokevirtual 70, 3) := by decide +kernel
theorem dX1_satedSet_18 : decode cX1_satedSet 18 = .ok (.ifCond .eq 9, 3) := by decide +kernel
theorem dX1_satedSet_21 : decode cX1_satedSet 21 = .ok (.iload_n 2, 1) := by decide +kernel
theorem dX1_satedSet_22 : decode cX1_satedSet 22 = .ok (.iconst 1, 1) := by decide +kernel
theorem dX1_satedSet_23 : decode cX1_satedSet 23 = .ok (.iload_n 3, 1) := by decide +kernel
theorem dX1_satedSet_24 : decode cX1_satedSet 24 = .ok (.ishl, 1) := by decide +kernel
theorem dX1_satedSet_25 : decode cX1_satedSet 25 = .ok (.ior, 1) := by decide +kernel
theorem dX1_satedSet_26 : decode cX1_satedSet 26 = .ok (.istore_n 2, 1) := by decide +kernel
theorem dX1_satedSet_27 : decode cX1_satedSet 27 = .ok (.iinc 3 1, 3) := by decide +kernel
theorem dX1_satedSet_30 : decode cX1_satedSet 30 = .ok (.goto (-26), 3) := by decide +kernel
theorem dX1_satedSet_33 : decode cX1_satedSet 33 = .ok (.iload_n 2, 1) := by decide +kernel
theorem dX1_satedSet_34 : decode cX1_satedSet 34 = .ok (.ireturn, 1) := by decide +kernel
theorem dX1_allSated_0 : decode cX1_allSated 0 = .ok (.iconst 0, 1) := by decide +kernel
theorem dX1_allSated_1 : decode cX1_allSated 1 = .ok (.istore_n 2, 1) := by decide +kernel
theorem dX1_allSated_2 : decode cX1_allSated 2 = .ok (.iload_n 2, 1) := by decide +kernel
theorem dX1_allSated_3 : decode cX1_allSated 3 = .ok (.aload_n 1, 1) := by decide +kernel
theorem dX1_allSated_4 : decode cX1_allSated 4 = .ok (.getfield 64, 3) := by decide +kernel
theorem dX1_allSated_7 : decode cX1_allSated 7 = .ok (.if_icmp .ge 28, 3) := by decide +kernel
theorem dX1_allSated_10 : decode cX1_allSated 10 = .ok (.iload_n 2, 1) := by decide +kernel
theorem dX1_allSated_11 : decode cX1_allSated 11 = .ok (.aload_n 1, 1) := by decide +kernel
theorem dX1_allSated_12 : decode cX1_allSated 12 = .ok (.getfield 74, 3) := by decide +kernel
theorem dX1_allSated_15 : decode cX1_allSated 15 = .ok (.if_icmp .eq 14, 3) := by decide +kernel
theorem dX1_allSated_18 : decode cX1_allSated 18 = .ok (.aload_n 0, 1) := by decide +kernel
theorem dX1_allSated_19 : decode cX1_allSated 19 = .ok (.aload_n 1, 1) := by decide +kernel
theorem dX1_allSated_20 : decode cX1_allSated 20 = .ok (.iload_n 2, 1) := by decide +kernel
theorem dX1_allSated_21 : decode cX1_allSated 21 = .ok (.invokevirtual 70, 3) := by decide +kernel
theorem dX1_allSated_24 : decode cX1_allSated 24 = .ok (.ifCond .ne 5, 3) := by decide +kernel
theorem dX1_allSated_27 : decode cX1_allSated 27 = .ok (.iconst 0, 1) := by decide +kernel
theorem dX1_allSated_28 : decode cX1_allSated 28 = .ok (.ireturn, 1) := by decide +kernel
theorem dX1_allSated_29 : decode cX1_allSated 29 = .ok (.iinc 2 1, 3) := by decide +kernel
theorem dX1_allSated_32 : decode cX1_allSated 32 = .ok (.goto (-30), 3) := by decide +kernel
theorem dX1_allSated_35 : decode cX1_allSated 35 = .ok (.iconst 1, 1) := by decide +kernel
theorem dX1_allSated_36 : decode cX1_allSated 36 = .ok (.ireturn, 1) := by decide +kernel
theorem dX1_drunkTogether_0 : decode cX1_drunkTogether 0 = .ok (.iconst 0, 1) := by decide +kernel
theorem dX1_drunkTogether_1 : decode cX1_drunkTogether 1 = .ok (.istore_n 1, 1) := by decide +kernel
theorem dX1_drunkTogether_2 : decode cX1_drunkTogether 2 = .ok (.iconst 0, 1) := by decide +kernel
theorem dX1_drunkTogether_3 : decode cX1_drunkTogether 3 = .ok (.istore_n 2, 1) := by decide +kernel
theorem dX1_drunkTogether_4 : decode cX1_drunkTogether 4 = .ok (.iload_n 2, 1) := by decide +kernel
theorem dX1_drunkTogether_5 : decode cX1_drunkTogether 5 = .ok (.bipush 7, 2) := by decide +kernel
theorem dX1_drunkTogether_7 : decode cX1_drunkTogether 7 = .ok (.if_icmp .ge 18, 3) := by decide +kernel
theorem dX1_drunkTogether_10 : decode cX1_drunkTogether 10 = .ok (.iload_n 1, 1) := by decide +kernel
theorem dX1_drunkTogether_11 : decode cX1_drunkTogether 11 = .ok (.aload_n 0, 1) := by decide +kernel
theorem dX1_drunkTogether_12 : decode cX1_drunkTogether 12 = .ok (.getfield 18, 3) := by decide +kernel
theorem dX1_drunkTogether_15 : decode cX1_drunkTogether 15 = .ok (.iload_n 2, 1) := by decide +kernel
theorem dX1_drunkTogether_16 : decode cX1_drunkTogether 16 = .ok (.iaload, 1) := by decide +kernel
theorem dX1_drunkTogether_17 : decode cX1_drunkTogether 17 = .ok (.iadd, 1) := by decide +kernel
theorem dX1_drunkTogether_18 : decode cX1_drunkTogether 18 = .ok (.istore_n 1, 1) := by decide +kernel
theorem dX1_drunkTogether_19 : decode cX1_drunkTogether 19 = .ok (.iinc 2 1, 3) := by decide +kernel
theorem dX1_drunkTogether_22 : decode cX1_drunkTogether 22 = .ok (.goto (-18), 3) := by decide +kernel
theorem dX1_drunkTogether_25 : decode cX1_drunkTogether 25 = .ok (.iload_n 1, 1) := by decide +kernel
theorem dX1_drunkTogether_26 : decode cX1_drunkTogether 26 = .ok (.ireturn, 1) := by decide +kernel
theorem dX1_step_0 : decode cX1_step 0 = .ok (.aload_n 0, 1) := by decide +kernel
theorem dX1_step_1 : decode cX1_step 1 = .ok (.getfield 37, 3) := by decide +kernel
theorem dX1_step_4 : decode cX1_step 4 = .ok (.ifCond .gt 11, 3) := by decide +kernel
theorem dX1_step_7 : decode cX1_step 7 = .ok (.aload_n 0, 1) := by decide +kernel
theorem dX1_step_8 : decode cX1_step 8 = .ok (.aload_n 1, 1) := by decide +kernel
theorem dX1_step_9 : decode cX1_step 9 = .ok (.invokevirtual 77, 3) := by decide +kernel
theorem dX1_step_12 : decode cX1_step 12 = .ok (.ifCond .eq 7, 3) := by decide +kernel
theorem dX1_step_15 : decode cX1_step 15 = .ok (.iconst 1, 1) := by decide +kernel
theorem dX1_step_16 : decode cX1_step 16 = .ok (.goto 4, 3) := by decide +kernel
theorem dX1_step_19 : decode cX1_step 19 = .ok (.iconst 0, 1) := by decide +kernel
theorem dX1_step_20 : decode cX1_step 20 = .ok (.istore_n 3, 1) := by decide +kernel
theorem dX1_step_21 : decode cX1_step 21 = .ok (.bipush 60, 2) := by decide +kernel
theorem dX1_step_23 : decode cX1_step 23 = .ok (.aload_n 0, 1) := by decide +kernel
theorem dX1_step_24 : decode cX1_step 24 = .ok (.getfield 9, 3) := by decide +kernel
theorem dX1_step_27 : decode cX1_step 27 = .ok (.isub, 1) := by decide +kernel
theorem dX1_step_28 : decode cX1_step 28 = .ok (.aload_n 1, 1) := by decide +kernel
theorem dX1_step_29 : decode cX1_step 29 = .ok (.getfield 81, 3) := by decide +kernel
theorem dX1_step_32 : decode cX1_step 32 = .ok (.idiv, 1) := by decide +kernel
theorem dX1_step_33 : decode cX1_step 33 = .ok (.istore 4, 2) := by decide +kernel
theorem dX1_step_35 : decode cX1_step 35 = .ok (.aload_n 0, 1) := by decide +kernel
theorem dX1_step_36 : decode cX1_step 36 = .ok (.dup, 1) := by decide +kernel
theorem dX1_step_37 : decode cX1_step 37 = .ok (.getfield 9, 3) := by decide +kernel
theorem dX1_step_40 : decode cX1_step 40 = .ok (.iload 4, 2) := by decide +kernel
theorem dX1_step_42 : decode cX1_step 42 = .ok (.iadd, 1) := by decide +kernel
theorem dX1_step_43 : decode cX1_step 43 = .ok (.putfield 9, 3) := by decide +kernel
theorem dX1_step_46 : decode cX1_step 46 = .ok (.aload_n 0, 1) := by decide +kernel
theorem dX1_step_47 : decode cX1_step 47 = .ok (.aload_n 1, 1) := by decide +kernel
theorem dX1_step_48 : decode cX1_step 48 = .ok (.invokevirtual 84, 3) := by decide +kernel
theorem dX1_step_51 : decode cX1_step 51 = .ok (.istore 5, 2) := by decide +kernel
theorem dX1_step_53 : decode cX1_step 53 = .ok (.aload_n 0, 1) := by decide +kernel
theorem dX1_step_54 : decode cX1_step 54 = .ok (.aload_n 1, 1) := by decide +kernel
theorem dX1_step_55 : decode cX1_step 55 = .ok (.iload_n 2, 1) := by decide +kernel
theorem dX1_step_56 : decode cX1_step 56 = .ok (.invokevirtual 88, 3) := by decide +kernel
theorem dX1_step_59 : decode cX1_step 59 = .ok (.istore 6, 2) := by decide +kernel
theorem dX1_step_61 : decode cX1_step 61 = .ok (.aload_n 0, 1) := by decide +kernel
theorem dX1_step_62 : decode cX1_step 62 = .ok (.dup, 1) := by decide +kernel
theorem dX1_step_63 : decode cX1_step 63 = .ok (.getfield 40, 3) := by decide +kernel
theorem dX1_step_66 : decode cX1_step 66 = .ok (.iconst 1, 1) := by decide +kernel
theorem dX1_step_67 : decode cX1_step 67 = .ok (.iadd, 1) := by decide +kernel
theorem dX1_step_68 : decode cX1_step 68 = .ok (.putfield 40, 3) := by decide +kernel
theorem dX1_step_71 : decode cX1_step 71 = .ok (.iload_n 3, 1) := by decide +kernel
theorem dX1_step_72 : decode cX1_step 72 = .ok (.ifCond .ne 18, 3) := by decide +kernel
theorem dX1_step_75 : decode cX1_step 75 = .ok (.iload 4, 2) := by decide +kernel
theorem dX1_step_77 : decode cX1_step 77 = .ok (.ifCond .ne 13, 3) := by decide +kernel
theorem dX1_step_80 : decode cX1_step 80 = .ok (.iload 5, 2) := by decide +kernel
theorem dX1_step_82 : decode cX1_step 82 = .ok (.ifCond .ne 8, 3) := by decide +kernel
theorem dX1_step_85 : decode cX1_step 85 = .ok (.iload 6, 2) := by decide +kernel
theorem dX1_step_87 : decode cX1_step 87 = .ok (.ifCond .eq 7, 3) := by decide +kernel
theorem dX1_step_90 : decode cX1_step 90 = .ok (.iconst 1, 1) := by decide +kernel
theorem dX1_step_91 : decode cX1_step 91 = .ok (.goto 4, 3) := by decide +kernel
theorem dX1_step_94 : decode cX1_step 94 = .ok (.iconst 0, 1) := by decide +kernel
theorem dX1_step_95 : decode cX1_step 95 = .ok (.ireturn, 1) := by decide +kernel
theorem dX1_anySwollen_0 : decode cX1_anySwollen 0 = .ok (.iconst 0, 1) := by decide +kernel
theorem dX1_anySwollen_1 : decode cX1_anySwollen 1 = .ok (.istore_n 2, 1) := by decide +kernel
theorem dX1_anySwollen_2 : decode cX1_anySwollen 2 = .ok (.iload_n 2, 1) := by decide +kernel
theorem dX1_anySwollen_3 : decode cX1_anySwollen 3 = .ok (.aload_n 1, 1) := by decide +kernel
theorem dX1_anySwollen_4 : decode cX1_anySwollen 4 = .ok (.getfield 64, 3) := by decide +kernel
theorem dX1_anySwollen_7 : decode cX1_anySwollen 7 = .ok (.if_icmp .ge 20, 3) := by decide +kernel
theorem dX1_anySwollen_10 : decode cX1_anySwollen 10 = .ok (.aload_n 0, 1) := by decide +kernel
theorem dX1_anySwollen_11 : decode cX1_anySwollen 11 = .ok (.getfield 25, 3) := by decide +kernel
theorem dX1_anySwollen_14 : decode cX1_anySwollen 14 = .ok (.iload_n 2, 1) := by decide +kernel
theorem dX1_anySwollen_15 : decode cX1_anySwollen 15 = .ok (.iaload, 1) := by decide +kernel
theorem dX1_anySwollen_16 : decode cX1_anySwollen 16 = .ok (.ifCond .le 5, 3) := by decide +kernel
theorem dX1_anySwollen_19 : decode cX1_anySwollen 19 = .ok (.iconst 1, 1) := by decide +kernel
theorem dX1_anySwollen_20 : decode cX1_anySwollen 20 = .ok (.ireturn, 1) := by decide +kernel
theorem dX1_anySwollen_21 : decode cX1_anySwollen 21 = .ok (.iinc 2 1, 3) := by decide +kernel
theorem dX1_anySwollen_24 : decode cX1_anySwollen 24 = .ok (.goto (-22), 3) := by decide +kernel
theorem dX1_anySwollen_27 : decode cX1_anySwollen 27 = .ok (.iconst 0, 1) := by decide +kernel
theorem dX1_anySwollen_28 : decode cX1_anySwollen 28 = .ok (.ireturn, 1) := by decide +kernel
theorem dX1_drawBucket_0 : decode cX1_drawBucket 0 = .ok (.aload_n 0, 1) := by decide +kernel
theorem dX1_drawBucket_1 : decode cX1_drawBucket 1 = .ok (.getfield 37, 3) := by decide +kernel
theorem dX1_drawBucket_4 : decode cX1_drawBucket 4 = .ok (.ifCond .le 15, 3) := by decide +kernel
theorem dX1_drawBucket_7 : decode cX1_drawBucket 7 = .ok (.aload_n 0, 1) := by decide +kernel
theorem dX1_drawBucket_8 : decode cX1_drawBucket 8 = .ok (.dup, 1) := by decide +kernel
theorem dX1_drawBucket_9 : decode cX1_drawBucket 9 = .ok (.getfield 37, 3) := by decide +kernel
theorem dX1_drawBucket_12 : decode cX1_drawBucket 12 = .ok (.iconst 1, 1) := by decide +kernel
theorem dX1_drawBucket_13 : decode cX1_drawBucket 13 = .ok (.isub, 1) := by decide +kernel
theorem dX1_drawBucket_14 : decode cX1_drawBucket 14 = .ok (.putfield 37, 3) := by decide +kernel
theorem dX1_drawBucket_17 : decode cX1_drawBucket 17 = .ok (.iconst 0, 1) := by decide +kernel
theorem dX1_drawBucket_18 : decode cX1_drawBucket 18 = .ok (.ireturn, 1) := by decide +kernel
theorem dX1_drawBucket_19 : decode cX1_drawBucket 19 = .ok (.aload_n 0, 1) := by decide +kernel
theorem dX1_drawBucket_20 : decode cX1_drawBucket 20 = .ok (.getfield 9, 3) := by decide +kernel
theorem dX1_drawBucket_23 : decode cX1_drawBucket 23 = .ok (.aload_n 1, 1) := by decide +kernel
theorem dX1_drawBucket_24 : decode cX1_drawBucket 24 = .ok (.getfield 91, 3) := by decide +kernel
theorem dX1_drawBucket_27 : decode cX1_drawBucket 27 = .ok (.if_icmp .ge 5, 3) := by decide +kernel
theorem dX1_drawBucket_30 : decode cX1_drawBucket 30 = .ok (.iconst 0, 1) := by decide +kernel
theorem dX1_drawBucket_31 : decode cX1_drawBucket 31 = .ok (.ireturn, 1) := by decide +kernel
theorem dX1_drawBucket_32 : decode cX1_drawBucket 32 = .ok (.aload_n 1, 1) := by decide +kernel
theorem dX1_drawBucket_33 : decode cX1_drawBucket 33 = .ok (.getfield 74, 3) := by decide +kernel
theorem dX1_drawBucket_36 : decode cX1_drawBucket 36 = .ok (.bipush (-4), 2) := by decide +kernel
theorem dX1_drawBucket_38 : decode cX1_drawBucket 38 = .ok (.if_icmp .ne 12, 3) := by decide +kernel
theorem dX1_drawBucket_41 : decode cX1_drawBucket 41 = .ok (.aload_n 1, 1) := by decide +kernel
theorem dX1_drawBucket_42 : decode cX1_drawBucket 42 = .ok (.getfield 94, 3) := by decide +kernel
theorem dX1_drawBucket_45 : decode cX1_drawBucket 45 = .ok (.iconst 2, 1) := by decide +kernel
theorem dX1_drawBucket_46 : decode cX1_drawBucket 46 = .ok (.idiv, 1) := by decide +kernel
theorem dX1_drawBucket_47 : decode cX1_drawBucket 47 = .ok (.goto 7, 3) := by decide +kernel
theorem dX1_drawBucket_50 : decode cX1_drawBucket 50 = .ok (.aload_n 1, 1) := by decide +kernel
theorem dX1_drawBucket_51 : decode cX1_drawBucket 51 = .ok (.getfield 94, 3) := by decide +kernel
theorem dX1_drawBucket_54 : decode cX1_drawBucket 54 = .ok (.istore_n 2, 1) := by decide +kernel
theorem dX1_drawBucket_55 : decode cX1_drawBucket 55 = .ok (.iconst 0, 1) := by decide +kernel
theorem dX1_drawBucket_56 : decode cX1_drawBucket 56 = .ok (.aload_n 0, 1) := by decide +kernel
theorem dX1_drawBucket_57 : decode cX1_drawBucket 57 = .ok (.getfield 9, 3) := by decide +kernel
theorem dX1_drawBucket_60 : decode cX1_drawBucket 60 = .ok (.aload_n 1, 1) := by decide +kernel
theorem dX1_drawBucket_61 : decode cX1_drawBucket 61 = .ok (.getfield 97, 3) := by decide +kernel
theorem dX1_drawBucket_64 : decode cX1_drawBucket 64 = .ok (.isub, 1) := by decide +kernel
theorem dX1_drawBucket_65 : decode cX1_drawBucket 65 = .ok (.invokestatic 58, 3) := by decide +kernel
theorem dX1_drawBucket_68 : decode cX1_drawBucket 68 = .ok (.istore_n 3, 1) := by decide +kernel
theorem dX1_drawBucket_69 : decode cX1_drawBucket 69 = .ok (.iload_n 2, 1) := by decide +kernel
theorem dX1_drawBucket_70 : decode cX1_drawBucket 70 = .ok (.iload_n 3, 1) := by decide +kernel
theorem dX1_drawBucket_71 : decode cX1_drawBucket 71 = .ok (.bipush 24, 2) := by decide +kernel
theorem dX1_drawBucket_73 : decode cX1_drawBucket 73 = .ok (.aload_n 0, 1) := by decide +kernel
theorem dX1_drawBucket_74 : decode cX1_drawBucket 74 = .ok (.getfield 31, 3) := by decide +kernel
theorem dX1_drawBucket_77 : decode cX1_drawBucket 77 = .ok (.isub, 1) := by decide +kernel
theorem dX1_drawBucket_78 : decode cX1_drawBucket 78 = .ok (.invokestatic 100, 3) := by decide +kernel
theorem dX1_drawBucket_81 : decode cX1_drawBucket 81 = .ok (.invokestatic 100, 3) := by decide +kernel
theorem dX1_drawBucket_84 : decode cX1_drawBucket 84 = .ok (.istore 4, 2) := by decide +kernel
theorem dX1_drawBucket_86 : decode cX1_drawBucket 86 = .ok (.iload 4, 2) := by decide +kernel
theorem dX1_drawBucket_88 : decode cX1_drawBucket 88 = .ok (.ifCond .eq 59, 3) := by decide +kernel
theorem dX1_drawBucket_91 : decode cX1_drawBucket 91 = .ok (.aload_n 0, 1) := by decide +kernel
theorem dX1_drawBucket_92 : decode cX1_drawBucket 92 = .ok (.dup, 1) := by decide +kernel
theorem dX1_drawBucket_93 : decode cX1_drawBucket 93 = .ok (.getfield 9, 3) := by decide +kernel
theorem dX1_drawBucket_96 : decode cX1_drawBucket 96 = .ok (.iload 4, 2) := by decide +kernel
theorem dX1_drawBucket_98 : decode cX1_drawBucket 98 = .ok (.isub, 1) := by decide +kernel
theorem dX1_drawBucket_99 : decode cX1_drawBucket 99 = .ok (.putfield 9, 3) := by decide +kernel
theorem dX1_drawBucket_102 : decode cX1_drawBucket 102 = .ok (.aload_n 0, 1) := by decide +kernel
theorem dX1_drawBucket_103 : decode cX1_drawBucket 103 = .ok (.dup, 1) := by decide +kernel
theorem dX1_drawBucket_104 : decode cX1_drawBucket 104 = .ok (.getfield 31, 3) := by decide +kernel
theorem dX1_drawBucket_107 : decode cX1_drawBucket 107 = .ok (.iload 4, 2) := by decide +kernel
theorem dX1_drawBucket_109 : decode cX1_drawBucket 109 = .ok (.iadd, 1) := by decide +kernel
theorem dX1_drawBucket_110 : decode cX1_drawBucket 110 = .ok (.putfield 31, 3) := by decide +kernel
theorem dX1_drawBucket_113 : decode cX1_drawBucket 113 = .ok (.aload_n 0, 1) := by decide +kernel
theorem dX1_drawBucket_114 : decode cX1_drawBucket 114 = .ok (.dup, 1) := by decide +kernel
theorem dX1_drawBucket_115 : decode cX1_drawBucket 115 = .ok (.getfield 34, 3) := by decide +kernel
theorem dX1_drawBucket_118 : decode cX1_drawBucket 118 = .ok (.iconst 1, 1) := by decide +kernel
theorem dX1_drawBucket_119 : decode cX1_drawBucket 119 = .ok (.iadd, 1) := by decide +kernel
theorem dX1_drawBucket_120 : decode cX1_drawBucket 120 = .ok (.putfield 34, 3) := by decide +kernel
theorem dX1_drawBucket_123 : decode cX1_drawBucket 123 = .ok (.aload_n 1, 1) := by decide +kernel
theorem dX1_drawBucket_124 : decode cX1_drawBucket 124 = .ok (.aload_n 1, 1) := by decide +kernel
theorem dX1_drawBucket_125 : decode cX1_drawBucket 125 = .ok (.getfield 74, 3) := by decide +kernel
theorem dX1_drawBucket_128 : decode cX1_drawBucket 128 = .ok (.invokevirtual 103, 3) := by decide +kernel
theorem dX1_drawBucket_131 : decode cX1_drawBucket 131 = .ok (.ifCond .ne 16, 3) := by decide +kernel
theorem dX1_drawBucket_134 : decode cX1_drawBucket 134 = .ok (.aload_n 0, 1) := by decide +kernel
theorem dX1_drawBucket_135 : decode cX1_drawBucket 135 = .ok (.getfield 22, 3) := by decide +kernel
theorem dX1_drawBucket_138 : decode cX1_drawBucket 138 = .ok (.aload_n 1, 1) := by decide +kernel
theorem dX1_drawBucket_139 : decode cX1_drawBucket 139 = .ok (.getfield 74, 3) := by decide +kernel
theorem dX1_drawBucket_142 : decode cX1_drawBucket 142 = .ok (.dup2, 1) := by decide +kernel
theorem dX1_drawBucket_143 : decode cX1_drawBucket 143 = .ok (.iaload, 1) := by decide +kernel
theorem dX1_drawBucket_144 : decode cX1_drawBucket 144 = .ok (.iconst 1, 1) := by decide +kernel
theorem dX1_drawBucket_145 : decode cX1_drawBucket 145 = .ok (.iadd, 1) := by decide +kernel
theorem dX1_drawBucket_146 : decode cX1_drawBucket 146 = .ok (.iastore, 1) := by decide +kernel
theorem dX1_drawBucket_147 : decode cX1_drawBucket 147 = .ok (.iload 4, 2) := by decide +kernel
theorem dX1_drawBucket_149 : decode cX1_drawBucket 149 = .ok (.ireturn, 1) := by decide +kernel
theorem dX1_waterBeasts_0 : decode cX1_waterBeasts 0 = .ok (.aload_n 1, 1) := by decide +kernel
theorem dX1_waterBeasts_1 : decode cX1_waterBeasts 1 = .ok (.getfield 107, 3) := by decide +kernel
theorem dX1_waterBeasts_4 : decode cX1_waterBeasts 4 = .ok (.istore_n 3, 1) := by decide +kernel
theorem dX1_waterBeasts_5 : decode cX1_waterBeasts 5 = .ok (.iconst 0, 1) := by decide +kernel
theorem dX1_waterBeasts_6 : decode cX1_waterBeasts 6 = .ok (.istore 4, 2) := by decide +kernel
theorem dX1_waterBeasts_8 : decode cX1_waterBeasts 8 = .ok (.iconst 0, 1) := by decide +kernel
theorem dX1_waterBeasts_9 : decode cX1_waterBeasts 9 = .ok (.istore 5, 2) := by decide +kernel
theorem dX1_waterBeasts_11 : decode cX1_waterBeasts 11 = .ok (.iload 5, 2) := by decide +kernel
theorem dX1_waterBeasts_13 : decode cX1_waterBeasts 13 = .ok (.aload_n 1, 1) := by decide +kernel
theorem dX1_waterBeasts_14 : decode cX1_waterBeasts 14 = .ok (.getfield 64, 3) := by decide +kernel
theorem dX1_waterBeasts_17 : decode cX1_waterBeasts 17 = .ok (.if_icmp .ge 140, 3) := by decide +kernel
theorem dX1_waterBeasts_20 : decode cX1_waterBeasts 20 = .ok (.aload_n 1, 1) := by decide +kernel
theorem dX1_waterBeasts_21 : decode cX1_waterBeasts 21 = .ok (.getfield 110, 3) := by decide +kernel
theorem dX1_waterBeasts_24 : decode cX1_waterBeasts 24 = .ok (.iload 5, 2) := by decide +kernel
theorem dX1_waterBeasts_26 : decode cX1_waterBeasts 26 = .ok (.iaload, 1) := by decide +kernel
theorem dX1_waterBeasts_27 : decode cX1_waterBeasts 27 = .ok (.istore 6, 2) := by decide +kernel
theorem dX1_waterBeasts_29 : decode cX1_waterBeasts 29 = .ok (.aload_n 0, 1) := by decide +kernel
theorem dX1_waterBeasts_30 : decode cX1_waterBeasts 30 = .ok (.aload_n 1, 1) := by decide +kernel
theorem dX1_waterBeasts_31 : decode cX1_waterBeasts 31 = .ok (.iload 6, 2) := by decide +kernel
theorem dX1_waterBeasts_33 : decode cX1_waterBeasts 33 = .ok (.invokevirtual 67, 3) := by decide +kernel
theorem dX1_waterBeasts_36 : decode cX1_waterBeasts 36 = .ok (.istore 7, 2) := by decide +kernel
theorem dX1_waterBeasts_38 : decode cX1_waterBeasts 38 = .ok (.iconst 0, 1) := by decide +kernel
theorem dX1_waterBeasts_39 : decode cX1_waterBeasts 39 = .ok (.istore 8, 2) := by decide +kernel
theorem dX1_waterBeasts_41 : decode cX1_waterBeasts 41 = .ok (.iload_n 3, 1) := by decide +kernel
theorem dX1_waterBeasts_42 : decode cX1_waterBeasts 42 = .ok (.ifCond .le 94, 3) := by decide +kernel
theorem dX1_waterBeasts_45 : decode cX1_waterBeasts 45 = .ok (.iload_n 2, 1) := by decide +kernel
theorem dX1_waterBeasts_46 : decode cX1_waterBeasts 46 = .ok (.iload 6, 2) := by decide +kernel
theorem dX1_waterBeasts_48 : decode cX1_waterBeasts 48 = .ok (.ishr, 1) := by decide +kernel
theorem dX1_waterBeasts_49 : decode cX1_waterBeasts 49 = .ok (.iconst 1, 1) := by decide +kernel
theorem dX1_waterBeasts_50 : decode cX1_waterBeasts 50 = .ok (.iand, 1) := by decide +kernel
theorem dX1_waterBeasts_51 : decode cX1_waterBeasts 51 = .ok (.iconst 1, 1) := by decide +kernel
theorem dX1_waterBeasts_52 : decode cX1_waterBeasts 52 = .ok (.if_icmp .ne 84, 3) := by decide +kernel
theorem dX1_waterBeasts_55 : decode cX1_waterBeasts 55 = .ok (.iload 6, 2) := by decide +kernel
theorem dX1_waterBeasts_57 : decode cX1_waterBeasts 57 = .ok (.aload_n 1, 1) := by decide +kernel
theorem dX1_waterBeasts_58 : decode cX1_waterBeasts 58 = .ok (.getfield 74, 3) := by decide +kernel
theorem dX1_waterBeasts_61 : decode cX1_waterBeasts 61 = .ok (.if_icmp .eq 75, 3) := by decide +kernel
theorem dX1_waterBeasts_64 : decode cX1_waterBeasts 64 = .ok (.aload_n 0, 1) := by decide +kernel
theorem dX1_waterBeasts_65 : decode cX1_waterBeasts 65 = .ok (.getfield 25, 3) := by decide +kernel
theorem dX1_waterBeasts_68 : decode cX1_waterBeasts 68 = .ok (.iload 6, 2) := by decide +kernel
theorem dX1_waterBeasts_70 : decode cX1_waterBeasts 70 = .ok (.iaload, 1) := by decide +kernel
theorem dX1_waterBeasts_71 : decode cX1_waterBeasts 71 = .ok (.ifCond .ne 65, 3) := by decide +kernel
theorem dX1_waterBeasts_74 : decode cX1_waterBeasts 74 = .ok (.iload 7, 2) := by decide +kernel
theorem dX1_waterBeasts_76 : decode cX1_waterBeasts 76 = .ok (.ifCond .le 60, 3) := by decide +kernel
theorem dX1_waterBeasts_79 : decode cX1_waterBeasts 79 = .ok (.iinc 3 (-1), 3) := by decide +kernel
theorem dX1_waterBeasts_82 : decode cX1_waterBeasts 82 = .ok (.aload_n 1, 1) := by decide +kernel
theorem dX1_waterBeasts_83 : decode cX1_waterBeasts 83 = .ok (.getfield 113, 3) := by decide +kernel
theorem dX1_waterBeasts_86 : decode cX1_waterBeasts 86 = .ok (.iload 6, 2) := by decide +kernel
theorem dX1_waterBeasts_88 : decode cX1_waterBeasts 88 = .ok (.iaload, 1) := by decide +kernel
theorem dX1_waterBeasts_89 : decode cX1_waterBeasts 89 = .ok (.invokestatic 116, 3) := by decide +kernel
theorem dX1_waterBeasts_92 : decode cX1_waterBeasts 92 = .ok (.iload 7, 2) := by decide +kernel
theorem dX1_waterBeasts_94 : decode cX1_waterBeasts 94 = .ok (.aload_n 0, 1) := by decide +kernel
theorem dX1_waterBeasts_95 : decode cX1_waterBeasts 95 = .ok (.getfield 31, 3) := by decide +kernel
theorem dX1_waterBeasts_98 : decode cX1_waterBeasts 98 = .ok (.invokestatic 100, 3) := by decide +kernel
theorem dX1_waterBeasts_101 : decode cX1_waterBeasts 101 = .ok (.invokestatic 100, 3) := by decide +kernel
theorem dX1_waterBeasts_104 : decode cX1_waterBeasts 104 = .ok (.istore 8, 2) := by decide +kernel
theorem dX1_waterBeasts_106 : decode cX1_waterBeasts 106 = .ok (.aload_n 0, 1) := by decide +kernel
theorem dX1_waterBeasts_107 : decode cX1_waterBeasts 107 = .ok (.getfield 18, 3) := by decide +kernel
theorem dX1_waterBeasts_110 : decode cX1_waterBeasts 110 = .ok (.iload 6, 2) := by decide +kernel
theorem dX1_waterBeasts_112 : decode cX1_waterBeasts 112 = .ok (.dup2, 1) := by decide +kernel
theorem dX1_waterBeasts_113 : decode cX1_waterBeasts 113 = .ok (.iaload, 1) := by decide +kernel
theorem dX1_waterBeasts_114 : decode cX1_waterBeasts 114 = .ok (.iload 8, 2) := by decide +kernel
theorem dX1_waterBeasts_116 : decode cX1_waterBeasts 116 = .ok (.iadd, 1) := by decide +kernel
theorem dX1_waterBeasts_117 : decode cX1_waterBeasts 117 = .ok (.iastore, 1) := by decide +kernel
theorem dX1_waterBeasts_118 : decode cX1_waterBeasts 118 = .ok (.aload_n 0, 1) := by decide +kernel
theorem dX1_waterBeasts_119 : decode cX1_waterBeasts 119 = .ok (.dup, 1) := by decide +kernel
theorem dX1_waterBeasts_120 : decode cX1_waterBeasts 120 = .ok (.getfield 31, 3) := by decide +kernel
theorem dX1_waterBeasts_123 : decode cX1_waterBeasts 123 = .ok (.iload 8, 2) := by decide +kernel
theorem dX1_waterBeasts_125 : decode cX1_waterBeasts 125 = .ok (.isub, 1) := by decide +kernel
theorem dX1_waterBeasts_126 : decode cX1_waterBeasts 126 = .ok (.putfield 31, 3) := by decide +kernel
theorem dX1_waterBeasts_129 : decode cX1_waterBeasts 129 = .ok (.iload 4, 2) := by decide +kernel
theorem dX1_waterBeasts_131 : decode cX1_waterBeasts 131 = .ok (.iload 8, 2) := by decide +kernel
theorem dX1_waterBeasts_133 : decode cX1_waterBeasts 133 = .ok (.iadd, 1) := by decide +kernel
theorem dX1_waterBeasts_134 : decode cX1_waterBeasts 134 = .ok (.istore 4, 2) := by decide +kernel
theorem dX1_waterBeasts_136 : decode cX1_waterBeasts 136 = .ok (.aload_n 0, 1) := by decide +kernel
theorem dX1_waterBeasts_137 : decode cX1_waterBeasts 137 = .ok (.aload_n 1, 1) := by decide +kernel
theorem dX1_waterBeasts_138 : decode cX1_waterBeasts 138 = .ok (.getfield 113, 3) := by decide +kernel
theorem dX1_waterBeasts_141 : decode cX1_waterBeasts 141 = .ok (.iload 6, 2) := by decide +kernel
theorem dX1_waterBeasts_143 : decode cX1_waterBeasts 143 = .ok (.iaload, 1) := by decide +kernel
theorem dX1_waterBeasts_144 : decode cX1_waterBeasts 144 = .ok (.iload 6, 2) := by decide +kernel
theorem dX1_waterBeasts_146 : decode cX1_waterBeasts 146 = .ok (.iload 8, 2) := by decide +kernel
theorem dX1_waterBeasts_148 : decode cX1_waterBeasts 148 = .ok (.invokevirtual 120, 3) := by decide +kernel
theorem dX1_waterBeasts_151 : decode cX1_waterBeasts 151 = .ok (.iinc 5 1, 3) := by decide +kernel
theorem dX1_waterBeasts_154 : decode cX1_waterBeasts 154 = .ok (.goto (-143), 3) := by decide +kernel
theorem dX1_waterBeasts_157 : decode cX1_waterBeasts 157 = .ok (.iload 4, 2) := by decide +kernel
theorem dX1_waterBeasts_159 : decode cX1_waterBeasts 159 = .ok (.ireturn, 1) := by decide +kernel
theorem dX1_swell_0 : decode cX1_swell 0 = .ok (.aload_n 0, 1) := by decide +kernel
theorem dX1_swell_1 : decode cX1_swell 1 = .ok (.getfield 25, 3) := by decide +kernel
theorem dX1_swell_4 : decode cX1_swell 4 = .ok (.iload_n 2, 1) := by decide +kernel
theorem dX1_swell_5 : decode cX1_swell 5 = .ok (.iaload, 1) := by decide +kernel
theorem dX1_swell_6 : decode cX1_swell 6 = .ok (.ifCond .le 13, 3) := by decide +kernel
theorem dX1_swell_9 : decode cX1_swell 9 = .ok (.aload_n 0, 1) := by decide +kernel
theorem dX1_swell_10 : decode cX1_swell 10 = .ok (.getfield 25, 3) := by decide +kernel
theorem dX1_swell_13 : decode cX1_swell 13 = .ok (.iload_n 2, 1) := by decide +kernel
theorem dX1_swell_14 : decode cX1_swell 14 = .ok (.dup2, 1) := by decide +kernel
theorem dX1_swell_15 : decode cX1_swell 15 = .ok (.iaload, 1) := by decide +kernel
theorem dX1_swell_16 : decode cX1_swell 16 = .ok (.iconst 1, 1) := by decide +kernel
theorem dX1_swell_17 : decode cX1_swell 17 = .ok (.isub, 1) := by decide +kernel
theorem dX1_swell_18 : decode cX1_swell 18 = .ok (.iastore, 1) := by decide +kernel
theorem dX1_swell_19 : decode cX1_swell 19 = .ok (.aload_n 0, 1) := by decide +kernel
theorem dX1_swell_20 : decode cX1_swell 20 = .ok (.getfield 28, 3) := by decide +kernel
theorem dX1_swell_23 : decode cX1_swell 23 = .ok (.iload_n 2, 1) := by decide +kernel
theorem dX1_swell_24 : decode cX1_swell 24 = .ok (.iload_n 3, 1) := by decide +kernel
theorem dX1_swell_25 : decode cX1_swell 25 = .ok (.ifCond .le 14, 3) := by decide +kernel
theorem dX1_swell_28 : decode cX1_swell 28 = .ok (.aload_n 0, 1) := by decide +kernel
theorem dX1_swell_29 : decode cX1_swell 29 = .ok (.getfield 28, 3) := by decide +kernel
theorem dX1_swell_32 : decode cX1_swell 32 = .ok (.iload_n 2, 1) := by decide +kernel
theorem dX1_swell_33 : decode cX1_swell 33 = .ok (.iaload, 1) := by decide +kernel
theorem dX1_swell_34 : decode cX1_swell 34 = .ok (.iload_n 3, 1) := by decide +kernel
theorem dX1_swell_35 : decode cX1_swell 35 = .ok (.iadd, 1) := by decide +kernel
theorem dX1_swell_36 : decode cX1_swell 36 = .ok (.goto 4, 3) := by decide +kernel
theorem dX1_swell_39 : decode cX1_swell 39 = .ok (.iconst 0, 1) := by decide +kernel
theorem dX1_swell_40 : decode cX1_swell 40 = .ok (.iastore, 1) := by decide +kernel
theorem dX1_swell_41 : decode cX1_swell 41 = .ok (.iload_n 1, 1) := by decide +kernel
theorem dX1_swell_42 : decode cX1_swell 42 = .ok (.iconst 3, 1) := by decide +kernel
theorem dX1_swell_43 : decode cX1_swell 43 = .ok (.if_icmp .ne 28, 3) := by decide +kernel
theorem dX1_swell_46 : decode cX1_swell 46 = .ok (.aload_n 0, 1) := by decide +kernel
theorem dX1_swell_47 : decode cX1_swell 47 = .ok (.getfield 28, 3) := by decide +kernel
theorem dX1_swell_50 : decode cX1_swell 50 = .ok (.iload_n 2, 1) := by decide +kernel
theorem dX1_swell_51 : decode cX1_swell 51 = .ok (.iaload, 1) := by decide +kernel
theorem dX1_swell_52 : decode cX1_swell 52 = .ok (.bipush 12, 2) := by decide +kernel
theorem dX1_swell_54 : decode cX1_swell 54 = .ok (.if_icmp .lt 17, 3) := by decide +kernel
theorem dX1_swell_57 : decode cX1_swell 57 = .ok (.aload_n 0, 1) := by decide +kernel
theorem dX1_swell_58 : decode cX1_swell 58 = .ok (.getfield 25, 3) := by decide +kernel
theorem dX1_swell_61 : decode cX1_swell 61 = .ok (.iload_n 2, 1) := by decide +kernel
theorem dX1_swell_62 : decode cX1_swell 62 = .ok (.iconst 5, 1) := by decide +kernel
theorem dX1_swell_63 : decode cX1_swell 63 = .ok (.iastore, 1) := by decide +kernel
theorem dX1_swell_64 : decode cX1_swell 64 = .ok (.aload_n 0, 1) := by decide +kernel
theorem dX1_swell_65 : decode cX1_swell 65 = .ok (.getfield 28, 3) := by decide +kernel
theorem dX1_swell_68 : decode cX1_swell 68 = .ok (.iload_n 2, 1) := by decide +kernel
theorem dX1_swell_69 : decode cX1_swell 69 = .ok (.iconst 0, 1) := by decide +kernel
theorem dX1_swell_70 : decode cX1_swell 70 = .ok (.iastore, 1) := by decide +kernel
theorem dX1_swell_71 : decode cX1_swell 71 = .ok (.return_, 1) := by decide +kernel
theorem dX1_ropeBreaks_0 : decode cX1_ropeBreaks 0 = .ok (.aload_n 0, 1) := by decide +kernel
theorem dX1_ropeBreaks_1 : decode cX1_ropeBreaks 1 = .ok (.aload_n 0, 1) := by decide +kernel
theorem dX1_ropeBreaks_2 : decode cX1_ropeBreaks 2 = .ok (.getfield 15, 3) := by decide +kernel
theorem dX1_ropeBreaks_5 : decode cX1_ropeBreaks 5 = .ok (.ldc 124, 2) := by decide +kernel
theorem dX1_ropeBreaks_7 : decode cX1_ropeBreaks 7 = .ok (.imul, 1) := by decide +kernel
theorem dX1_ropeBreaks_8 : decode cX1_ropeBreaks 8 = .ok (.sipush 12345, 3) := by decide +kernel
theorem dX1_ropeBreaks_11 : decode cX1_ropeBreaks 11 = .ok (.iadd, 1) := by decide +kernel
theorem dX1_ropeBreaks_12 : decode cX1_ropeBreaks 12 = .ok (.ldc 125, 2) := by decide +kernel
theorem dX1_ropeBreaks_14 : decode cX1_ropeBreaks 14 = .ok (.iand, 1) := by decide +kernel
theorem dX1_ropeBreaks_15 : decode cX1_ropeBreaks 15 = .ok (.putfield 15, 3) := by decide +kernel
theorem dX1_ropeBreaks_18 : decode cX1_ropeBreaks 18 = .ok (.aload_n 0, 1) := by decide +kernel
theorem dX1_ropeBreaks_19 : decode cX1_ropeBreaks 19 = .ok (.getfield 15, 3) := by decide +kernel
theorem dX1_ropeBreaks_22 : decode cX1_ropeBreaks 22 = .ok (.ldc 126, 2) := by decide +kernel
theorem dX1_ropeBreaks_24 : decode cX1_ropeBreaks 24 = .ok (.idiv, 1) := by decide +kernel
theorem dX1_ropeBreaks_25 : decode cX1_ropeBreaks 25 = .ok (.bipush 100, 2) := by decide +kernel
theorem dX1_ropeBreaks_27 : decode cX1_ropeBreaks 27 = .ok (.irem, 1) := by decide +kernel
theorem dX1_ropeBreaks_28 : decode cX1_ropeBreaks 28 = .ok (.aload_n 0, 1) := by decide +kernel
theorem dX1_ropeBreaks_29 : decode cX1_ropeBreaks 29 = .ok (.getfield 34, 3) := by decide +kernel
theorem dX1_ropeBreaks_32 : decode cX1_ropeBreaks 32 = .ok (.bipush 10, 2) := by decide +kernel
theorem dX1_ropeBreaks_34 : decode cX1_ropeBreaks 34 = .ok (.idiv, 1) := by decide +kernel
theorem dX1_ropeBreaks_35 : decode cX1_ropeBreaks 35 = .ok (.if_icmp .lt 5, 3) := by decide +kernel
theorem dX1_ropeBreaks_38 : decode cX1_ropeBreaks 38 = .ok (.iconst 0, 1) := by decide +kernel
theorem dX1_ropeBreaks_39 : decode cX1_ropeBreaks 39 = .ok (.ireturn, 1) := by decide +kernel
theorem dX1_ropeBreaks_40 : decode cX1_ropeBreaks 40 = .ok (.aload_n 0, 1) := by decide +kernel
theorem dX1_ropeBreaks_41 : decode cX1_ropeBreaks 41 = .ok (.iconst 3, 1) := by decide +kernel
theorem dX1_ropeBreaks_42 : decode cX1_ropeBreaks 42 = .ok (.putfield 37, 3) := by decide +kernel
theorem dX1_ropeBreaks_45 : decode cX1_ropeBreaks 45 = .ok (.aload_n 0, 1) := by decide +kernel
theorem dX1_ropeBreaks_46 : decode cX1_ropeBreaks 46 = .ok (.iconst 0, 1) := by decide +kernel
theorem dX1_ropeBreaks_47 : decode cX1_ropeBreaks 47 = .ok (.putfield 34, 3) := by decide +kernel
theorem dX1_ropeBreaks_50 : decode cX1_ropeBreaks 50 = .ok (.iconst 1, 1) := by decide +kernel
theorem dX1_ropeBreaks_51 : decode cX1_ropeBreaks 51 = .ok (.ireturn, 1) := by decide +kernel
theorem dX2_init_0 : decode cX2_init 0 = .ok (.aload_n 0, 1) := by decide +kernel
theorem dX2_init_1 : decode cX2_init 1 = .ok (.invokespecial 3, 3) := by decide +kernel
theorem dX2_init_4 : decode cX2_init 4 = .ok (.aload_n 0, 1) := by decide +kernel
theorem dX2_init_5 : decode cX2_init 5 = .ok (.bipush 8, 2) := by decide +kernel
theorem dX2_init_7 : decode cX2_init 7 = .ok (.anewarray 9, 3) := by decide +kernel
theorem dX2_init_10 : decode cX2_init 10 = .ok (.putfield 11, 3) := by decide +kernel
theorem dX2_init_13 : decode cX2_init 13 = .ok (.iconst 0, 1) := by decide +kernel
theorem dX2_init_14 : decode cX2_init 14 = .ok (.istore_n 1, 1) := by decide +kernel
theorem dX2_init_15 : decode cX2_init 15 = .ok (.iload_n 1, 1) := by decide +kernel
theorem dX2_init_16 : decode cX2_init 16 = .ok (.bipush 8, 2) := by decide +kernel
theorem dX2_init_18 : decode cX2_init 18 = .ok (.if_icmp .ge 22, 3) := by decide +kernel
theorem dX2_init_21 : decode cX2_init 21 = .ok (.aload_n 0, 1) := by decide +kernel
theorem dX2_init_22 : decode cX2_init 22 = .ok (.getfield 11, 3) := by decide +kernel
theorem dX2_init_25 : decode cX2_init 25 = .ok (.iload_n 1, 1) := by decide +kernel
theorem dX2_init_26 : decode cX2_init 26 = .ok (.new 9, 3) := by decide +kernel
theorem dX2_init_29 : decode cX2_init 29 = .ok (.dup, 1) := by decide +kernel
theorem dX2_init_30 : decode cX2_init 30 = .ok (.invokespecial 17, 3) := by decide +kernel
theorem dX2_init_33 : decode cX2_init 33 = .ok (.aastore, 1) := by decide +kernel
theorem dX2_init_34 : decode cX2_init 34 = .ok (.iinc 1 1, 3) := by decide +kernel
theorem dX2_init_37 : decode cX2_init 37 = .ok (.goto (-22), 3) := by decide +kernel
theorem dX2_init_40 : decode cX2_init 40 = .ok (.return_, 1) := by decide +kernel
theorem dX2_takeFrom_0 : decode cX2_takeFrom 0 = .ok (.iconst 0, 1) := by decide +kernel
theorem dX2_takeFrom_1 : decode cX2_takeFrom 1 = .ok (.istore_n 2, 1) := by decide +kernel
theorem dX2_takeFrom_2 : decode cX2_takeFrom 2 = .ok (.iload_n 2, 1) := by decide +kernel
theorem dX2_takeFrom_3 : decode cX2_takeFrom 3 = .ok (.bipush 8, 2) := by decide +kernel
theorem dX2_takeFrom_5 : decode cX2_takeFrom 5 = .ok (.if_icmp .ge 24, 3) := by decide +kernel
theorem dX2_takeFrom_8 : decode cX2_takeFrom 8 = .ok (.aload_n 0, 1) := by decide +kernel
theorem dX2_takeFrom_9 : decode cX2_takeFrom 9 = .ok (.getfield 11, 3) := by decide +kernel
theorem dX2_takeFrom_12 : decode cX2_takeFrom 12 = .ok (.iload_n 2, 1) := by decide +kernel
theorem dX2_takeFrom_13 : decode cX2_takeFrom 13 = .ok (.aaload, 1) := by decide +kernel
theorem dX2_takeFrom_14 : decode cX2_takeFrom 14 = .ok (.aload_n 1, 1) := by decide +kernel
theorem dX2_takeFrom_15 : decode cX2_takeFrom 15 = .ok (.getfield 11, 3) := by decide +kernel
theorem dX2_takeFrom_18 : decode cX2_takeFrom 18 = .ok (.iload_n 2, 1) := by decide +kernel
theorem dX2_takeFrom_19 : decode cX2_takeFrom 19 = .ok (.aaload, 1) := by decide +kernel
theorem dX2_takeFrom_20 : decode cX2_takeFrom 20 = .ok (.invokevirtual 18, 3) := by decide +kernel
theorem dX2_takeFrom_23 : decode cX2_takeFrom 23 = .ok (.iinc 2 1, 3) := by decide +kernel
theorem dX2_takeFrom_26 : decode cX2_takeFrom 26 = .ok (.goto (-24), 3) := by decide +kernel
theorem dX2_takeFrom_29 : decode cX2_takeFrom 29 = .ok (.aload_n 0, 1) := by decide +kernel
theorem dX2_takeFrom_30 : decode cX2_takeFrom 30 = .ok (.aload_n 1, 1) := by decide +kernel
theorem dX2_takeFrom_31 : decode cX2_takeFrom 31 = .ok (.getfield 22, 3) := by decide +kernel
theorem dX2_takeFrom_34 : decode cX2_takeFrom 34 = .ok (.putfield 22, 3) := by decide +kernel
theorem dX2_takeFrom_37 : decode cX2_takeFrom 37 = .ok (.aload_n 0, 1) := by decide +kernel
theorem dX2_takeFrom_38 : decode cX2_takeFrom 38 = .ok (.aload_n 1, 1) := by decide +kernel
theorem dX2_takeFrom_39 : decode cX2_takeFrom 39 = .ok (.getfield 26, 3) := by decide +kernel
theorem dX2_takeFrom_42 : decode cX2_takeFrom 42 = .ok (.putfield 26, 3) := by decide +kernel
theorem dX2_takeFrom_45 : decode cX2_takeFrom 45 = .ok (.return_, 1) := by decide +kernel
theorem dX2_forget_0 : decode cX2_forget 0 = .ok (.aload_n 0, 1) := by decide +kernel
theorem dX2_forget_1 : decode cX2_forget 1 = .ok (.iconst 0, 1) := by decide +kernel
theorem dX2_forget_2 : decode cX2_forget 2 = .ok (.putfield 26, 3) := by decide +kernel
theorem dX2_forget_5 : decode cX2_forget 5 = .ok (.return_, 1) := by decide +kernel
theorem dX2_keep_0 : decode cX2_keep 0 = .ok (.aload_n 0, 1) := by decide +kernel
theorem dX2_keep_1 : decode cX2_keep 1 = .ok (.getfield 11, 3) := by decide +kernel
theorem dX2_keep_4 : decode cX2_keep 4 = .ok (.aload_n 0, 1) := by decide +kernel
theorem dX2_keep_5 : decode cX2_keep 5 = .ok (.getfield 22, 3) := by decide +kernel
theorem dX2_keep_8 : decode cX2_keep 8 = .ok (.aaload, 1) := by decide +kernel
theorem dX2_keep_9 : decode cX2_keep 9 = .ok (.aload_n 1, 1) := by decide +kernel
theorem dX2_keep_10 : decode cX2_keep 10 = .ok (.invokevirtual 18, 3) := by decide +kernel
theorem dX2_keep_13 : decode cX2_keep 13 = .ok (.aload_n 0, 1) := by decide +kernel
theorem dX2_keep_14 : decode cX2_keep 14 = .ok (.aload_n 0, 1) := by decide +kernel
theorem dX2_keep_15 : decode cX2_keep 15 = .ok (.getfield 22, 3) := by decide +kernel
theorem dX2_keep_18 : decode cX2_keep 18 = .ok (.iconst 1, 1) := by decide +kernel
theorem dX2_keep_19 : decode cX2_keep 19 = .ok (.iadd, 1) := by decide +kernel
theorem dX2_keep_20 : decode cX2_keep 20 = .ok (.bipush 8, 2) := by decide +kernel
theorem dX2_keep_22 : decode cX2_keep 22 = .ok (.irem, 1) := by decide +kernel
theorem dX2_keep_23 : decode cX2_keep 23 = .ok (.putfield 22, 3) := by decide +kernel
theorem dX2_keep_26 : decode cX2_keep 26 = .ok (.aload_n 0, 1) := by decide +kernel
theorem dX2_keep_27 : decode cX2_keep 27 = .ok (.bipush 8, 2) := by decide +kernel
theorem dX2_keep_29 : decode cX2_keep 29 = .ok (.aload_n 0, 1) := by decide +kernel
theorem dX2_keep_30 : decode cX2_keep 30 = .ok (.getfield 26, 3) := by decide +kernel
theorem dX2_keep_33 : decode cX2_keep 33 = .ok (.iconst 1, 1) := by decide +kernel
theorem dX2_keep_34 : decode cX2_keep 34 = .ok (.iadd, 1) := by decide +kernel
theorem dX2_keep_35 : decode cX2_keep 35 = .ok (.invokestatic 29, 3) := by decide +kernel
theorem dX2_keep_38 : decode cX2_keep 38 = .ok (.putfield 26, 3) := by decide +kernel
theorem dX2_keep_41 : decode cX2_keep 41 = .ok (.return_, 1) := by decide +kernel
theorem dX2_giveBack_0 : decode cX2_giveBack 0 = .ok (.aload_n 0, 1) := by decide +kernel
theorem dX2_giveBack_1 : decode cX2_giveBack 1 = .ok (.getfield 26, 3) := by decide +kernel
theorem dX2_giveBack_4 : decode cX2_giveBack 4 = .ok (.ifCond .ne 5, 3) := by decide +kernel
theorem dX2_giveBack_7 : decode cX2_giveBack 7 = .ok (.iconst 0, 1) := by decide +kernel
theorem dX2_giveBack_8 : decode cX2_giveBack 8 = .ok (.ireturn, 1) := by decide +kernel
theorem dX2_giveBack_9 : decode cX2_giveBack 9 = .ok (.aload_n 0, 1) := by decide +kernel
theorem dX2_giveBack_10 : decode cX2_giveBack 10 = .ok (.aload_n 0, 1) := by decide +kernel
theorem dX2_giveBack_11 : decode cX2_giveBack 11 = .ok (.getfield 22, 3) := by decide +kernel
theorem dX2_giveBack_14 : decode cX2_giveBack 14 = .ok (.bipush 8, 2) := by decide +kernel
theorem dX2_giveBack_16 : decode cX2_giveBack 16 = .ok (.iadd, 1) := by decide +kernel
theorem dX2_giveBack_17 : decode cX2_giveBack 17 = .ok (.iconst 1, 1) := by decide +kernel
theorem dX2_giveBack_18 : decode cX2_giveBack 18 = .ok (.isub, 1) := by decide +kernel
theorem dX2_giveBack_19 : decode cX2_giveBack 19 = .ok (.bipush 8, 2) := by decide +kernel
theorem dX2_giveBack_21 : decode cX2_giveBack 21 = .ok (.irem, 1) := by decide +kernel
theorem dX2_giveBack_22 : decode cX2_giveBack 22 = .ok (.putfield 22, 3) := by decide +kernel
theorem dX2_giveBack_25 : decode cX2_giveBack 25 = .ok (.aload_n 0, 1) := by decide +kernel
theorem dX2_giveBack_26 : decode cX2_giveBack 26 = .ok (.dup, 1) := by decide +kernel
theorem dX2_giveBack_27 : decode cX2_giveBack 27 = .ok (.getfield 26, 3) := by decide +kernel
theorem dX2_giveBack_30 : decode cX2_giveBack 30 = .ok (.iconst 1, 1) := by decide +kernel
theorem dX2_giveBack_31 : decode cX2_giveBack 31 = .ok (.isub, 1) := by decide +kernel
theorem dX2_giveBack_32 : decode cX2_giveBack 32 = .ok (.putfield 26, 3) := by decide +kernel
theorem dX2_giveBack_35 : decode cX2_giveBack 35 = .ok (.aload_n 1, 1) := by decide +kernel
theorem dX2_giveBack_36 : decode cX2_giveBack 36 = .ok (.aload_n 0, 1) := by decide +kernel
theorem dX2_giveBack_37 : decode cX2_giveBack 37 = .ok (.getfield 11, 3) := by decide +kernel
theorem dX2_giveBack_40 : decode cX2_giveBack 40 = .ok (.aload_n 0, 1) := by decide +kernel
theorem dX2_giveBack_41 : decode cX2_giveBack 41 = .ok (.getfield 22, 3) := by decide +kernel
theorem dX2_giveBack_44 : decode cX2_giveBack 44 = .ok (.aaload, 1) := by decide +kernel
theorem dX2_giveBack_45 : decode cX2_giveBack 45 = .ok (.invokevirtual 18, 3) := by decide +kernel
theorem dX2_giveBack_48 : decode cX2_giveBack 48 = .ok (.iconst 1, 1) := by decide +kernel
theorem dX2_giveBack_49 : decode cX2_giveBack 49 = .ok (.ireturn, 1) := by decide +kernel
theorem dX3_init_0 : decode cX3_init 0 = .ok (.aload_n 0, 1) := by decide +kernel
theorem dX3_init_1 : decode cX3_init 1 = .ok (.invokespecial 3, 3) := by decide +kernel
theorem dX3_init_4 : decode cX3_init 4 = .ok (.aload_n 0, 1) := by decide +kernel
theorem dX3_init_5 : decode cX3_init 5 = .ok (.iconst (-1), 1) := by decide +kernel
theorem dX3_init_6 : decode cX3_init 6 = .ok (.putfield 9, 3) := by decide +kernel
theorem dX3_init_9 : decode cX3_init 9 = .ok (.aload_n 0, 1) := by decide +kernel
theorem dX3_init_10 : decode cX3_init 10 = .ok (.bipush 24, 2) := by decide +kernel
theorem dX3_init_12 : decode cX3_init 12 = .ok (.newarray .long, 2) := by decide +kernel
theorem dX3_init_14 : decode cX3_init 14 = .ok (.putfield 15, 3) := by decide +kernel
theorem dX3_init_17 : decode cX3_init 17 = .ok (.return_, 1) := by decide +kernel
theorem dX3_renew_0 : decode cX3_renew 0 = .ok (.aload_n 0, 1) := by decide +kernel
theorem dX3_renew_1 : decode cX3_renew 1 = .ok (.iload_n 1, 1) := by decide +kernel
theorem dX3_renew_2 : decode cX3_renew 2 = .ok (.putfield 9, 3) := by decide +kernel
theorem dX3_renew_5 : decode cX3_renew 5 = .ok (.aload_n 0, 1) := by decide +kernel
theorem dX3_renew_6 : decode cX3_renew 6 = .ok (.iload_n 2, 1) := by decide +kernel
theorem dX3_renew_7 : decode cX3_renew 7 = .ok (.putfield 19, 3) := by decide +kernel
theorem dX3_renew_10 : decode cX3_renew 10 = .ok (.iconst 0, 1) := by decide +kernel
theorem dX3_renew_11 : decode cX3_renew 11 = .ok (.istore_n 3, 1) := by decide +kernel
theorem dX3_renew_12 : decode cX3_renew 12 = .ok (.iload_n 3, 1) := by decide +kernel
theorem dX3_renew_13 : decode cX3_renew 13 = .ok (.bipush 24, 2) := by decide +kernel
theorem dX3_renew_15 : decode cX3_renew 15 = .ok (.if_icmp .ge 16, 3) := by decide +kernel
theorem dX3_renew_18 : decode cX3_renew 18 = .ok (.aload_n 0, 1) := by decide +kernel
theorem dX3_renew_19 : decode cX3_renew 19 = .ok (.getfield 15, 3) := by decide +kernel
theorem dX3_renew_22 : decode cX3_renew 22 = .ok (.iload_n 3, 1) := by decide +kernel
theorem dX3_renew_23 : decode cX3_renew 23 = .ok (.lconst 0, 1) := by decide +kernel
theorem dX3_renew_24 : decode cX3_renew 24 = .ok (.lastore, 1) := by decide +kernel
theorem dX3_renew_25 : decode cX3_renew 25 = .ok (.iinc 3 1, 3) := by decide +kernel
theorem dX3_renew_28 : decode cX3_renew 28 = .ok (.goto (-16), 3) := by decide +kernel
theorem dX3_renew_31 : decode cX3_renew 31 = .ok (.return_, 1) := by decide +kernel
theorem dX3_lacks_0 : decode cX3_lacks 0 = .ok (.iload_n 1, 1) := by decide +kernel
theorem dX3_lacks_1 : decode cX3_lacks 1 = .ok (.ifCond .lt 17, 3) := by decide +kernel
theorem dX3_lacks_4 : decode cX3_lacks 4 = .ok (.iload_n 2, 1) := by decide +kernel
theorem dX3_lacks_5 : decode cX3_lacks 5 = .ok (.ifCond .lt 13, 3) := by decide +kernel
theorem dX3_lacks_8 : decode cX3_lacks 8 = .ok (.iload_n 1, 1) := by decide +kernel
theorem dX3_lacks_9 : decode cX3_lacks 9 = .ok (.aload_n 0, 1) := by decide +kernel
theorem dX3_lacks_10 : decode cX3_lacks 10 = .ok (.getfield 19, 3) := by decide +kernel
theorem dX3_lacks_13 : decode cX3_lacks 13 = .ok (.iload_n 2, 1) := by decide +kernel
theorem dX3_lacks_14 : decode cX3_lacks 14 = .ok (.isub, 1) := by decide +kernel
theorem dX3_lacks_15 : decode cX3_lacks 15 = .ok (.if_icmp .le 7, 3) := by decide +kernel
theorem dX3_lacks_18 : decode cX3_lacks 18 = .ok (.iconst 1, 1) := by decide +kernel
theorem dX3_lacks_19 : decode cX3_lacks 19 = .ok (.goto 4, 3) := by decide +kernel
theorem dX3_lacks_22 : decode cX3_lacks 22 = .ok (.iconst 0, 1) := by decide +kernel
theorem dX3_lacks_23 : decode cX3_lacks 23 = .ok (.ireturn, 1) := by decide +kernel
theorem dX3_refusal_0 : decode cX3_refusal 0 = .ok (.aload_n 0, 1) := by decide +kernel
theorem dX3_refusal_1 : decode cX3_refusal 1 = .ok (.getfield 9, 3) := by decide +kernel
theorem dX3_refusal_4 : decode cX3_refusal 4 = .ok (.iconst (-1), 1) := by decide +kernel
theorem dX3_refusal_5 : decode cX3_refusal 5 = .ok (.if_icmp .ne 6, 3) := by decide +kernel
theorem dX3_refusal_8 : decode cX3_refusal 8 = .ok (.bipush (-11), 2) := by decide +kernel
theorem dX3_refusal_10 : decode cX3_refusal 10 = .ok (.ireturn, 1) := by decide +kernel
theorem dX3_refusal_11 : decode cX3_refusal 11 = .ok (.aload_n 0, 1) := by decide +kernel
theorem dX3_refusal_12 : decode cX3_refusal 12 = .ok (.getfield 9, 3) := by decide +kernel
theorem dX3_refusal_15 : decode cX3_refusal 15 = .ok (.iload_n 1, 1) := by decide +kernel
theorem dX3_refusal_16 : decode cX3_refusal 16 = .ok (.if_icmp .eq 6, 3) := by decide +kernel
theorem dX3_refusal_19 : decode cX3_refusal 19 = .ok (.bipush (-12), 2) := by decide +kernel
theorem dX3_refusal_21 : decode cX3_refusal 21 = .ok (.ireturn, 1) := by decide +kernel
theorem dX3_refusal_22 : decode cX3_refusal 22 = .ok (.aload_n 0, 1) := by decide +kernel
theorem dX3_refusal_23 : decode cX3_refusal 23 = .ok (.iload_n 2, 1) := by decide +kernel
theorem dX3_refusal_24 : decode cX3_refusal 24 = .ok (.iload_n 3, 1) := by decide +kernel
theorem dX3_refusal_25 : decode cX3_refusal 25 = .ok (.invokevirtual 22, 3) := by decide +kernel
theorem dX3_refusal_28 : decode cX3_refusal 28 = .ok (.ifCond .eq 8, 3) := by decide +kernel
theorem dX3_refusal_31 : decode cX3_refusal 31 = .ok (.bipush (-13), 2) := by decide +kernel
theorem dX3_refusal_33 : decode cX3_refusal 33 = .ok (.goto 4, 3) := by decide +kernel
theorem dX3_refusal_36 : decode cX3_refusal 36 = .ok (.iconst 0, 1) := by decide +kernel
theorem dX3_refusal_37 : decode cX3_refusal 37 = .ok (.ireturn, 1) := by decide +kernel
theorem dX3_put_0 : decode cX3_put 0 = .ok (.aload_n 0, 1) := by decide +kernel
theorem dX3_put_1 : decode cX3_put 1 = .ok (.getfield 9, 3) := by decide +kernel
theorem dX3_put_4 : decode cX3_put 4 = .ok (.tableswitch 66 0 2 #[28, 41, 54], 28) := by decide +kernel
theorem dX3_put_32 : decode cX3_put 32 = .ok (.aload_n 0, 1) := by decide +kernel
theorem dX3_put_33 : decode cX3_put 33 = .ok (.getfield 15, 3) := by decide +kernel
theorem dX3_put_36 : decode cX3_put 36 = .ok (.iload_n 1, 1) := by decide +kernel
theorem dX3_put_37 : decode cX3_put 37 = .ok (.lload_n 2, 1) := by decide +kernel
theorem dX3_put_38 : decode cX3_put 38 = .ok (.l2i, 1) := by decide +kernel
theorem dX3_put_39 : decode cX3_put 39 = .ok (.i2b, 1) := by decide +kernel
theorem dX3_put_40 : decode cX3_put 40 = .ok (.i2l, 1) := by decide +kernel
theorem dX3_put_41 : decode cX3_put 41 = .ok (.lastore, 1) := by decide +kernel
theorem dX3_put_42 : decode cX3_put 42 = .ok (.goto 35, 3) := by decide +kernel
theorem dX3_put_45 : decode cX3_put 45 = .ok (.aload_n 0, 1) := by decide +kernel
theorem dX3_put_46 : decode cX3_put 46 = .ok (.getfield 15, 3) := by decide +kernel
theorem dX3_put_49 : decode cX3_put 49 = .ok (.iload_n 1, 1) := by decide +kernel
theorem dX3_put_50 : decode cX3_put 50 = .ok (.lload_n 2, 1) := by decide +kernel
theorem dX3_put_51 : decode cX3_put 51 = .ok (.l2i, 1) := by decide +kernel
theorem dX3_put_52 : decode cX3_put 52 = .ok (.i2s, 1) := by decide +kernel
theorem dX3_put_53 : decode cX3_put 53 = .ok (.i2l, 1) := by decide +kernel
theorem dX3_put_54 : decode cX3_put 54 = .ok (.lastore, 1) := by decide +kernel
theorem dX3_put_55 : decode cX3_put 55 = .ok (.goto 22, 3) := by decide +kernel
theorem dX3_put_58 : decode cX3_put 58 = .ok (.aload_n 0, 1) := by decide +kernel
theorem dX3_put_59 : decode cX3_put 59 = .ok (.getfield 15, 3) := by decide +kernel
theorem dX3_put_62 : decode cX3_put 62 = .ok (.iload_n 1, 1) := by decide +kernel
theorem dX3_put_63 : decode cX3_put 63 = .ok (.lload_n 2, 1) := by decide +kernel
theorem dX3_put_64 : decode cX3_put 64 = .ok (.l2i, 1) := by decide +kernel
theorem dX3_put_65 : decode cX3_put 65 = .ok (.i2l, 1) := by decide +kernel
theorem dX3_put_66 : decode cX3_put 66 = .ok (.lastore, 1) := by decide +kernel
theorem dX3_put_67 : decode cX3_put 67 = .ok (.goto 10, 3) := by decide +kernel
theorem dX3_put_70 : decode cX3_put 70 = .ok (.aload_n 0, 1) := by decide +kernel
theorem dX3_put_71 : decode cX3_put 71 = .ok (.getfield 15, 3) := by decide +kernel
theorem dX3_put_74 : decode cX3_put 74 = .ok (.iload_n 1, 1) := by decide +kernel
theorem dX3_put_75 : decode cX3_put 75 = .ok (.lload_n 2, 1) := by decide +kernel
theorem dX3_put_76 : decode cX3_put 76 = .ok (.lastore, 1) := by decide +kernel
theorem dX3_put_77 : decode cX3_put 77 = .ok (.return_, 1) := by decide +kernel
theorem dX4_init_0 : decode cX4_init 0 = .ok (.aload_n 0, 1) := by decide +kernel
theorem dX4_init_1 : decode cX4_init 1 = .ok (.invokespecial 3, 3) := by decide +kernel
theorem dX4_init_4 : decode cX4_init 4 = .ok (.aload_n 0, 1) := by decide +kernel
theorem dX4_init_5 : decode cX4_init 5 = .ok (.bipush 60, 2) := by decide +kernel
theorem dX4_init_7 : decode cX4_init 7 = .ok (.newarray .int, 2) := by decide +kernel
theorem dX4_init_9 : decode cX4_init 9 = .ok (.putfield 9, 3) := by decide +kernel
theorem dX4_init_12 : decode cX4_init 12 = .ok (.return_, 1) := by decide +kernel
theorem dX4_put_0 : decode cX4_put 0 = .ok (.aload_n 0, 1) := by decide +kernel
theorem dX4_put_1 : decode cX4_put 1 = .ok (.getfield 15, 3) := by decide +kernel
theorem dX4_put_4 : decode cX4_put 4 = .ok (.bipush 60, 2) := by decide +kernel
theorem dX4_put_6 : decode cX4_put 6 = .ok (.if_icmp .lt 5, 3) := by decide +kernel
theorem dX4_put_9 : decode cX4_put 9 = .ok (.iconst 0, 1) := by decide +kernel
theorem dX4_put_10 : decode cX4_put 10 = .ok (.ireturn, 1) := by decide +kernel
theorem dX4_put_11 : decode cX4_put 11 = .ok (.aload_n 0, 1) := by decide +kernel
theorem dX4_put_12 : decode cX4_put 12 = .ok (.getfield 9, 3) := by decide +kernel
theorem dX4_put_15 : decode cX4_put 15 = .ok (.aload_n 0, 1) := by decide +kernel
theorem dX4_put_16 : decode cX4_put 16 = .ok (.getfield 15, 3) := by decide +kernel
theorem dX4_put_19 : decode cX4_put 19 = .ok (.iload_n 1, 1) := by decide +kernel
theorem dX4_put_20 : decode cX4_put 20 = .ok (.iastore, 1) := by decide +kernel
theorem dX4_put_21 : decode cX4_put 21 = .ok (.aload_n 0, 1) := by decide +kernel
theorem dX4_put_22 : decode cX4_put 22 = .ok (.dup, 1) := by decide +kernel
theorem dX4_put_23 : decode cX4_put 23 = .ok (.getfield 15, 3) := by decide +kernel
theorem dX4_put_26 : decode cX4_put 26 = .ok (.iconst 1, 1) := by decide +kernel
theorem dX4_put_27 : decode cX4_put 27 = .ok (.iadd, 1) := by decide +kernel
theorem dX4_put_28 : decode cX4_put 28 = .ok (.putfield 15, 3) := by decide +kernel
theorem dX4_put_31 : decode cX4_put 31 = .ok (.iconst 1, 1) := by decide +kernel
theorem dX4_put_32 : decode cX4_put 32 = .ok (.ireturn, 1) := by decide +kernel
theorem dX4_readInto_0 : decode cX4_readInto 0 = .ok (.aload_n 0, 1) := by decide +kernel
theorem dX4_readInto_1 : decode cX4_readInto 1 = .ok (.iconst 0, 1) := by decide +kernel
theorem dX4_readInto_2 : decode cX4_readInto 2 = .ok (.putfield 19, 3) := by decide +kernel
theorem dX4_readInto_5 : decode cX4_readInto 5 = .ok (.aload_n 1, 1) := by decide +kernel
theorem dX4_readInto_6 : decode cX4_readInto 6 = .ok (.iconst 0, 1) := by decide +kernel
theorem dX4_readInto_7 : decode cX4_readInto 7 = .ok (.putfield 22, 3) := by decide +kernel
theorem dX4_readInto_10 : decode cX4_readInto 10 = .ok (.aload_n 1, 1) := by decide +kernel
theorem dX4_readInto_11 : decode cX4_readInto 11 = .ok (.bipush (-4), 2) := by decide +kernel
theorem dX4_readInto_13 : decode cX4_readInto 13 = .ok (.putfield 27, 3) := by decide +kernel
theorem dX4_readInto_16 : decode cX4_readInto 16 = .ok (.aload_n 0, 1) := by decide +kernel
theorem dX4_readInto_17 : decode cX4_readInto 17 = .ok (.aload_n 1, 1) := by decide +kernel
theorem dX4_readInto_18 : decode cX4_readInto 18 = .ok (.invokevirtual 30, 3) := by decide +kernel
theorem dX4_readInto_21 : decode cX4_readInto 21 = .ok (.ifCond .eq 18, 3) := by decide +kernel
theorem dX4_readInto_24 : decode cX4_readInto 24 = .ok (.aload_n 0, 1) := by decide +kernel
theorem dX4_readInto_25 : decode cX4_readInto 25 = .ok (.aload_n 1, 1) := by decide +kernel
theorem dX4_readInto_26 : decode cX4_readInto 26 = .ok (.invokevirtual 34, 3) := by decide +kernel
theorem dX4_readInto_29 : decode cX4_readInto 29 = .ok (.ifCond .eq 10, 3) := by decide +kernel
theorem dX4_readInto_32 : decode cX4_readInto 32 = .ok (.aload_n 1, 1) := by decide +kernel
theorem dX4_readInto_33 : decode cX4_readInto 33 = .ok (.getfield 22, 3) := by decide +kernel
theorem dX4_readInto_36 : decode cX4_readInto 36 = .ok (.goto 10, 3) := by decide +kernel
theorem dX4_readInto_39 : decode cX4_readInto 39 = .ok (.bipush (-20), 2) := by decide +kernel
theorem dX4_readInto_41 : decode cX4_readInto 41 = .ok (.aload_n 0, 1) := by decide +kernel
theorem dX4_readInto_42 : decode cX4_readInto 42 = .ok (.getfield 19, 3) := by decide +kernel
theorem dX4_readInto_45 : decode cX4_readInto 45 = .ok (.isub, 1) := by decide +kernel
theorem dX4_readInto_46 : decode cX4_readInto 46 = .ok (.ireturn, 1) := by decide +kernel
theorem dX4_readWell_0 : decode cX4_readWell 0 = .ok (.aload_n 0, 1) := by decide +kernel
theorem dX4_readWell_1 : decode cX4_readWell 1 = .ok (.aload_n 0, 1) := by decide +kernel
theorem dX4_readWell_2 : decode cX4_readWell 2 = .ok (.bipush 60, 2) := by decide +kernel
theorem dX4_readWell_4 : decode cX4_readWell 4 = .ok (.invokevirtual 37, 3) := by decide +kernel
theorem dX4_readWell_7 : decode cX4_readWell 7 = .ok (.putfield 41, 3) := by decide +kernel
theorem dX4_readWell_10 : decode cX4_readWell 10 = .ok (.aload_n 0, 1) := by decide +kernel
theorem dX4_readWell_11 : decode cX4_readWell 11 = .ok (.getfield 41, 3) := by decide +kernel
theorem dX4_readWell_14 : decode cX4_readWell 14 = .ok (.ifCond .lt 12, 3) := by decide +kernel
theorem dX4_readWell_17 : decode cX4_readWell 17 = .ok (.aload_n 0, 1) := by decide +kernel
theorem dX4_readWell_18 : decode cX4_readWell 18 = .ok (.bipush 44, 2) := by decide +kernel
theorem dX4_readWell_20 : decode cX4_readWell 20 = .ok (.invokevirtual 44, 3) := by decide +kernel
theorem dX4_readWell_23 : decode cX4_readWell 23 = .ok (.ifCond .ne 5, 3) := by decide +kernel
theorem dX4_readWell_26 : decode cX4_readWell 26 = .ok (.iconst 0, 1) := by decide +kernel
theorem dX4_readWell_27 : decode cX4_readWell 27 = .ok (.ireturn, 1) := by decide +kernel
theorem dX4_readWell_28 : decode cX4_readWell 28 = .ok (.aload_n 1, 1) := by decide +kernel
theorem dX4_readWell_29 : decode cX4_readWell 29 = .ok (.aload_n 0, 1) := by decide +kernel
theorem dX4_readWell_30 : decode cX4_readWell 30 = .ok (.bipush 20, 2) := by decide +kernel
theorem dX4_readWell_32 : decode cX4_readWell 32 = .ok (.invokevirtual 37, 3) := by decide +kernel
theorem dX4_readWell_35 : decode cX4_readWell 35 = .ok (.putfield 48, 3) := by decide +kernel
theorem dX4_readWell_38 : decode cX4_readWell 38 = .ok (.aload_n 1, 1) := by decide +kernel
theorem dX4_readWell_39 : decode cX4_readWell 39 = .ok (.getfield 48, 3) := by decide +kernel
theorem dX4_readWell_42 : decode cX4_readWell 42 = .ok (.ifCond .lt 16, 3) := by decide +kernel
theorem dX4_readWell_45 : decode cX4_readWell 45 = .ok (.aload_n 0, 1) := by decide +kernel
theorem dX4_readWell_46 : decode cX4_readWell 46 = .ok (.bipush 59, 2) := by decide +kernel
theorem dX4_readWell_48 : decode cX4_readWell 48 = .ok (.invokevirtual 44, 3) := by decide +kernel
theorem dX4_readWell_51 : decode cX4_readWell 51 = .ok (.ifCond .eq 7, 3) := by decide +kernel
theorem dX4_readWell_54 : decode cX4_readWell 54 = .ok (.iconst 1, 1) := by decide +kernel
theorem dX4_readWell_55 : decode cX4_readWell 55 = .ok (.goto 4, 3) := by decide +kernel
theorem dX4_readWell_58 : decode cX4_readWell 58 = .ok (.iconst 0, 1) := by decide +kernel
theorem dX4_readWell_59 : decode cX4_readWell 59 = .ok (.ireturn, 1) := by decide +kernel
theorem dX4_readBeasts_0 : decode cX4_readBeasts 0 = .ok (.iconst 1, 1) := by decide +kernel
theorem dX4_readBeasts_1 : decode cX4_readBeasts 1 = .ok (.istore_n 2, 1) := by decide +kernel
theorem dX4_readBeasts_2 : decode cX4_readBeasts 2 = .ok (.iconst 0, 1) := by decide +kernel
theorem dX4_readBeasts_3 : decode cX4_readBeasts 3 = .ok (.istore_n 3, 1) := by decide +kernel
theorem dX4_readBeasts_4 : decode cX4_readBeasts 4 = .ok (.iload_n 3, 1) := by decide +kernel
theorem dX4_readBeasts_5 : decode cX4_readBeasts 5 = .ok (.bipush 7, 2) := by decide +kernel
theorem dX4_readBeasts_7 : decode cX4_readBeasts 7 = .ok (.if_icmp .ge 44, 3) := by decide +kernel
theorem dX4_readBeasts_10 : decode cX4_readBeasts 10 = .ok (.iload_n 2, 1) := by decide +kernel
theorem dX4_readBeasts_11 : decode cX4_readBeasts 11 = .ok (.ifCond .eq 40, 3) := by decide +kernel
theorem dX4_readBeasts_14 : decode cX4_readBeasts 14 = .ok (.aload_n 0, 1) := by decide +kernel
theorem dX4_readBeasts_15 : decode cX4_readBeasts 15 = .ok (.aload_n 1, 1) := by decide +kernel
theorem dX4_readBeasts_16 : decode cX4_readBeasts 16 = .ok (.invokevirtual 51, 3) := by decide +kernel
theorem dX4_readBeasts_19 : decode cX4_readBeasts 19 = .ok (.ifCond .ne 5, 3) := by decide +kernel
theorem dX4_readBeasts_22 : decode cX4_readBeasts 22 = .ok (.iconst 0, 1) := by decide +kernel
theorem dX4_readBeasts_23 : decode cX4_readBeasts 23 = .ok (.ireturn, 1) := by decide +kernel
theorem dX4_readBeasts_24 : decode cX4_readBeasts 24 = .ok (.iload_n 3, 1) := by decide +kernel
theorem dX4_readBeasts_25 : decode cX4_readBeasts 25 = .ok (.bipush 6, 2) := by decide +kernel
theorem dX4_readBeasts_27 : decode cX4_readBeasts 27 = .ok (.if_icmp .ge 16, 3) := by decide +kernel
theorem dX4_readBeasts_30 : decode cX4_readBeasts 30 = .ok (.aload_n 0, 1) := by decide +kernel
theorem dX4_readBeasts_31 : decode cX4_readBeasts 31 = .ok (.bipush 44, 2) := by decide +kernel
theorem dX4_readBeasts_33 : decode cX4_readBeasts 33 = .ok (.invokevirtual 44, 3) := by decide +kernel
theorem dX4_readBeasts_36 : decode cX4_readBeasts 36 = .ok (.ifCond .eq 7, 3) := by decide +kernel
theorem dX4_readBeasts_39 : decode cX4_readBeasts 39 = .ok (.iconst 1, 1) := by decide +kernel
theorem dX4_readBeasts_40 : decode cX4_readBeasts 40 = .ok (.goto 4, 3) := by decide +kernel
theorem dX4_readBeasts_43 : decode cX4_readBeasts 43 = .ok (.iconst 0, 1) := by decide +kernel
theorem dX4_readBeasts_44 : decode cX4_readBeasts 44 = .ok (.istore_n 2, 1) := by decide +kernel
theorem dX4_readBeasts_45 : decode cX4_readBeasts 45 = .ok (.iinc 3 1, 3) := by decide +kernel
theorem dX4_readBeasts_48 : decode cX4_readBeasts 48 = .ok (.goto (-44), 3) := by decide +kernel
theorem dX4_readBeasts_51 : decode cX4_readBeasts 51 = .ok (.aload_n 0, 1) := by decide +kernel
theorem dX4_readBeasts_52 : decode cX4_readBeasts 52 = .ok (.invokevirtual 54, 3) := by decide +kernel
theorem dX4_readBeasts_55 : decode cX4_readBeasts 55 = .ok (.iconst (-1), 1) := by decide +kernel
theorem dX4_readBeasts_56 : decode cX4_readBeasts 56 = .ok (.if_icmp .ne 7, 3) := by decide +kernel
