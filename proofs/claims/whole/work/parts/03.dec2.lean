theorem dX4_readBeasts_59 : decode cX4_readBeasts 59 = .ok (.iconst 1, 1) := by decide +kernel
theorem dX4_readBeasts_60 : decode cX4_readBeasts 60 = .ok (.goto 4, 3) := by decide +kernel
theorem dX4_readBeasts_63 : decode cX4_readBeasts 63 = .ok (.iconst 0, 1) := by decide +kernel
theorem dX4_readBeasts_64 : decode cX4_readBeasts 64 = .ok (.ireturn, 1) := by decide +kernel
theorem dX4_readBeast_0 : decode cX4_readBeast 0 = .ok (.aload_n 0, 1) := by decide +kernel
theorem dX4_readBeast_1 : decode cX4_readBeast 1 = .ok (.aload_n 0, 1) := by decide +kernel
theorem dX4_readBeast_2 : decode cX4_readBeast 2 = .ok (.invokevirtual 54, 3) := by decide +kernel
theorem dX4_readBeast_5 : decode cX4_readBeast 5 = .ok (.invokevirtual 58, 3) := by decide +kernel
theorem dX4_readBeast_8 : decode cX4_readBeast 8 = .ok (.istore_n 2, 1) := by decide +kernel
theorem dX4_readBeast_9 : decode cX4_readBeast 9 = .ok (.iload_n 2, 1) := by decide +kernel
theorem dX4_readBeast_10 : decode cX4_readBeast 10 = .ok (.bipush (-4), 2) := by decide +kernel
theorem dX4_readBeast_12 : decode cX4_readBeast 12 = .ok (.if_icmp .ne 5, 3) := by decide +kernel
theorem dX4_readBeast_15 : decode cX4_readBeast 15 = .ok (.iconst 0, 1) := by decide +kernel
theorem dX4_readBeast_16 : decode cX4_readBeast 16 = .ok (.ireturn, 1) := by decide +kernel
theorem dX4_readBeast_17 : decode cX4_readBeast 17 = .ok (.aload_n 0, 1) := by decide +kernel
theorem dX4_readBeast_18 : decode cX4_readBeast 18 = .ok (.dup, 1) := by decide +kernel
theorem dX4_readBeast_19 : decode cX4_readBeast 19 = .ok (.getfield 19, 3) := by decide +kernel
theorem dX4_readBeast_22 : decode cX4_readBeast 22 = .ok (.iconst 1, 1) := by decide +kernel
theorem dX4_readBeast_23 : decode cX4_readBeast 23 = .ok (.iadd, 1) := by decide +kernel
theorem dX4_readBeast_24 : decode cX4_readBeast 24 = .ok (.putfield 19, 3) := by decide +kernel
theorem dX4_readBeast_27 : decode cX4_readBeast 27 = .ok (.aload_n 0, 1) := by decide +kernel
theorem dX4_readBeast_28 : decode cX4_readBeast 28 = .ok (.invokevirtual 54, 3) := by decide +kernel
theorem dX4_readBeast_31 : decode cX4_readBeast 31 = .ok (.bipush 48, 2) := by decide +kernel
theorem dX4_readBeast_33 : decode cX4_readBeast 33 = .ok (.isub, 1) := by decide +kernel
theorem dX4_readBeast_34 : decode cX4_readBeast 34 = .ok (.istore_n 3, 1) := by decide +kernel
theorem dX4_readBeast_35 : decode cX4_readBeast 35 = .ok (.iload_n 3, 1) := by decide +kernel
theorem dX4_readBeast_36 : decode cX4_readBeast 36 = .ok (.iconst 1, 1) := by decide +kernel
theorem dX4_readBeast_37 : decode cX4_readBeast 37 = .ok (.bipush 9, 2) := by decide +kernel
theorem dX4_readBeast_39 : decode cX4_readBeast 39 = .ok (.invokestatic 61, 3) := by decide +kernel
theorem dX4_readBeast_42 : decode cX4_readBeast 42 = .ok (.ifCond .eq 5, 3) := by decide +kernel
theorem dX4_readBeast_45 : decode cX4_readBeast 45 = .ok (.iconst 0, 1) := by decide +kernel
theorem dX4_readBeast_46 : decode cX4_readBeast 46 = .ok (.ireturn, 1) := by decide +kernel
theorem dX4_readBeast_47 : decode cX4_readBeast 47 = .ok (.aload_n 0, 1) := by decide +kernel
theorem dX4_readBeast_48 : decode cX4_readBeast 48 = .ok (.dup, 1) := by decide +kernel
theorem dX4_readBeast_49 : decode cX4_readBeast 49 = .ok (.getfield 19, 3) := by decide +kernel
theorem dX4_readBeast_52 : decode cX4_readBeast 52 = .ok (.iconst 1, 1) := by decide +kernel
theorem dX4_readBeast_53 : decode cX4_readBeast 53 = .ok (.iadd, 1) := by decide +kernel
theorem dX4_readBeast_54 : decode cX4_readBeast 54 = .ok (.putfield 19, 3) := by decide +kernel
theorem dX4_readBeast_57 : decode cX4_readBeast 57 = .ok (.aload_n 1, 1) := by decide +kernel
theorem dX4_readBeast_58 : decode cX4_readBeast 58 = .ok (.iload_n 2, 1) := by decide +kernel
theorem dX4_readBeast_59 : decode cX4_readBeast 59 = .ok (.iload_n 3, 1) := by decide +kernel
theorem dX4_readBeast_60 : decode cX4_readBeast 60 = .ok (.aload_n 0, 1) := by decide +kernel
theorem dX4_readBeast_61 : decode cX4_readBeast 61 = .ok (.bipush 98, 2) := by decide +kernel
theorem dX4_readBeast_63 : decode cX4_readBeast 63 = .ok (.invokevirtual 44, 3) := by decide +kernel
theorem dX4_readBeast_66 : decode cX4_readBeast 66 = .ok (.ifCond .eq 7, 3) := by decide +kernel
theorem dX4_readBeast_69 : decode cX4_readBeast 69 = .ok (.iconst 1, 1) := by decide +kernel
theorem dX4_readBeast_70 : decode cX4_readBeast 70 = .ok (.goto 4, 3) := by decide +kernel
theorem dX4_readBeast_73 : decode cX4_readBeast 73 = .ok (.iconst 0, 1) := by decide +kernel
theorem dX4_readBeast_74 : decode cX4_readBeast 74 = .ok (.invokevirtual 65, 3) := by decide +kernel
theorem dX4_readBeast_77 : decode cX4_readBeast 77 = .ok (.iconst 1, 1) := by decide +kernel
theorem dX4_readBeast_78 : decode cX4_readBeast 78 = .ok (.ireturn, 1) := by decide +kernel
theorem dX4_kindOf_0 : decode cX4_kindOf 0 = .ok (.iload_n 1, 1) := by decide +kernel
theorem dX4_kindOf_1 : decode cX4_kindOf 1 = .ok (.lookupswitch 51 #[(103, 49), (109, 45), (112, 43), (121, 47)], 43) := by decide +kernel
theorem dX4_kindOf_44 : decode cX4_kindOf 44 = .ok (.iconst 0, 1) := by decide +kernel
theorem dX4_kindOf_45 : decode cX4_kindOf 45 = .ok (.ireturn, 1) := by decide +kernel
theorem dX4_kindOf_46 : decode cX4_kindOf 46 = .ok (.iconst 1, 1) := by decide +kernel
theorem dX4_kindOf_47 : decode cX4_kindOf 47 = .ok (.ireturn, 1) := by decide +kernel
theorem dX4_kindOf_48 : decode cX4_kindOf 48 = .ok (.iconst 2, 1) := by decide +kernel
theorem dX4_kindOf_49 : decode cX4_kindOf 49 = .ok (.ireturn, 1) := by decide +kernel
theorem dX4_kindOf_50 : decode cX4_kindOf 50 = .ok (.iconst 3, 1) := by decide +kernel
theorem dX4_kindOf_51 : decode cX4_kindOf 51 = .ok (.ireturn, 1) := by decide +kernel
theorem dX4_kindOf_52 : decode cX4_kindOf 52 = .ok (.bipush (-4), 2) := by decide +kernel
theorem dX4_kindOf_54 : decode cX4_kindOf 54 = .ok (.ireturn, 1) := by decide +kernel
theorem dX4_readNumber_0 : decode cX4_readNumber 0 = .ok (.aload_n 0, 1) := by decide +kernel
theorem dX4_readNumber_1 : decode cX4_readNumber 1 = .ok (.aload_n 0, 1) := by decide +kernel
theorem dX4_readNumber_2 : decode cX4_readNumber 2 = .ok (.invokevirtual 54, 3) := by decide +kernel
theorem dX4_readNumber_5 : decode cX4_readNumber 5 = .ok (.invokevirtual 69, 3) := by decide +kernel
theorem dX4_readNumber_8 : decode cX4_readNumber 8 = .ok (.ifCond .ne 6, 3) := by decide +kernel
theorem dX4_readNumber_11 : decode cX4_readNumber 11 = .ok (.bipush (-4), 2) := by decide +kernel
theorem dX4_readNumber_13 : decode cX4_readNumber 13 = .ok (.ireturn, 1) := by decide +kernel
theorem dX4_readNumber_14 : decode cX4_readNumber 14 = .ok (.aload_n 0, 1) := by decide +kernel
theorem dX4_readNumber_15 : decode cX4_readNumber 15 = .ok (.getfield 19, 3) := by decide +kernel
theorem dX4_readNumber_18 : decode cX4_readNumber 18 = .ok (.istore_n 2, 1) := by decide +kernel
theorem dX4_readNumber_19 : decode cX4_readNumber 19 = .ok (.aload_n 0, 1) := by decide +kernel
theorem dX4_readNumber_20 : decode cX4_readNumber 20 = .ok (.getfield 9, 3) := by decide +kernel
theorem dX4_readNumber_23 : decode cX4_readNumber 23 = .ok (.aload_n 0, 1) := by decide +kernel
theorem dX4_readNumber_24 : decode cX4_readNumber 24 = .ok (.getfield 19, 3) := by decide +kernel
theorem dX4_readNumber_27 : decode cX4_readNumber 27 = .ok (.iaload, 1) := by decide +kernel
theorem dX4_readNumber_28 : decode cX4_readNumber 28 = .ok (.bipush 48, 2) := by decide +kernel
theorem dX4_readNumber_30 : decode cX4_readNumber 30 = .ok (.isub, 1) := by decide +kernel
theorem dX4_readNumber_31 : decode cX4_readNumber 31 = .ok (.istore_n 3, 1) := by decide +kernel
theorem dX4_readNumber_32 : decode cX4_readNumber 32 = .ok (.aload_n 0, 1) := by decide +kernel
theorem dX4_readNumber_33 : decode cX4_readNumber 33 = .ok (.dup, 1) := by decide +kernel
theorem dX4_readNumber_34 : decode cX4_readNumber 34 = .ok (.getfield 19, 3) := by decide +kernel
theorem dX4_readNumber_37 : decode cX4_readNumber 37 = .ok (.iconst 1, 1) := by decide +kernel
theorem dX4_readNumber_38 : decode cX4_readNumber 38 = .ok (.iadd, 1) := by decide +kernel
theorem dX4_readNumber_39 : decode cX4_readNumber 39 = .ok (.putfield 19, 3) := by decide +kernel
theorem dX4_readNumber_42 : decode cX4_readNumber 42 = .ok (.aload_n 0, 1) := by decide +kernel
theorem dX4_readNumber_43 : decode cX4_readNumber 43 = .ok (.getfield 19, 3) := by decide +kernel
theorem dX4_readNumber_46 : decode cX4_readNumber 46 = .ok (.aload_n 0, 1) := by decide +kernel
theorem dX4_readNumber_47 : decode cX4_readNumber 47 = .ok (.getfield 15, 3) := by decide +kernel
theorem dX4_readNumber_50 : decode cX4_readNumber 50 = .ok (.if_icmp .ge 47, 3) := by decide +kernel
theorem dX4_readNumber_53 : decode cX4_readNumber 53 = .ok (.aload_n 0, 1) := by decide +kernel
theorem dX4_readNumber_54 : decode cX4_readNumber 54 = .ok (.aload_n 0, 1) := by decide +kernel
theorem dX4_readNumber_55 : decode cX4_readNumber 55 = .ok (.getfield 9, 3) := by decide +kernel
theorem dX4_readNumber_58 : decode cX4_readNumber 58 = .ok (.aload_n 0, 1) := by decide +kernel
theorem dX4_readNumber_59 : decode cX4_readNumber 59 = .ok (.getfield 19, 3) := by decide +kernel
theorem dX4_readNumber_62 : decode cX4_readNumber 62 = .ok (.iaload, 1) := by decide +kernel
theorem dX4_readNumber_63 : decode cX4_readNumber 63 = .ok (.invokevirtual 69, 3) := by decide +kernel
theorem dX4_readNumber_66 : decode cX4_readNumber 66 = .ok (.ifCond .eq 31, 3) := by decide +kernel
theorem dX4_readNumber_69 : decode cX4_readNumber 69 = .ok (.bipush 10, 2) := by decide +kernel
theorem dX4_readNumber_71 : decode cX4_readNumber 71 = .ok (.iload_n 3, 1) := by decide +kernel
theorem dX4_readNumber_72 : decode cX4_readNumber 72 = .ok (.imul, 1) := by decide +kernel
theorem dX4_readNumber_73 : decode cX4_readNumber 73 = .ok (.aload_n 0, 1) := by decide +kernel
theorem dX4_readNumber_74 : decode cX4_readNumber 74 = .ok (.getfield 9, 3) := by decide +kernel
theorem dX4_readNumber_77 : decode cX4_readNumber 77 = .ok (.aload_n 0, 1) := by decide +kernel
theorem dX4_readNumber_78 : decode cX4_readNumber 78 = .ok (.getfield 19, 3) := by decide +kernel
theorem dX4_readNumber_81 : decode cX4_readNumber 81 = .ok (.iaload, 1) := by decide +kernel
theorem dX4_readNumber_82 : decode cX4_readNumber 82 = .ok (.iadd, 1) := by decide +kernel
theorem dX4_readNumber_83 : decode cX4_readNumber 83 = .ok (.bipush 48, 2) := by decide +kernel
theorem dX4_readNumber_85 : decode cX4_readNumber 85 = .ok (.isub, 1) := by decide +kernel
theorem dX4_readNumber_86 : decode cX4_readNumber 86 = .ok (.istore_n 3, 1) := by decide +kernel
theorem dX4_readNumber_87 : decode cX4_readNumber 87 = .ok (.aload_n 0, 1) := by decide +kernel
theorem dX4_readNumber_88 : decode cX4_readNumber 88 = .ok (.dup, 1) := by decide +kernel
theorem dX4_readNumber_89 : decode cX4_readNumber 89 = .ok (.getfield 19, 3) := by decide +kernel
theorem dX4_readNumber_92 : decode cX4_readNumber 92 = .ok (.iconst 1, 1) := by decide +kernel
theorem dX4_readNumber_93 : decode cX4_readNumber 93 = .ok (.iadd, 1) := by decide +kernel
theorem dX4_readNumber_94 : decode cX4_readNumber 94 = .ok (.putfield 19, 3) := by decide +kernel
theorem dX4_readNumber_97 : decode cX4_readNumber 97 = .ok (.iload_n 3, 1) := by decide +kernel
theorem dX4_readNumber_98 : decode cX4_readNumber 98 = .ok (.iload_n 1, 1) := by decide +kernel
theorem dX4_readNumber_99 : decode cX4_readNumber 99 = .ok (.if_icmp .le 11, 3) := by decide +kernel
theorem dX4_readNumber_102 : decode cX4_readNumber 102 = .ok (.aload_n 0, 1) := by decide +kernel
theorem dX4_readNumber_103 : decode cX4_readNumber 103 = .ok (.iload_n 2, 1) := by decide +kernel
theorem dX4_readNumber_104 : decode cX4_readNumber 104 = .ok (.putfield 19, 3) := by decide +kernel
theorem dX4_readNumber_107 : decode cX4_readNumber 107 = .ok (.bipush (-4), 2) := by decide +kernel
theorem dX4_readNumber_109 : decode cX4_readNumber 109 = .ok (.ireturn, 1) := by decide +kernel
theorem dX4_readNumber_110 : decode cX4_readNumber 110 = .ok (.iload_n 3, 1) := by decide +kernel
theorem dX4_readNumber_111 : decode cX4_readNumber 111 = .ok (.ireturn, 1) := by decide +kernel
theorem dX4_digit_0 : decode cX4_digit 0 = .ok (.iload_n 1, 1) := by decide +kernel
theorem dX4_digit_1 : decode cX4_digit 1 = .ok (.bipush 48, 2) := by decide +kernel
theorem dX4_digit_3 : decode cX4_digit 3 = .ok (.if_icmp .lt 13, 3) := by decide +kernel
theorem dX4_digit_6 : decode cX4_digit 6 = .ok (.iload_n 1, 1) := by decide +kernel
theorem dX4_digit_7 : decode cX4_digit 7 = .ok (.bipush 57, 2) := by decide +kernel
theorem dX4_digit_9 : decode cX4_digit 9 = .ok (.if_icmp .gt 7, 3) := by decide +kernel
theorem dX4_digit_12 : decode cX4_digit 12 = .ok (.iconst 1, 1) := by decide +kernel
theorem dX4_digit_13 : decode cX4_digit 13 = .ok (.goto 4, 3) := by decide +kernel
theorem dX4_digit_16 : decode cX4_digit 16 = .ok (.iconst 0, 1) := by decide +kernel
theorem dX4_digit_17 : decode cX4_digit 17 = .ok (.ireturn, 1) := by decide +kernel
theorem dX4_pass_0 : decode cX4_pass 0 = .ok (.aload_n 0, 1) := by decide +kernel
theorem dX4_pass_1 : decode cX4_pass 1 = .ok (.invokevirtual 54, 3) := by decide +kernel
theorem dX4_pass_4 : decode cX4_pass 4 = .ok (.iload_n 1, 1) := by decide +kernel
theorem dX4_pass_5 : decode cX4_pass 5 = .ok (.if_icmp .eq 5, 3) := by decide +kernel
theorem dX4_pass_8 : decode cX4_pass 8 = .ok (.iconst 0, 1) := by decide +kernel
theorem dX4_pass_9 : decode cX4_pass 9 = .ok (.ireturn, 1) := by decide +kernel
theorem dX4_pass_10 : decode cX4_pass 10 = .ok (.aload_n 0, 1) := by decide +kernel
theorem dX4_pass_11 : decode cX4_pass 11 = .ok (.dup, 1) := by decide +kernel
theorem dX4_pass_12 : decode cX4_pass 12 = .ok (.getfield 19, 3) := by decide +kernel
theorem dX4_pass_15 : decode cX4_pass 15 = .ok (.iconst 1, 1) := by decide +kernel
theorem dX4_pass_16 : decode cX4_pass 16 = .ok (.iadd, 1) := by decide +kernel
theorem dX4_pass_17 : decode cX4_pass 17 = .ok (.putfield 19, 3) := by decide +kernel
theorem dX4_pass_20 : decode cX4_pass 20 = .ok (.iconst 1, 1) := by decide +kernel
theorem dX4_pass_21 : decode cX4_pass 21 = .ok (.ireturn, 1) := by decide +kernel
theorem dX4_ahead_0 : decode cX4_ahead 0 = .ok (.aload_n 0, 1) := by decide +kernel
theorem dX4_ahead_1 : decode cX4_ahead 1 = .ok (.getfield 19, 3) := by decide +kernel
theorem dX4_ahead_4 : decode cX4_ahead 4 = .ok (.aload_n 0, 1) := by decide +kernel
theorem dX4_ahead_5 : decode cX4_ahead 5 = .ok (.getfield 15, 3) := by decide +kernel
theorem dX4_ahead_8 : decode cX4_ahead 8 = .ok (.if_icmp .ge 30, 3) := by decide +kernel
theorem dX4_ahead_11 : decode cX4_ahead 11 = .ok (.aload_n 0, 1) := by decide +kernel
theorem dX4_ahead_12 : decode cX4_ahead 12 = .ok (.getfield 9, 3) := by decide +kernel
theorem dX4_ahead_15 : decode cX4_ahead 15 = .ok (.aload_n 0, 1) := by decide +kernel
theorem dX4_ahead_16 : decode cX4_ahead 16 = .ok (.getfield 19, 3) := by decide +kernel
theorem dX4_ahead_19 : decode cX4_ahead 19 = .ok (.iaload, 1) := by decide +kernel
theorem dX4_ahead_20 : decode cX4_ahead 20 = .ok (.bipush 32, 2) := by decide +kernel
theorem dX4_ahead_22 : decode cX4_ahead 22 = .ok (.if_icmp .ne 16, 3) := by decide +kernel
theorem dX4_ahead_25 : decode cX4_ahead 25 = .ok (.aload_n 0, 1) := by decide +kernel
theorem dX4_ahead_26 : decode cX4_ahead 26 = .ok (.dup, 1) := by decide +kernel
theorem dX4_ahead_27 : decode cX4_ahead 27 = .ok (.getfield 19, 3) := by decide +kernel
theorem dX4_ahead_30 : decode cX4_ahead 30 = .ok (.iconst 1, 1) := by decide +kernel
theorem dX4_ahead_31 : decode cX4_ahead 31 = .ok (.iadd, 1) := by decide +kernel
theorem dX4_ahead_32 : decode cX4_ahead 32 = .ok (.putfield 19, 3) := by decide +kernel
theorem dX4_ahead_35 : decode cX4_ahead 35 = .ok (.goto (-35), 3) := by decide +kernel
theorem dX4_ahead_38 : decode cX4_ahead 38 = .ok (.aload_n 0, 1) := by decide +kernel
theorem dX4_ahead_39 : decode cX4_ahead 39 = .ok (.getfield 19, 3) := by decide +kernel
theorem dX4_ahead_42 : decode cX4_ahead 42 = .ok (.aload_n 0, 1) := by decide +kernel
theorem dX4_ahead_43 : decode cX4_ahead 43 = .ok (.getfield 15, 3) := by decide +kernel
theorem dX4_ahead_46 : decode cX4_ahead 46 = .ok (.if_icmp .ge 15, 3) := by decide +kernel
theorem dX4_ahead_49 : decode cX4_ahead 49 = .ok (.aload_n 0, 1) := by decide +kernel
theorem dX4_ahead_50 : decode cX4_ahead 50 = .ok (.getfield 9, 3) := by decide +kernel
theorem dX4_ahead_53 : decode cX4_ahead 53 = .ok (.aload_n 0, 1) := by decide +kernel
theorem dX4_ahead_54 : decode cX4_ahead 54 = .ok (.getfield 19, 3) := by decide +kernel
theorem dX4_ahead_57 : decode cX4_ahead 57 = .ok (.iaload, 1) := by decide +kernel
theorem dX4_ahead_58 : decode cX4_ahead 58 = .ok (.goto 4, 3) := by decide +kernel
theorem dX4_ahead_61 : decode cX4_ahead 61 = .ok (.iconst (-1), 1) := by decide +kernel
theorem dX4_ahead_62 : decode cX4_ahead 62 = .ok (.ireturn, 1) := by decide +kernel
theorem dX5_init_0 : decode cX5_init 0 = .ok (.aload_n 0, 1) := by decide +kernel
theorem dX5_init_1 : decode cX5_init 1 = .ok (.invokespecial 1, 3) := by decide +kernel
theorem dX5_init_4 : decode cX5_init 4 = .ok (.aload_n 0, 1) := by decide +kernel
theorem dX5_init_5 : decode cX5_init 5 = .ok (.new 7, 3) := by decide +kernel
theorem dX5_init_8 : decode cX5_init 8 = .ok (.dup, 1) := by decide +kernel
theorem dX5_init_9 : decode cX5_init 9 = .ok (.invokespecial 9, 3) := by decide +kernel
theorem dX5_init_12 : decode cX5_init 12 = .ok (.putfield 10, 3) := by decide +kernel
theorem dX5_init_15 : decode cX5_init 15 = .ok (.aload_n 0, 1) := by decide +kernel
theorem dX5_init_16 : decode cX5_init 16 = .ok (.new 16, 3) := by decide +kernel
theorem dX5_init_19 : decode cX5_init 19 = .ok (.dup, 1) := by decide +kernel
theorem dX5_init_20 : decode cX5_init 20 = .ok (.invokespecial 18, 3) := by decide +kernel
theorem dX5_init_23 : decode cX5_init 23 = .ok (.putfield 19, 3) := by decide +kernel
theorem dX5_init_26 : decode cX5_init 26 = .ok (.aload_n 0, 1) := by decide +kernel
theorem dX5_init_27 : decode cX5_init 27 = .ok (.new 23, 3) := by decide +kernel
theorem dX5_init_30 : decode cX5_init 30 = .ok (.dup, 1) := by decide +kernel
theorem dX5_init_31 : decode cX5_init 31 = .ok (.invokespecial 25, 3) := by decide +kernel
theorem dX5_init_34 : decode cX5_init 34 = .ok (.putfield 26, 3) := by decide +kernel
theorem dX5_init_37 : decode cX5_init 37 = .ok (.aload_n 0, 1) := by decide +kernel
theorem dX5_init_38 : decode cX5_init 38 = .ok (.new 7, 3) := by decide +kernel
theorem dX5_init_41 : decode cX5_init 41 = .ok (.dup, 1) := by decide +kernel
theorem dX5_init_42 : decode cX5_init 42 = .ok (.invokespecial 9, 3) := by decide +kernel
theorem dX5_init_45 : decode cX5_init 45 = .ok (.putfield 30, 3) := by decide +kernel
theorem dX5_init_48 : decode cX5_init 48 = .ok (.aload_n 0, 1) := by decide +kernel
theorem dX5_init_49 : decode cX5_init 49 = .ok (.new 16, 3) := by decide +kernel
theorem dX5_init_52 : decode cX5_init 52 = .ok (.dup, 1) := by decide +kernel
theorem dX5_init_53 : decode cX5_init 53 = .ok (.invokespecial 18, 3) := by decide +kernel
theorem dX5_init_56 : decode cX5_init 56 = .ok (.putfield 33, 3) := by decide +kernel
theorem dX5_init_59 : decode cX5_init 59 = .ok (.aload_n 0, 1) := by decide +kernel
theorem dX5_init_60 : decode cX5_init 60 = .ok (.new 23, 3) := by decide +kernel
theorem dX5_init_63 : decode cX5_init 63 = .ok (.dup, 1) := by decide +kernel
theorem dX5_init_64 : decode cX5_init 64 = .ok (.invokespecial 25, 3) := by decide +kernel
theorem dX5_init_67 : decode cX5_init 67 = .ok (.putfield 36, 3) := by decide +kernel
theorem dX5_init_70 : decode cX5_init 70 = .ok (.aload_n 0, 1) := by decide +kernel
theorem dX5_init_71 : decode cX5_init 71 = .ok (.new 7, 3) := by decide +kernel
theorem dX5_init_74 : decode cX5_init 74 = .ok (.dup, 1) := by decide +kernel
theorem dX5_init_75 : decode cX5_init 75 = .ok (.invokespecial 9, 3) := by decide +kernel
theorem dX5_init_78 : decode cX5_init 78 = .ok (.putfield 39, 3) := by decide +kernel
theorem dX5_init_81 : decode cX5_init 81 = .ok (.aload_n 0, 1) := by decide +kernel
theorem dX5_init_82 : decode cX5_init 82 = .ok (.new 16, 3) := by decide +kernel
theorem dX5_init_85 : decode cX5_init 85 = .ok (.dup, 1) := by decide +kernel
theorem dX5_init_86 : decode cX5_init 86 = .ok (.invokespecial 18, 3) := by decide +kernel
theorem dX5_init_89 : decode cX5_init 89 = .ok (.putfield 42, 3) := by decide +kernel
theorem dX5_init_92 : decode cX5_init 92 = .ok (.aload_n 0, 1) := by decide +kernel
theorem dX5_init_93 : decode cX5_init 93 = .ok (.bipush 7, 2) := by decide +kernel
theorem dX5_init_95 : decode cX5_init 95 = .ok (.newarray .int, 2) := by decide +kernel
theorem dX5_init_97 : decode cX5_init 97 = .ok (.putfield 45, 3) := by decide +kernel
theorem dX5_init_100 : decode cX5_init 100 = .ok (.aload_n 0, 1) := by decide +kernel
theorem dX5_init_101 : decode cX5_init 101 = .ok (.bipush 8, 2) := by decide +kernel
theorem dX5_init_103 : decode cX5_init 103 = .ok (.newarray .int, 2) := by decide +kernel
theorem dX5_init_105 : decode cX5_init 105 = .ok (.putfield 49, 3) := by decide +kernel
theorem dX5_init_108 : decode cX5_init 108 = .ok (.aload_n 0, 1) := by decide +kernel
theorem dX5_init_109 : decode cX5_init 109 = .ok (.bipush 8, 2) := by decide +kernel
theorem dX5_init_111 : decode cX5_init 111 = .ok (.newarray .int, 2) := by decide +kernel
theorem dX5_init_113 : decode cX5_init 113 = .ok (.putfield 52, 3) := by decide +kernel
theorem dX5_init_116 : decode cX5_init 116 = .ok (.aload_n 0, 1) := by decide +kernel
theorem dX5_init_117 : decode cX5_init 117 = .ok (.new 55, 3) := by decide +kernel
theorem dX5_init_120 : decode cX5_init 120 = .ok (.dup, 1) := by decide +kernel
theorem dX5_init_121 : decode cX5_init 121 = .ok (.invokespecial 57, 3) := by decide +kernel
theorem dX5_init_124 : decode cX5_init 124 = .ok (.putfield 58, 3) := by decide +kernel
theorem dX5_init_127 : decode cX5_init 127 = .ok (.aload_n 0, 1) := by decide +kernel
theorem dX5_init_128 : decode cX5_init 128 = .ok (.iconst 4, 1) := by decide +kernel
theorem dX5_init_129 : decode cX5_init 129 = .ok (.anewarray 62, 3) := by decide +kernel
theorem dX5_init_132 : decode cX5_init 132 = .ok (.putfield 64, 3) := by decide +kernel
theorem dX5_init_135 : decode cX5_init 135 = .ok (.iconst 0, 1) := by decide +kernel
theorem dX5_init_136 : decode cX5_init 136 = .ok (.istore_n 1, 1) := by decide +kernel
theorem dX5_init_137 : decode cX5_init 137 = .ok (.iload_n 1, 1) := by decide +kernel
theorem dX5_init_138 : decode cX5_init 138 = .ok (.iconst 4, 1) := by decide +kernel
theorem dX5_init_139 : decode cX5_init 139 = .ok (.if_icmp .ge 22, 3) := by decide +kernel
theorem dX5_init_142 : decode cX5_init 142 = .ok (.aload_n 0, 1) := by decide +kernel
theorem dX5_init_143 : decode cX5_init 143 = .ok (.getfield 64, 3) := by decide +kernel
theorem dX5_init_146 : decode cX5_init 146 = .ok (.iload_n 1, 1) := by decide +kernel
theorem dX5_init_147 : decode cX5_init 147 = .ok (.new 62, 3) := by decide +kernel
theorem dX5_init_150 : decode cX5_init 150 = .ok (.dup, 1) := by decide +kernel
theorem dX5_init_151 : decode cX5_init 151 = .ok (.invokespecial 68, 3) := by decide +kernel
theorem dX5_init_154 : decode cX5_init 154 = .ok (.aastore, 1) := by decide +kernel
theorem dX5_init_155 : decode cX5_init 155 = .ok (.iinc 1 1, 3) := by decide +kernel
theorem dX5_init_158 : decode cX5_init 158 = .ok (.goto (-21), 3) := by decide +kernel
theorem dX5_init_161 : decode cX5_init 161 = .ok (.return_, 1) := by decide +kernel
theorem dX5_beast_0 : decode cX5_beast 0 = .ok (.iload_n 1, 1) := by decide +kernel
theorem dX5_beast_1 : decode cX5_beast 1 = .ok (.iconst 0, 1) := by decide +kernel
theorem dX5_beast_2 : decode cX5_beast 2 = .ok (.iconst 3, 1) := by decide +kernel
theorem dX5_beast_3 : decode cX5_beast 3 = .ok (.invokestatic 69, 3) := by decide +kernel
theorem dX5_beast_6 : decode cX5_beast 6 = .ok (.ifCond .ne 22, 3) := by decide +kernel
theorem dX5_beast_9 : decode cX5_beast 9 = .ok (.iload_n 2, 1) := by decide +kernel
theorem dX5_beast_10 : decode cX5_beast 10 = .ok (.iconst 1, 1) := by decide +kernel
theorem dX5_beast_11 : decode cX5_beast 11 = .ok (.bipush 9, 2) := by decide +kernel
theorem dX5_beast_13 : decode cX5_beast 13 = .ok (.invokestatic 69, 3) := by decide +kernel
theorem dX5_beast_16 : decode cX5_beast 16 = .ok (.ifCond .ne 12, 3) := by decide +kernel
theorem dX5_beast_19 : decode cX5_beast 19 = .ok (.iload_n 3, 1) := by decide +kernel
theorem dX5_beast_20 : decode cX5_beast 20 = .ok (.iconst 0, 1) := by decide +kernel
theorem dX5_beast_21 : decode cX5_beast 21 = .ok (.iconst 1, 1) := by decide +kernel
theorem dX5_beast_22 : decode cX5_beast 22 = .ok (.invokestatic 69, 3) := by decide +kernel
theorem dX5_beast_25 : decode cX5_beast 25 = .ok (.ifCond .eq 5, 3) := by decide +kernel
theorem dX5_beast_28 : decode cX5_beast 28 = .ok (.iconst (-1), 1) := by decide +kernel
theorem dX5_beast_29 : decode cX5_beast 29 = .ok (.ireturn, 1) := by decide +kernel
theorem dX5_beast_30 : decode cX5_beast 30 = .ok (.aload_n 0, 1) := by decide +kernel
theorem dX5_beast_31 : decode cX5_beast 31 = .ok (.getfield 10, 3) := by decide +kernel
theorem dX5_beast_34 : decode cX5_beast 34 = .ok (.getfield 73, 3) := by decide +kernel
theorem dX5_beast_37 : decode cX5_beast 37 = .ok (.bipush 7, 2) := by decide +kernel
theorem dX5_beast_39 : decode cX5_beast 39 = .ok (.if_icmp .lt 6, 3) := by decide +kernel
theorem dX5_beast_42 : decode cX5_beast 42 = .ok (.bipush (-3), 2) := by decide +kernel
theorem dX5_beast_44 : decode cX5_beast 44 = .ok (.ireturn, 1) := by decide +kernel
theorem dX5_beast_45 : decode cX5_beast 45 = .ok (.aload_n 0, 1) := by decide +kernel
theorem dX5_beast_46 : decode cX5_beast 46 = .ok (.getfield 26, 3) := by decide +kernel
theorem dX5_beast_49 : decode cX5_beast 49 = .ok (.invokevirtual 77, 3) := by decide +kernel
theorem dX5_beast_52 : decode cX5_beast 52 = .ok (.aload_n 0, 1) := by decide +kernel
theorem dX5_beast_53 : decode cX5_beast 53 = .ok (.getfield 10, 3) := by decide +kernel
theorem dX5_beast_56 : decode cX5_beast 56 = .ok (.iload_n 1, 1) := by decide +kernel
theorem dX5_beast_57 : decode cX5_beast 57 = .ok (.iload_n 2, 1) := by decide +kernel
theorem dX5_beast_58 : decode cX5_beast 58 = .ok (.iload_n 3, 1) := by decide +kernel
theorem dX5_beast_59 : decode cX5_beast 59 = .ok (.invokevirtual 80, 3) := by decide +kernel
theorem dX5_beast_62 : decode cX5_beast 62 = .ok (.aload_n 0, 1) := by decide +kernel
theorem dX5_beast_63 : decode cX5_beast 63 = .ok (.getfield 10, 3) := by decide +kernel
theorem dX5_beast_66 : decode cX5_beast 66 = .ok (.getfield 73, 3) := by decide +kernel
theorem dX5_beast_69 : decode cX5_beast 69 = .ok (.iconst 1, 1) := by decide +kernel
theorem dX5_beast_70 : decode cX5_beast 70 = .ok (.isub, 1) := by decide +kernel
theorem dX5_beast_71 : decode cX5_beast 71 = .ok (.ireturn, 1) := by decide +kernel
theorem dX5_of_0 : decode cX5_of 0 = .ok (.aload_n 0, 1) := by decide +kernel
theorem dX5_of_1 : decode cX5_of 1 = .ok (.getfield 10, 3) := by decide +kernel
theorem dX5_of_4 : decode cX5_of 4 = .ok (.iload_n 1, 1) := by decide +kernel
theorem dX5_of_5 : decode cX5_of 5 = .ok (.invokevirtual 84, 3) := by decide +kernel
theorem dX5_of_8 : decode cX5_of 8 = .ok (.ifCond .eq 5, 3) := by decide +kernel
theorem dX5_of_11 : decode cX5_of 11 = .ok (.iconst (-1), 1) := by decide +kernel
theorem dX5_of_12 : decode cX5_of 12 = .ok (.ireturn, 1) := by decide +kernel
theorem dX5_of_13 : decode cX5_of 13 = .ok (.iload_n 2, 1) := by decide +kernel
theorem dX5_of_14 : decode cX5_of 14 = .ok (.tableswitch 157 0 8 #[50, 60, 70, 80, 93, 103, 113, 134, 144], 50) := by decide +kernel
theorem dX5_of_64 : decode cX5_of 64 = .ok (.aload_n 0, 1) := by decide +kernel
theorem dX5_of_65 : decode cX5_of 65 = .ok (.getfield 10, 3) := by decide +kernel
theorem dX5_of_68 : decode cX5_of 68 = .ok (.getfield 88, 3) := by decide +kernel
theorem dX5_of_71 : decode cX5_of 71 = .ok (.iload_n 1, 1) := by decide +kernel
theorem dX5_of_72 : decode cX5_of 72 = .ok (.iaload, 1) := by decide +kernel
theorem dX5_of_73 : decode cX5_of 73 = .ok (.ireturn, 1) := by decide +kernel
theorem dX5_of_74 : decode cX5_of 74 = .ok (.aload_n 0, 1) := by decide +kernel
theorem dX5_of_75 : decode cX5_of 75 = .ok (.getfield 10, 3) := by decide +kernel
theorem dX5_of_78 : decode cX5_of 78 = .ok (.getfield 91, 3) := by decide +kernel
theorem dX5_of_81 : decode cX5_of 81 = .ok (.iload_n 1, 1) := by decide +kernel
theorem dX5_of_82 : decode cX5_of 82 = .ok (.iaload, 1) := by decide +kernel
theorem dX5_of_83 : decode cX5_of 83 = .ok (.ireturn, 1) := by decide +kernel
theorem dX5_of_84 : decode cX5_of 84 = .ok (.aload_n 0, 1) := by decide +kernel
theorem dX5_of_85 : decode cX5_of 85 = .ok (.getfield 10, 3) := by decide +kernel
theorem dX5_of_88 : decode cX5_of 88 = .ok (.getfield 94, 3) := by decide +kernel
theorem dX5_of_91 : decode cX5_of 91 = .ok (.iload_n 1, 1) := by decide +kernel
theorem dX5_of_92 : decode cX5_of 92 = .ok (.iaload, 1) := by decide +kernel
theorem dX5_of_93 : decode cX5_of 93 = .ok (.ireturn, 1) := by decide +kernel
theorem dX5_of_94 : decode cX5_of 94 = .ok (.aload_n 0, 1) := by decide +kernel
theorem dX5_of_95 : decode cX5_of 95 = .ok (.getfield 19, 3) := by decide +kernel
theorem dX5_of_98 : decode cX5_of 98 = .ok (.aload_n 0, 1) := by decide +kernel
theorem dX5_of_99 : decode cX5_of 99 = .ok (.getfield 10, 3) := by decide +kernel
theorem dX5_of_102 : decode cX5_of 102 = .ok (.iload_n 1, 1) := by decide +kernel
theorem dX5_of_103 : decode cX5_of 103 = .ok (.invokevirtual 97, 3) := by decide +kernel
theorem dX5_of_106 : decode cX5_of 106 = .ok (.ireturn, 1) := by decide +kernel
theorem dX5_of_107 : decode cX5_of 107 = .ok (.aload_n 0, 1) := by decide +kernel
theorem dX5_of_108 : decode cX5_of 108 = .ok (.getfield 19, 3) := by decide +kernel
theorem dX5_of_111 : decode cX5_of 111 = .ok (.getfield 101, 3) := by decide +kernel
theorem dX5_of_114 : decode cX5_of 114 = .ok (.iload_n 1, 1) := by decide +kernel
theorem dX5_of_115 : decode cX5_of 115 = .ok (.iaload, 1) := by decide +kernel
theorem dX5_of_116 : decode cX5_of 116 = .ok (.ireturn, 1) := by decide +kernel
theorem dX5_of_117 : decode cX5_of 117 = .ok (.aload_n 0, 1) := by decide +kernel
theorem dX5_of_118 : decode cX5_of 118 = .ok (.getfield 19, 3) := by decide +kernel
theorem dX5_of_121 : decode cX5_of 121 = .ok (.getfield 104, 3) := by decide +kernel
theorem dX5_of_124 : decode cX5_of 124 = .ok (.iload_n 1, 1) := by decide +kernel
theorem dX5_of_125 : decode cX5_of 125 = .ok (.iaload, 1) := by decide +kernel
theorem dX5_of_126 : decode cX5_of 126 = .ok (.ireturn, 1) := by decide +kernel
theorem dX5_of_127 : decode cX5_of 127 = .ok (.aload_n 0, 1) := by decide +kernel
theorem dX5_of_128 : decode cX5_of 128 = .ok (.getfield 19, 3) := by decide +kernel
theorem dX5_of_131 : decode cX5_of 131 = .ok (.aload_n 0, 1) := by decide +kernel
theorem dX5_of_132 : decode cX5_of 132 = .ok (.getfield 10, 3) := by decide +kernel
theorem dX5_of_135 : decode cX5_of 135 = .ok (.iload_n 1, 1) := by decide +kernel
theorem dX5_of_136 : decode cX5_of 136 = .ok (.invokevirtual 107, 3) := by decide +kernel
theorem dX5_of_139 : decode cX5_of 139 = .ok (.ifCond .eq 7, 3) := by decide +kernel
theorem dX5_of_142 : decode cX5_of 142 = .ok (.iconst 1, 1) := by decide +kernel
theorem dX5_of_143 : decode cX5_of 143 = .ok (.goto 4, 3) := by decide +kernel
theorem dX5_of_146 : decode cX5_of 146 = .ok (.iconst 0, 1) := by decide +kernel
theorem dX5_of_147 : decode cX5_of 147 = .ok (.ireturn, 1) := by decide +kernel
theorem dX5_of_148 : decode cX5_of 148 = .ok (.aload_n 0, 1) := by decide +kernel
theorem dX5_of_149 : decode cX5_of 149 = .ok (.getfield 19, 3) := by decide +kernel
theorem dX5_of_152 : decode cX5_of 152 = .ok (.getfield 111, 3) := by decide +kernel
theorem dX5_of_155 : decode cX5_of 155 = .ok (.iload_n 1, 1) := by decide +kernel
theorem dX5_of_156 : decode cX5_of 156 = .ok (.iaload, 1) := by decide +kernel
theorem dX5_of_157 : decode cX5_of 157 = .ok (.ireturn, 1) := by decide +kernel
theorem dX5_of_158 : decode cX5_of 158 = .ok (.aload_n 0, 1) := by decide +kernel
theorem dX5_of_159 : decode cX5_of 159 = .ok (.getfield 10, 3) := by decide +kernel
theorem dX5_of_162 : decode cX5_of 162 = .ok (.getfield 88, 3) := by decide +kernel
theorem dX5_of_165 : decode cX5_of 165 = .ok (.iload_n 1, 1) := by decide +kernel
theorem dX5_of_166 : decode cX5_of 166 = .ok (.iaload, 1) := by decide +kernel
theorem dX5_of_167 : decode cX5_of 167 = .ok (.invokestatic 114, 3) := by decide +kernel
theorem dX5_of_170 : decode cX5_of 170 = .ok (.ireturn, 1) := by decide +kernel
theorem dX5_of_171 : decode cX5_of 171 = .ok (.iconst (-1), 1) := by decide +kernel
theorem dX5_of_172 : decode cX5_of 172 = .ok (.ireturn, 1) := by decide +kernel
theorem dX5_well_0 : decode cX5_well 0 = .ok (.iload_n 1, 1) := by decide +kernel
theorem dX5_well_1 : decode cX5_well 1 = .ok (.iconst 0, 1) := by decide +kernel
theorem dX5_well_2 : decode cX5_well 2 = .ok (.getstatic 118, 3) := by decide +kernel
theorem dX5_well_5 : decode cX5_well 5 = .ok (.arraylength, 1) := by decide +kernel
theorem dX5_well_6 : decode cX5_well 6 = .ok (.iconst 1, 1) := by decide +kernel
theorem dX5_well_7 : decode cX5_well 7 = .ok (.isub, 1) := by decide +kernel
theorem dX5_well_8 : decode cX5_well 8 = .ok (.invokestatic 69, 3) := by decide +kernel
theorem dX5_well_11 : decode cX5_well 11 = .ok (.ifCond .ne 20, 3) := by decide +kernel
theorem dX5_well_14 : decode cX5_well 14 = .ok (.iload_n 2, 1) := by decide +kernel
theorem dX5_well_15 : decode cX5_well 15 = .ok (.getstatic 118, 3) := by decide +kernel
theorem dX5_well_18 : decode cX5_well 18 = .ok (.iload_n 1, 1) := by decide +kernel
theorem dX5_well_19 : decode cX5_well 19 = .ok (.iaload, 1) := by decide +kernel
theorem dX5_well_20 : decode cX5_well 20 = .ok (.getstatic 121, 3) := by decide +kernel
theorem dX5_well_23 : decode cX5_well 23 = .ok (.iload_n 1, 1) := by decide +kernel
theorem dX5_well_24 : decode cX5_well 24 = .ok (.iaload, 1) := by decide +kernel
theorem dX5_well_25 : decode cX5_well 25 = .ok (.invokestatic 69, 3) := by decide +kernel
theorem dX5_well_28 : decode cX5_well 28 = .ok (.ifCond .eq 5, 3) := by decide +kernel
theorem dX5_well_31 : decode cX5_well 31 = .ok (.iconst (-1), 1) := by decide +kernel
theorem dX5_well_32 : decode cX5_well 32 = .ok (.ireturn, 1) := by decide +kernel
theorem dX5_well_33 : decode cX5_well 33 = .ok (.aload_n 0, 1) := by decide +kernel
theorem dX5_well_34 : decode cX5_well 34 = .ok (.iload_n 1, 1) := by decide +kernel
theorem dX5_well_35 : decode cX5_well 35 = .ok (.invokevirtual 124, 3) := by decide +kernel
theorem dX5_well_38 : decode cX5_well 38 = .ok (.istore_n 3, 1) := by decide +kernel
theorem dX5_well_39 : decode cX5_well 39 = .ok (.iload_n 1, 1) := by decide +kernel
theorem dX5_well_40 : decode cX5_well 40 = .ok (.tableswitch 106 0 5 #[40, 51, 62, 73, 84, 95], 40) := by decide +kernel
theorem dX5_well_80 : decode cX5_well 80 = .ok (.aload_n 0, 1) := by decide +kernel
theorem dX5_well_81 : decode cX5_well 81 = .ok (.getfield 19, 3) := by decide +kernel
theorem dX5_well_84 : decode cX5_well 84 = .ok (.iload_n 2, 1) := by decide +kernel
theorem dX5_well_85 : decode cX5_well 85 = .ok (.putfield 127, 3) := by decide +kernel
theorem dX5_well_88 : decode cX5_well 88 = .ok (.goto 66, 3) := by decide +kernel
theorem dX5_well_91 : decode cX5_well 91 = .ok (.aload_n 0, 1) := by decide +kernel
theorem dX5_well_92 : decode cX5_well 92 = .ok (.getfield 10, 3) := by decide +kernel
theorem dX5_well_95 : decode cX5_well 95 = .ok (.iload_n 2, 1) := by decide +kernel
theorem dX5_well_96 : decode cX5_well 96 = .ok (.putfield 130, 3) := by decide +kernel
theorem dX5_well_99 : decode cX5_well 99 = .ok (.goto 55, 3) := by decide +kernel
theorem dX5_well_102 : decode cX5_well 102 = .ok (.aload_n 0, 1) := by decide +kernel
theorem dX5_well_103 : decode cX5_well 103 = .ok (.getfield 10, 3) := by decide +kernel
theorem dX5_well_106 : decode cX5_well 106 = .ok (.iload_n 2, 1) := by decide +kernel
theorem dX5_well_107 : decode cX5_well 107 = .ok (.putfield 133, 3) := by decide +kernel
theorem dX5_well_110 : decode cX5_well 110 = .ok (.goto 44, 3) := by decide +kernel
theorem dX5_well_113 : decode cX5_well 113 = .ok (.aload_n 0, 1) := by decide +kernel
theorem dX5_well_114 : decode cX5_well 114 = .ok (.getfield 10, 3) := by decide +kernel
theorem dX5_well_117 : decode cX5_well 117 = .ok (.iload_n 2, 1) := by decide +kernel
theorem dX5_well_118 : decode cX5_well 118 = .ok (.putfield 136, 3) := by decide +kernel
theorem dX5_well_121 : decode cX5_well 121 = .ok (.goto 33, 3) := by decide +kernel
theorem dX5_well_124 : decode cX5_well 124 = .ok (.aload_n 0, 1) := by decide +kernel
theorem dX5_well_125 : decode cX5_well 125 = .ok (.getfield 10, 3) := by decide +kernel
theorem dX5_well_128 : decode cX5_well 128 = .ok (.iload_n 2, 1) := by decide +kernel
theorem dX5_well_129 : decode cX5_well 129 = .ok (.putfield 139, 3) := by decide +kernel
theorem dX5_well_132 : decode cX5_well 132 = .ok (.goto 22, 3) := by decide +kernel
theorem dX5_well_135 : decode cX5_well 135 = .ok (.aload_n 0, 1) := by decide +kernel
theorem dX5_well_136 : decode cX5_well 136 = .ok (.getfield 10, 3) := by decide +kernel
theorem dX5_well_139 : decode cX5_well 139 = .ok (.iload_n 2, 1) := by decide +kernel
theorem dX5_well_140 : decode cX5_well 140 = .ok (.putfield 142, 3) := by decide +kernel
theorem dX5_well_143 : decode cX5_well 143 = .ok (.goto 11, 3) := by decide +kernel
theorem dX5_well_146 : decode cX5_well 146 = .ok (.aload_n 0, 1) := by decide +kernel
theorem dX5_well_147 : decode cX5_well 147 = .ok (.getfield 10, 3) := by decide +kernel
theorem dX5_well_150 : decode cX5_well 150 = .ok (.iload_n 2, 1) := by decide +kernel
theorem dX5_well_151 : decode cX5_well 151 = .ok (.putfield 145, 3) := by decide +kernel
theorem dX5_well_154 : decode cX5_well 154 = .ok (.iload_n 3, 1) := by decide +kernel
theorem dX5_well_155 : decode cX5_well 155 = .ok (.ireturn, 1) := by decide +kernel
theorem dX5_pull_0 : decode cX5_pull 0 = .ok (.iload_n 1, 1) := by decide +kernel
theorem dX5_pull_1 : decode cX5_pull 1 = .ok (.bipush (-4), 2) := by decide +kernel
theorem dX5_pull_3 : decode cX5_pull 3 = .ok (.if_icmp .eq 16, 3) := by decide +kernel
theorem dX5_pull_6 : decode cX5_pull 6 = .ok (.aload_n 0, 1) := by decide +kernel
theorem dX5_pull_7 : decode cX5_pull 7 = .ok (.getfield 10, 3) := by decide +kernel
theorem dX5_pull_10 : decode cX5_pull 10 = .ok (.iload_n 1, 1) := by decide +kernel
theorem dX5_pull_11 : decode cX5_pull 11 = .ok (.invokevirtual 84, 3) := by decide +kernel
theorem dX5_pull_14 : decode cX5_pull 14 = .ok (.ifCond .eq 5, 3) := by decide +kernel
theorem dX5_pull_17 : decode cX5_pull 17 = .ok (.iconst (-1), 1) := by decide +kernel
theorem dX5_pull_18 : decode cX5_pull 18 = .ok (.ireturn, 1) := by decide +kernel
theorem dX5_pull_19 : decode cX5_pull 19 = .ok (.aload_n 0, 1) := by decide +kernel
theorem dX5_pull_20 : decode cX5_pull 20 = .ok (.getfield 10, 3) := by decide +kernel
theorem dX5_pull_23 : decode cX5_pull 23 = .ok (.getfield 148, 3) := by decide +kernel
theorem dX5_pull_26 : decode cX5_pull 26 = .ok (.istore_n 2, 1) := by decide +kernel
theorem dX5_pull_27 : decode cX5_pull 27 = .ok (.aload_n 0, 1) := by decide +kernel
theorem dX5_pull_28 : decode cX5_pull 28 = .ok (.getfield 10, 3) := by decide +kernel
theorem dX5_pull_31 : decode cX5_pull 31 = .ok (.iload_n 1, 1) := by decide +kernel
theorem dX5_pull_32 : decode cX5_pull 32 = .ok (.putfield 148, 3) := by decide +kernel
theorem dX5_pull_35 : decode cX5_pull 35 = .ok (.iload_n 2, 1) := by decide +kernel
theorem dX5_pull_36 : decode cX5_pull 36 = .ok (.ireturn, 1) := by decide +kernel
theorem dX5_turn_0 : decode cX5_turn 0 = .ok (.aload_n 0, 1) := by decide +kernel
theorem dX5_turn_1 : decode cX5_turn 1 = .ok (.getfield 10, 3) := by decide +kernel
theorem dX5_turn_4 : decode cX5_turn 4 = .ok (.iload_n 1, 1) := by decide +kernel
theorem dX5_turn_5 : decode cX5_turn 5 = .ok (.invokevirtual 84, 3) := by decide +kernel
theorem dX5_turn_8 : decode cX5_turn 8 = .ok (.ifCond .eq 5, 3) := by decide +kernel
theorem dX5_turn_11 : decode cX5_turn 11 = .ok (.iconst (-1), 1) := by decide +kernel
theorem dX5_turn_12 : decode cX5_turn 12 = .ok (.ireturn, 1) := by decide +kernel
theorem dX5_turn_13 : decode cX5_turn 13 = .ok (.aload_n 0, 1) := by decide +kernel
theorem dX5_turn_14 : decode cX5_turn 14 = .ok (.getfield 10, 3) := by decide +kernel
theorem dX5_turn_17 : decode cX5_turn 17 = .ok (.invokevirtual 151, 3) := by decide +kernel
theorem dX5_turn_20 : decode cX5_turn 20 = .ok (.aload_n 0, 1) := by decide +kernel
theorem dX5_turn_21 : decode cX5_turn 21 = .ok (.getfield 10, 3) := by decide +kernel
theorem dX5_turn_24 : decode cX5_turn 24 = .ok (.getfield 154, 3) := by decide +kernel
theorem dX5_turn_27 : decode cX5_turn 27 = .ok (.iload_n 1, 1) := by decide +kernel
theorem dX5_turn_28 : decode cX5_turn 28 = .ok (.iaload, 1) := by decide +kernel
theorem dX5_turn_29 : decode cX5_turn 29 = .ok (.ireturn, 1) := by decide +kernel
theorem dX5_type_0 : decode cX5_type 0 = .ok (.iload_n 1, 1) := by decide +kernel
theorem dX5_type_1 : decode cX5_type 1 = .ok (.bipush 32, 2) := by decide +kernel
theorem dX5_type_3 : decode cX5_type 3 = .ok (.bipush 126, 2) := by decide +kernel
theorem dX5_type_5 : decode cX5_type 5 = .ok (.invokestatic 69, 3) := by decide +kernel
theorem dX5_type_8 : decode cX5_type 8 = .ok (.ifCond .eq 5, 3) := by decide +kernel
theorem dX5_type_11 : decode cX5_type 11 = .ok (.iconst (-1), 1) := by decide +kernel
theorem dX5_type_12 : decode cX5_type 12 = .ok (.ireturn, 1) := by decide +kernel
theorem dX5_type_13 : decode cX5_type 13 = .ok (.aload_n 0, 1) := by decide +kernel
theorem dX5_type_14 : decode cX5_type 14 = .ok (.getfield 58, 3) := by decide +kernel
theorem dX5_type_17 : decode cX5_type 17 = .ok (.iload_n 1, 1) := by decide +kernel
theorem dX5_type_18 : decode cX5_type 18 = .ok (.invokevirtual 157, 3) := by decide +kernel
theorem dX5_type_21 : decode cX5_type 21 = .ok (.ifCond .eq 13, 3) := by decide +kernel
theorem dX5_type_24 : decode cX5_type 24 = .ok (.aload_n 0, 1) := by decide +kernel
theorem dX5_type_25 : decode cX5_type 25 = .ok (.getfield 58, 3) := by decide +kernel
theorem dX5_type_28 : decode cX5_type 28 = .ok (.getfield 160, 3) := by decide +kernel
theorem dX5_type_31 : decode cX5_type 31 = .ok (.goto 5, 3) := by decide +kernel
theorem dX5_type_34 : decode cX5_type 34 = .ok (.bipush (-3), 2) := by decide +kernel
theorem dX5_type_36 : decode cX5_type 36 = .ok (.ireturn, 1) := by decide +kernel
theorem dX5_caravan_0 : decode cX5_caravan 0 = .ok (.aload_n 0, 1) := by decide +kernel
theorem dX5_caravan_1 : decode cX5_caravan 1 = .ok (.getfield 39, 3) := by decide +kernel
theorem dX5_caravan_4 : decode cX5_caravan 4 = .ok (.aload_n 0, 1) := by decide +kernel
theorem dX5_caravan_5 : decode cX5_caravan 5 = .ok (.getfield 10, 3) := by decide +kernel
theorem dX5_caravan_8 : decode cX5_caravan 8 = .ok (.invokevirtual 163, 3) := by decide +kernel
theorem dX5_caravan_11 : decode cX5_caravan 11 = .ok (.aload_n 0, 1) := by decide +kernel
theorem dX5_caravan_12 : decode cX5_caravan 12 = .ok (.getfield 58, 3) := by decide +kernel
theorem dX5_caravan_15 : decode cX5_caravan 15 = .ok (.aload_n 0, 1) := by decide +kernel
theorem dX5_caravan_16 : decode cX5_caravan 16 = .ok (.getfield 39, 3) := by decide +kernel
theorem dX5_caravan_19 : decode cX5_caravan 19 = .ok (.invokevirtual 167, 3) := by decide +kernel
theorem dX5_caravan_22 : decode cX5_caravan 22 = .ok (.istore_n 1, 1) := by decide +kernel
theorem dX5_caravan_23 : decode cX5_caravan 23 = .ok (.aload_n 0, 1) := by decide +kernel
theorem dX5_caravan_24 : decode cX5_caravan 24 = .ok (.getfield 58, 3) := by decide +kernel
theorem dX5_caravan_27 : decode cX5_caravan 27 = .ok (.iconst 0, 1) := by decide +kernel
theorem dX5_caravan_28 : decode cX5_caravan 28 = .ok (.putfield 160, 3) := by decide +kernel
theorem dX5_caravan_31 : decode cX5_caravan 31 = .ok (.iload_n 1, 1) := by decide +kernel
theorem dX5_caravan_32 : decode cX5_caravan 32 = .ok (.ifCond .le 35, 3) := by decide +kernel
theorem dX5_caravan_35 : decode cX5_caravan 35 = .ok (.aload_n 0, 1) := by decide +kernel
theorem dX5_caravan_36 : decode cX5_caravan 36 = .ok (.getfield 10, 3) := by decide +kernel
theorem dX5_caravan_39 : decode cX5_caravan 39 = .ok (.aload_n 0, 1) := by decide +kernel
theorem dX5_caravan_40 : decode cX5_caravan 40 = .ok (.getfield 39, 3) := by decide +kernel
theorem dX5_caravan_43 : decode cX5_caravan 43 = .ok (.invokevirtual 163, 3) := by decide +kernel
theorem dX5_caravan_46 : decode cX5_caravan 46 = .ok (.aload_n 0, 1) := by decide +kernel
theorem dX5_caravan_47 : decode cX5_caravan 47 = .ok (.getfield 19, 3) := by decide +kernel
theorem dX5_caravan_50 : decode cX5_caravan 50 = .ok (.aload_n 0, 1) := by decide +kernel
theorem dX5_caravan_51 : decode cX5_caravan 51 = .ok (.getfield 58, 3) := by decide +kernel
theorem dX5_caravan_54 : decode cX5_caravan 54 = .ok (.getfield 171, 3) := by decide +kernel
theorem dX5_caravan_57 : decode cX5_caravan 57 = .ok (.invokevirtual 172, 3) := by decide +kernel
theorem dX5_caravan_60 : decode cX5_caravan 60 = .ok (.aload_n 0, 1) := by decide +kernel
theorem dX5_caravan_61 : decode cX5_caravan 61 = .ok (.getfield 26, 3) := by decide +kernel
theorem dX5_caravan_64 : decode cX5_caravan 64 = .ok (.invokevirtual 77, 3) := by decide +kernel
theorem dX5_caravan_67 : decode cX5_caravan 67 = .ok (.iload_n 1, 1) := by decide +kernel
theorem dX5_caravan_68 : decode cX5_caravan 68 = .ok (.ireturn, 1) := by decide +kernel
theorem dX5_count_0 : decode cX5_count 0 = .ok (.iload_n 1, 1) := by decide +kernel
theorem dX5_count_1 : decode cX5_count 1 = .ok (.tableswitch 172 0 15 #[79, 87, 95, 103, 111, 119, 127, 135, 147, 155, 155, 155, 155, 155, 155, 164], 79) := by decide +kernel
theorem dX5_count_80 : decode cX5_count 80 = .ok (.aload_n 0, 1) := by decide +kernel
theorem dX5_count_81 : decode cX5_count 81 = .ok (.getfield 10, 3) := by decide +kernel
theorem dX5_count_84 : decode cX5_count 84 = .ok (.getfield 73, 3) := by decide +kernel
theorem dX5_count_87 : decode cX5_count 87 = .ok (.ireturn, 1) := by decide +kernel
theorem dX5_count_88 : decode cX5_count 88 = .ok (.aload_n 0, 1) := by decide +kernel
theorem dX5_count_89 : decode cX5_count 89 = .ok (.getfield 19, 3) := by decide +kernel
theorem dX5_count_92 : decode cX5_count 92 = .ok (.getfield 176, 3) := by decide +kernel
theorem dX5_count_95 : decode cX5_count 95 = .ok (.ireturn, 1) := by decide +kernel
theorem dX5_count_96 : decode cX5_count 96 = .ok (.aload_n 0, 1) := by decide +kernel
theorem dX5_count_97 : decode cX5_count 97 = .ok (.getfield 19, 3) := by decide +kernel
theorem dX5_count_100 : decode cX5_count 100 = .ok (.getfield 127, 3) := by decide +kernel
theorem dX5_count_103 : decode cX5_count 103 = .ok (.ireturn, 1) := by decide +kernel
theorem dX5_count_104 : decode cX5_count 104 = .ok (.aload_n 0, 1) := by decide +kernel
theorem dX5_count_105 : decode cX5_count 105 = .ok (.getfield 19, 3) := by decide +kernel
theorem dX5_count_108 : decode cX5_count 108 = .ok (.getfield 179, 3) := by decide +kernel
theorem dX5_count_111 : decode cX5_count 111 = .ok (.ireturn, 1) := by decide +kernel
theorem dX5_count_112 : decode cX5_count 112 = .ok (.aload_n 0, 1) := by decide +kernel
theorem dX5_count_113 : decode cX5_count 113 = .ok (.getfield 19, 3) := by decide +kernel
theorem dX5_count_116 : decode cX5_count 116 = .ok (.getfield 182, 3) := by decide +kernel
theorem dX5_count_119 : decode cX5_count 119 = .ok (.ireturn, 1) := by decide +kernel
theorem dX5_count_120 : decode cX5_count 120 = .ok (.aload_n 0, 1) := by decide +kernel
theorem dX5_count_121 : decode cX5_count 121 = .ok (.getfield 19, 3) := by decide +kernel
theorem dX5_count_124 : decode cX5_count 124 = .ok (.getfield 185, 3) := by decide +kernel
theorem dX5_count_127 : decode cX5_count 127 = .ok (.ireturn, 1) := by decide +kernel
theorem dX5_count_128 : decode cX5_count 128 = .ok (.aload_n 0, 1) := by decide +kernel
theorem dX5_count_129 : decode cX5_count 129 = .ok (.getfield 26, 3) := by decide +kernel
theorem dX5_count_132 : decode cX5_count 132 = .ok (.getfield 188, 3) := by decide +kernel
theorem dX5_count_135 : decode cX5_count 135 = .ok (.ireturn, 1) := by decide +kernel
theorem dX5_count_136 : decode cX5_count 136 = .ok (.aload_n 0, 1) := by decide +kernel
theorem dX5_count_137 : decode cX5_count 137 = .ok (.getfield 19, 3) := by decide +kernel
theorem dX5_count_140 : decode cX5_count 140 = .ok (.aload_n 0, 1) := by decide +kernel
theorem dX5_count_141 : decode cX5_count 141 = .ok (.getfield 10, 3) := by decide +kernel
theorem dX5_count_144 : decode cX5_count 144 = .ok (.invokevirtual 191, 3) := by decide +kernel
theorem dX5_count_147 : decode cX5_count 147 = .ok (.ireturn, 1) := by decide +kernel
theorem dX5_count_148 : decode cX5_count 148 = .ok (.aload_n 0, 1) := by decide +kernel
theorem dX5_count_149 : decode cX5_count 149 = .ok (.getfield 19, 3) := by decide +kernel
theorem dX5_count_152 : decode cX5_count 152 = .ok (.invokevirtual 194, 3) := by decide +kernel
theorem dX5_count_155 : decode cX5_count 155 = .ok (.ireturn, 1) := by decide +kernel
theorem dX5_count_156 : decode cX5_count 156 = .ok (.aload_n 0, 1) := by decide +kernel
theorem dX5_count_157 : decode cX5_count 157 = .ok (.iload_n 1, 1) := by decide +kernel
theorem dX5_count_158 : decode cX5_count 158 = .ok (.bipush 8, 2) := by decide +kernel
theorem dX5_count_160 : decode cX5_count 160 = .ok (.isub, 1) := by decide +kernel
theorem dX5_count_161 : decode cX5_count 161 = .ok (.invokevirtual 124, 3) := by decide +kernel
theorem dX5_count_164 : decode cX5_count 164 = .ok (.ireturn, 1) := by decide +kernel
theorem dX5_count_165 : decode cX5_count 165 = .ok (.aload_n 0, 1) := by decide +kernel
theorem dX5_count_166 : decode cX5_count 166 = .ok (.getfield 10, 3) := by decide +kernel
theorem dX5_count_169 : decode cX5_count 169 = .ok (.getfield 148, 3) := by decide +kernel
theorem dX5_count_172 : decode cX5_count 172 = .ok (.ireturn, 1) := by decide +kernel
theorem dX5_count_173 : decode cX5_count 173 = .ok (.iconst (-1), 1) := by decide +kernel
theorem dX5_count_174 : decode cX5_count 174 = .ok (.ireturn, 1) := by decide +kernel
theorem dX5_measure_0 : decode cX5_measure 0 = .ok (.iload_n 1, 1) := by decide +kernel
theorem dX5_measure_1 : decode cX5_measure 1 = .ok (.tableswitch 87 0 5 #[39, 47, 55, 63, 71, 79], 39) := by decide +kernel
theorem dX5_measure_40 : decode cX5_measure 40 = .ok (.aload_n 0, 1) := by decide +kernel
theorem dX5_measure_41 : decode cX5_measure 41 = .ok (.getfield 19, 3) := by decide +kernel
theorem dX5_measure_44 : decode cX5_measure 44 = .ok (.getfield 127, 3) := by decide +kernel
theorem dX5_measure_47 : decode cX5_measure 47 = .ok (.ireturn, 1) := by decide +kernel
theorem dX5_measure_48 : decode cX5_measure 48 = .ok (.aload_n 0, 1) := by decide +kernel
theorem dX5_measure_49 : decode cX5_measure 49 = .ok (.getfield 10, 3) := by decide +kernel
theorem dX5_measure_52 : decode cX5_measure 52 = .ok (.getfield 130, 3) := by decide +kernel
theorem dX5_measure_55 : decode cX5_measure 55 = .ok (.ireturn, 1) := by decide +kernel
theorem dX5_measure_56 : decode cX5_measure 56 = .ok (.aload_n 0, 1) := by decide +kernel
theorem dX5_measure_57 : decode cX5_measure 57 = .ok (.getfield 10, 3) := by decide +kernel
theorem dX5_measure_60 : decode cX5_measure 60 = .ok (.getfield 133, 3) := by decide +kernel
theorem dX5_measure_63 : decode cX5_measure 63 = .ok (.ireturn, 1) := by decide +kernel
theorem dX5_measure_64 : decode cX5_measure 64 = .ok (.aload_n 0, 1) := by decide +kernel
theorem dX5_measure_65 : decode cX5_measure 65 = .ok (.getfield 10, 3) := by decide +kernel
theorem dX5_measure_68 : decode cX5_measure 68 = .ok (.getfield 136, 3) := by decide +kernel
theorem dX5_measure_71 : decode cX5_measure 71 = .ok (.ireturn, 1) := by decide +kernel
theorem dX5_measure_72 : decode cX5_measure 72 = .ok (.aload_n 0, 1) := by decide +kernel
theorem dX5_measure_73 : decode cX5_measure 73 = .ok (.getfield 10, 3) := by decide +kernel
theorem dX5_measure_76 : decode cX5_measure 76 = .ok (.getfield 139, 3) := by decide +kernel
theorem dX5_measure_79 : decode cX5_measure 79 = .ok (.ireturn, 1) := by decide +kernel
theorem dX5_measure_80 : decode cX5_measure 80 = .ok (.aload_n 0, 1) := by decide +kernel
theorem dX5_measure_81 : decode cX5_measure 81 = .ok (.getfield 10, 3) := by decide +kernel
theorem dX5_measure_84 : decode cX5_measure 84 = .ok (.getfield 142, 3) := by decide +kernel
theorem dX5_measure_87 : decode cX5_measure 87 = .ok (.ireturn, 1) := by decide +kernel
theorem dX5_measure_88 : decode cX5_measure 88 = .ok (.aload_n 0, 1) := by decide +kernel
theorem dX5_measure_89 : decode cX5_measure 89 = .ok (.getfield 10, 3) := by decide +kernel
theorem dX5_measure_92 : decode cX5_measure 92 = .ok (.getfield 145, 3) := by decide +kernel
theorem dX5_measure_95 : decode cX5_measure 95 = .ok (.ireturn, 1) := by decide +kernel
theorem dX5_minutes_0 : decode cX5_minutes 0 = .ok (.aload_n 0, 1) := by decide +kernel
theorem dX5_minutes_1 : decode cX5_minutes 1 = .ok (.iload_n 1, 1) := by decide +kernel
theorem dX5_minutes_2 : decode cX5_minutes 2 = .ok (.invokevirtual 198, 3) := by decide +kernel
theorem dX5_minutes_5 : decode cX5_minutes 5 = .ok (.istore_n 2, 1) := by decide +kernel
theorem dX5_minutes_6 : decode cX5_minutes 6 = .ok (.iload_n 2, 1) := by decide +kernel
theorem dX5_minutes_7 : decode cX5_minutes 7 = .ok (.ifCond .eq 5, 3) := by decide +kernel
theorem dX5_minutes_10 : decode cX5_minutes 10 = .ok (.iload_n 2, 1) := by decide +kernel
theorem dX5_minutes_11 : decode cX5_minutes 11 = .ok (.ireturn, 1) := by decide +kernel
theorem dX5_minutes_12 : decode cX5_minutes 12 = .ok (.aload_n 0, 1) := by decide +kernel
theorem dX5_minutes_13 : decode cX5_minutes 13 = .ok (.getfield 10, 3) := by decide +kernel
theorem dX5_minutes_16 : decode cX5_minutes 16 = .ok (.invokevirtual 151, 3) := by decide +kernel
theorem dX5_minutes_19 : decode cX5_minutes 19 = .ok (.aload_n 0, 1) := by decide +kernel
theorem dX5_minutes_20 : decode cX5_minutes 20 = .ok (.getfield 19, 3) := by decide +kernel
theorem dX5_minutes_23 : decode cX5_minutes 23 = .ok (.invokevirtual 194, 3) := by decide +kernel
theorem dX5_minutes_26 : decode cX5_minutes 26 = .ok (.istore_n 3, 1) := by decide +kernel
theorem dX5_minutes_27 : decode cX5_minutes 27 = .ok (.iconst 0, 1) := by decide +kernel
theorem dX5_minutes_28 : decode cX5_minutes 28 = .ok (.istore 4, 2) := by decide +kernel
theorem dX5_minutes_30 : decode cX5_minutes 30 = .ok (.iload 4, 2) := by decide +kernel
theorem dX5_minutes_32 : decode cX5_minutes 32 = .ok (.iload_n 1, 1) := by decide +kernel
theorem dX5_minutes_33 : decode cX5_minutes 33 = .ok (.if_icmp .ge 34, 3) := by decide +kernel
theorem dX5_minutes_36 : decode cX5_minutes 36 = .ok (.aload_n 0, 1) := by decide +kernel
theorem dX5_minutes_37 : decode cX5_minutes 37 = .ok (.getfield 26, 3) := by decide +kernel
theorem dX5_minutes_40 : decode cX5_minutes 40 = .ok (.aload_n 0, 1) := by decide +kernel
theorem dX5_minutes_41 : decode cX5_minutes 41 = .ok (.getfield 19, 3) := by decide +kernel
theorem dX5_minutes_44 : decode cX5_minutes 44 = .ok (.invokevirtual 201, 3) := by decide +kernel
theorem dX5_minutes_47 : decode cX5_minutes 47 = .ok (.aload_n 0, 1) := by decide +kernel
theorem dX5_minutes_48 : decode cX5_minutes 48 = .ok (.getfield 19, 3) := by decide +kernel
theorem dX5_minutes_51 : decode cX5_minutes 51 = .ok (.aload_n 0, 1) := by decide +kernel
theorem dX5_minutes_52 : decode cX5_minutes 52 = .ok (.getfield 10, 3) := by decide +kernel
theorem dX5_minutes_55 : decode cX5_minutes 55 = .ok (.bipush 127, 2) := by decide +kernel
theorem dX5_minutes_57 : decode cX5_minutes 57 = .ok (.invokevirtual 205, 3) := by decide +kernel
theorem dX5_minutes_60 : decode cX5_minutes 60 = .ok (.pop, 1) := by decide +kernel
theorem dX5_minutes_61 : decode cX5_minutes 61 = .ok (.iinc 4 1, 3) := by decide +kernel
theorem dX5_minutes_64 : decode cX5_minutes 64 = .ok (.goto (-34), 3) := by decide +kernel
theorem dX5_minutes_67 : decode cX5_minutes 67 = .ok (.aload_n 0, 1) := by decide +kernel
theorem dX5_minutes_68 : decode cX5_minutes 68 = .ok (.getfield 19, 3) := by decide +kernel
theorem dX5_minutes_71 : decode cX5_minutes 71 = .ok (.invokevirtual 194, 3) := by decide +kernel
theorem dX5_minutes_74 : decode cX5_minutes 74 = .ok (.iload_n 3, 1) := by decide +kernel
theorem dX5_minutes_75 : decode cX5_minutes 75 = .ok (.isub, 1) := by decide +kernel
theorem dX5_minutes_76 : decode cX5_minutes 76 = .ok (.ireturn, 1) := by decide +kernel
theorem dX5_drift_0 : decode cX5_drift 0 = .ok (.aload_n 0, 1) := by decide +kernel
theorem dX5_drift_1 : decode cX5_drift 1 = .ok (.iload_n 1, 1) := by decide +kernel
theorem dX5_drift_2 : decode cX5_drift 2 = .ok (.invokevirtual 198, 3) := by decide +kernel
theorem dX5_drift_5 : decode cX5_drift 5 = .ok (.istore_n 2, 1) := by decide +kernel
theorem dX5_drift_6 : decode cX5_drift 6 = .ok (.iload_n 2, 1) := by decide +kernel
theorem dX5_drift_7 : decode cX5_drift 7 = .ok (.ifCond .eq 5, 3) := by decide +kernel
theorem dX5_drift_10 : decode cX5_drift 10 = .ok (.iload_n 2, 1) := by decide +kernel
theorem dX5_drift_11 : decode cX5_drift 11 = .ok (.ireturn, 1) := by decide +kernel
theorem dX5_drift_12 : decode cX5_drift 12 = .ok (.aload_n 0, 1) := by decide +kernel
theorem dX5_drift_13 : decode cX5_drift 13 = .ok (.getfield 10, 3) := by decide +kernel
theorem dX5_drift_16 : decode cX5_drift 16 = .ok (.invokevirtual 151, 3) := by decide +kernel
theorem dX5_drift_19 : decode cX5_drift 19 = .ok (.iconst 0, 1) := by decide +kernel
theorem dX5_drift_20 : decode cX5_drift 20 = .ok (.istore_n 3, 1) := by decide +kernel
theorem dX5_drift_21 : decode cX5_drift 21 = .ok (.iconst 0, 1) := by decide +kernel
theorem dX5_drift_22 : decode cX5_drift 22 = .ok (.istore 4, 2) := by decide +kernel
theorem dX5_drift_24 : decode cX5_drift 24 = .ok (.iload 4, 2) := by decide +kernel
theorem dX5_drift_26 : decode cX5_drift 26 = .ok (.iload_n 1, 1) := by decide +kernel
theorem dX5_drift_27 : decode cX5_drift 27 = .ok (.if_icmp .ge 68, 3) := by decide +kernel
theorem dX5_drift_30 : decode cX5_drift 30 = .ok (.aload_n 0, 1) := by decide +kernel
theorem dX5_drift_31 : decode cX5_drift 31 = .ok (.getfield 26, 3) := by decide +kernel
theorem dX5_drift_34 : decode cX5_drift 34 = .ok (.aload_n 0, 1) := by decide +kernel
theorem dX5_drift_35 : decode cX5_drift 35 = .ok (.getfield 19, 3) := by decide +kernel
theorem dX5_drift_38 : decode cX5_drift 38 = .ok (.invokevirtual 201, 3) := by decide +kernel
theorem dX5_drift_41 : decode cX5_drift 41 = .ok (.aload_n 0, 1) := by decide +kernel
theorem dX5_drift_42 : decode cX5_drift 42 = .ok (.getfield 19, 3) := by decide +kernel
theorem dX5_drift_45 : decode cX5_drift 45 = .ok (.getfield 182, 3) := by decide +kernel
theorem dX5_drift_48 : decode cX5_drift 48 = .ok (.istore 5, 2) := by decide +kernel
theorem dX5_drift_50 : decode cX5_drift 50 = .ok (.aload_n 0, 1) := by decide +kernel
theorem dX5_drift_51 : decode cX5_drift 51 = .ok (.getfield 19, 3) := by decide +kernel
theorem dX5_drift_54 : decode cX5_drift 54 = .ok (.aload_n 0, 1) := by decide +kernel
theorem dX5_drift_55 : decode cX5_drift 55 = .ok (.getfield 10, 3) := by decide +kernel
theorem dX5_drift_58 : decode cX5_drift 58 = .ok (.bipush 127, 2) := by decide +kernel
theorem dX5_drift_60 : decode cX5_drift 60 = .ok (.invokevirtual 205, 3) := by decide +kernel
theorem dX5_drift_63 : decode cX5_drift 63 = .ok (.pop, 1) := by decide +kernel
theorem dX5_drift_64 : decode cX5_drift 64 = .ok (.aload_n 0, 1) := by decide +kernel
theorem dX5_drift_65 : decode cX5_drift 65 = .ok (.getfield 19, 3) := by decide +kernel
theorem dX5_drift_68 : decode cX5_drift 68 = .ok (.getfield 182, 3) := by decide +kernel
theorem dX5_drift_71 : decode cX5_drift 71 = .ok (.iload 5, 2) := by decide +kernel
theorem dX5_drift_73 : decode cX5_drift 73 = .ok (.if_icmp .le 16, 3) := by decide +kernel
theorem dX5_drift_76 : decode cX5_drift 76 = .ok (.aload_n 0, 1) := by decide +kernel
theorem dX5_drift_77 : decode cX5_drift 77 = .ok (.getfield 19, 3) := by decide +kernel
theorem dX5_drift_80 : decode cX5_drift 80 = .ok (.invokevirtual 208, 3) := by decide +kernel
theorem dX5_drift_83 : decode cX5_drift 83 = .ok (.ifCond .eq 6, 3) := by decide +kernel
theorem dX5_drift_86 : decode cX5_drift 86 = .ok (.iinc 3 1, 3) := by decide +kernel
theorem dX5_drift_89 : decode cX5_drift 89 = .ok (.iinc 4 1, 3) := by decide +kernel
theorem dX5_drift_92 : decode cX5_drift 92 = .ok (.goto (-68), 3) := by decide +kernel
theorem dX5_drift_95 : decode cX5_drift 95 = .ok (.iload_n 3, 1) := by decide +kernel
theorem dX5_drift_96 : decode cX5_drift 96 = .ok (.ireturn, 1) := by decide +kernel
theorem dX5_refusal_0 : decode cX5_refusal 0 = .ok (.iload_n 1, 1) := by decide +kernel
theorem dX5_refusal_1 : decode cX5_refusal 1 = .ok (.iconst 1, 1) := by decide +kernel
theorem dX5_refusal_2 : decode cX5_refusal 2 = .ok (.bipush 60, 2) := by decide +kernel
theorem dX5_refusal_4 : decode cX5_refusal 4 = .ok (.invokestatic 69, 3) := by decide +kernel
theorem dX5_refusal_7 : decode cX5_refusal 7 = .ok (.ifCond .eq 5, 3) := by decide +kernel
theorem dX5_refusal_10 : decode cX5_refusal 10 = .ok (.iconst (-1), 1) := by decide +kernel
theorem dX5_refusal_11 : decode cX5_refusal 11 = .ok (.ireturn, 1) := by decide +kernel
theorem dX5_refusal_12 : decode cX5_refusal 12 = .ok (.aload_n 0, 1) := by decide +kernel
theorem dX5_refusal_13 : decode cX5_refusal 13 = .ok (.getfield 19, 3) := by decide +kernel
theorem dX5_refusal_16 : decode cX5_refusal 16 = .ok (.getfield 176, 3) := by decide +kernel
theorem dX5_refusal_19 : decode cX5_refusal 19 = .ok (.iload_n 1, 1) := by decide +kernel
theorem dX5_refusal_20 : decode cX5_refusal 20 = .ok (.iadd, 1) := by decide +kernel
theorem dX5_refusal_21 : decode cX5_refusal 21 = .ok (.sipush 9999, 3) := by decide +kernel
theorem dX5_refusal_24 : decode cX5_refusal 24 = .ok (.if_icmp .le 8, 3) := by decide +kernel
theorem dX5_refusal_27 : decode cX5_refusal 27 = .ok (.bipush (-3), 2) := by decide +kernel
theorem dX5_refusal_29 : decode cX5_refusal 29 = .ok (.goto 4, 3) := by decide +kernel
theorem dX5_refusal_32 : decode cX5_refusal 32 = .ok (.iconst 0, 1) := by decide +kernel
theorem dX5_refusal_33 : decode cX5_refusal 33 = .ok (.ireturn, 1) := by decide +kernel
theorem dX5_undo_0 : decode cX5_undo 0 = .ok (.aload_n 0, 1) := by decide +kernel
theorem dX5_undo_1 : decode cX5_undo 1 = .ok (.getfield 26, 3) := by decide +kernel
theorem dX5_undo_4 : decode cX5_undo 4 = .ok (.aload_n 0, 1) := by decide +kernel
theorem dX5_undo_5 : decode cX5_undo 5 = .ok (.getfield 19, 3) := by decide +kernel
theorem dX5_undo_8 : decode cX5_undo 8 = .ok (.invokevirtual 212, 3) := by decide +kernel
theorem dX5_undo_11 : decode cX5_undo 11 = .ok (.ifCond .eq 13, 3) := by decide +kernel
theorem dX5_undo_14 : decode cX5_undo 14 = .ok (.aload_n 0, 1) := by decide +kernel
theorem dX5_undo_15 : decode cX5_undo 15 = .ok (.getfield 26, 3) := by decide +kernel
theorem dX5_undo_18 : decode cX5_undo 18 = .ok (.getfield 188, 3) := by decide +kernel
theorem dX5_undo_21 : decode cX5_undo 21 = .ok (.goto 5, 3) := by decide +kernel
theorem dX5_undo_24 : decode cX5_undo 24 = .ok (.bipush (-4), 2) := by decide +kernel
theorem dX5_undo_26 : decode cX5_undo 26 = .ok (.ireturn, 1) := by decide +kernel
theorem dX5_seed_0 : decode cX5_seed 0 = .ok (.iload_n 1, 1) := by decide +kernel
theorem dX5_seed_1 : decode cX5_seed 1 = .ok (.ifCond .ge 5, 3) := by decide +kernel
theorem dX5_seed_4 : decode cX5_seed 4 = .ok (.iconst (-1), 1) := by decide +kernel
theorem dX5_seed_5 : decode cX5_seed 5 = .ok (.ireturn, 1) := by decide +kernel
theorem dX5_seed_6 : decode cX5_seed 6 = .ok (.aload_n 0, 1) := by decide +kernel
theorem dX5_seed_7 : decode cX5_seed 7 = .ok (.getfield 19, 3) := by decide +kernel
theorem dX5_seed_10 : decode cX5_seed 10 = .ok (.getfield 216, 3) := by decide +kernel
theorem dX5_seed_13 : decode cX5_seed 13 = .ok (.istore_n 2, 1) := by decide +kernel
theorem dX5_seed_14 : decode cX5_seed 14 = .ok (.aload_n 0, 1) := by decide +kernel
theorem dX5_seed_15 : decode cX5_seed 15 = .ok (.getfield 19, 3) := by decide +kernel
theorem dX5_seed_18 : decode cX5_seed 18 = .ok (.iload_n 1, 1) := by decide +kernel
theorem dX5_seed_19 : decode cX5_seed 19 = .ok (.putfield 216, 3) := by decide +kernel
theorem dX5_seed_22 : decode cX5_seed 22 = .ok (.iload_n 2, 1) := by decide +kernel
theorem dX5_seed_23 : decode cX5_seed 23 = .ok (.ireturn, 1) := by decide +kernel
theorem dX5_water_0 : decode cX5_water 0 = .ok (.iload_n 1, 1) := by decide +kernel
theorem dX5_water_1 : decode cX5_water 1 = .ok (.iconst 0, 1) := by decide +kernel
theorem dX5_water_2 : decode cX5_water 2 = .ok (.sipush 240, 3) := by decide +kernel
theorem dX5_water_5 : decode cX5_water 5 = .ok (.invokestatic 69, 3) := by decide +kernel
theorem dX5_water_8 : decode cX5_water 8 = .ok (.ifCond .eq 5, 3) := by decide +kernel
theorem dX5_water_11 : decode cX5_water 11 = .ok (.iconst (-1), 1) := by decide +kernel
theorem dX5_water_12 : decode cX5_water 12 = .ok (.ireturn, 1) := by decide +kernel
theorem dX5_water_13 : decode cX5_water 13 = .ok (.aload_n 0, 1) := by decide +kernel
theorem dX5_water_14 : decode cX5_water 14 = .ok (.invokevirtual 219, 3) := by decide +kernel
theorem dX5_water_17 : decode cX5_water 17 = .ok (.aload_n 0, 1) := by decide +kernel
theorem dX5_water_18 : decode cX5_water 18 = .ok (.iload_n 1, 1) := by decide +kernel
theorem dX5_water_19 : decode cX5_water 19 = .ok (.bipush 127, 2) := by decide +kernel
theorem dX5_water_21 : decode cX5_water 21 = .ok (.invokevirtual 222, 3) := by decide +kernel
theorem dX5_water_24 : decode cX5_water 24 = .ok (.aload_n 0, 1) := by decide +kernel
theorem dX5_water_25 : decode cX5_water 25 = .ok (.getfield 42, 3) := by decide +kernel
theorem dX5_water_28 : decode cX5_water 28 = .ok (.getfield 127, 3) := by decide +kernel
theorem dX5_water_31 : decode cX5_water 31 = .ok (.ireturn, 1) := by decide +kernel
theorem dX5_done_0 : decode cX5_done 0 = .ok (.aload_n 0, 1) := by decide +kernel
theorem dX5_done_1 : decode cX5_done 1 = .ok (.getfield 10, 3) := by decide +kernel
theorem dX5_done_4 : decode cX5_done 4 = .ok (.iload_n 1, 1) := by decide +kernel
theorem dX5_done_5 : decode cX5_done 5 = .ok (.invokevirtual 84, 3) := by decide +kernel
theorem dX5_done_8 : decode cX5_done 8 = .ok (.ifCond .eq 5, 3) := by decide +kernel
theorem dX5_done_11 : decode cX5_done 11 = .ok (.iconst (-1), 1) := by decide +kernel
theorem dX5_done_12 : decode cX5_done 12 = .ok (.ireturn, 1) := by decide +kernel
theorem dX5_done_13 : decode cX5_done 13 = .ok (.aload_n 0, 1) := by decide +kernel
theorem dX5_done_14 : decode cX5_done 14 = .ok (.aload_n 0, 1) := by decide +kernel
theorem dX5_done_15 : decode cX5_done 15 = .ok (.getfield 10, 3) := by decide +kernel
theorem dX5_done_18 : decode cX5_done 18 = .ok (.getfield 145, 3) := by decide +kernel
theorem dX5_done_21 : decode cX5_done 21 = .ok (.invokevirtual 226, 3) := by decide +kernel
theorem dX5_done_24 : decode cX5_done 24 = .ok (.aload_n 0, 1) := by decide +kernel
theorem dX5_done_25 : decode cX5_done 25 = .ok (.getfield 45, 3) := by decide +kernel
theorem dX5_done_28 : decode cX5_done 28 = .ok (.iload_n 1, 1) := by decide +kernel
theorem dX5_done_29 : decode cX5_done 29 = .ok (.iaload, 1) := by decide +kernel
theorem dX5_done_30 : decode cX5_done 30 = .ok (.ireturn, 1) := by decide +kernel
theorem dX5_all_0 : decode cX5_all 0 = .ok (.aload_n 0, 1) := by decide +kernel
theorem dX5_all_1 : decode cX5_all 1 = .ok (.getfield 39, 3) := by decide +kernel
theorem dX5_all_4 : decode cX5_all 4 = .ok (.aload_n 0, 1) := by decide +kernel
theorem dX5_all_5 : decode cX5_all 5 = .ok (.getfield 10, 3) := by decide +kernel
theorem dX5_all_8 : decode cX5_all 8 = .ok (.invokevirtual 163, 3) := by decide +kernel
theorem dX5_all_11 : decode cX5_all 11 = .ok (.aload_n 0, 1) := by decide +kernel
theorem dX5_all_12 : decode cX5_all 12 = .ok (.sipush 240, 3) := by decide +kernel
theorem dX5_all_15 : decode cX5_all 15 = .ok (.invokevirtual 229, 3) := by decide +kernel
theorem dX5_all_18 : decode cX5_all 18 = .ok (.ireturn, 1) := by decide +kernel
theorem dX5_height_0 : decode cX5_height 0 = .ok (.iload_n 1, 1) := by decide +kernel
theorem dX5_height_1 : decode cX5_height 1 = .ok (.iconst 0, 1) := by decide +kernel
theorem dX5_height_2 : decode cX5_height 2 = .ok (.iconst 1, 1) := by decide +kernel
theorem dX5_height_3 : decode cX5_height 3 = .ok (.invokestatic 69, 3) := by decide +kernel
theorem dX5_height_6 : decode cX5_height 6 = .ok (.ifCond .eq 5, 3) := by decide +kernel
theorem dX5_height_9 : decode cX5_height 9 = .ok (.iconst (-1), 1) := by decide +kernel
theorem dX5_height_10 : decode cX5_height 10 = .ok (.ireturn, 1) := by decide +kernel
theorem dX5_height_11 : decode cX5_height 11 = .ok (.aload_n 0, 1) := by decide +kernel
theorem dX5_height_12 : decode cX5_height 12 = .ok (.getfield 39, 3) := by decide +kernel
theorem dX5_height_15 : decode cX5_height 15 = .ok (.aload_n 0, 1) := by decide +kernel
theorem dX5_height_16 : decode cX5_height 16 = .ok (.getfield 10, 3) := by decide +kernel
theorem dX5_height_19 : decode cX5_height 19 = .ok (.invokevirtual 163, 3) := by decide +kernel
theorem dX5_height_22 : decode cX5_height 22 = .ok (.bipush (-4), 2) := by decide +kernel
theorem dX5_height_24 : decode cX5_height 24 = .ok (.istore_n 2, 1) := by decide +kernel
theorem dX5_height_25 : decode cX5_height 25 = .ok (.sipush 241, 3) := by decide +kernel
theorem dX5_height_28 : decode cX5_height 28 = .ok (.istore_n 3, 1) := by decide +kernel
theorem dX5_height_29 : decode cX5_height 29 = .ok (.iconst 0, 1) := by decide +kernel
theorem dX5_height_30 : decode cX5_height 30 = .ok (.istore 4, 2) := by decide +kernel
theorem dX5_height_32 : decode cX5_height 32 = .ok (.iload 4, 2) := by decide +kernel
theorem dX5_height_34 : decode cX5_height 34 = .ok (.bipush 60, 2) := by decide +kernel
theorem dX5_height_36 : decode cX5_height 36 = .ok (.if_icmp .gt 40, 3) := by decide +kernel
theorem dX5_height_39 : decode cX5_height 39 = .ok (.aload_n 0, 1) := by decide +kernel
theorem dX5_height_40 : decode cX5_height 40 = .ok (.getfield 39, 3) := by decide +kernel
theorem dX5_height_43 : decode cX5_height 43 = .ok (.iload 4, 2) := by decide +kernel
theorem dX5_height_45 : decode cX5_height 45 = .ok (.putfield 142, 3) := by decide +kernel
theorem dX5_height_48 : decode cX5_height 48 = .ok (.aload_n 0, 1) := by decide +kernel
theorem dX5_height_49 : decode cX5_height 49 = .ok (.iload_n 3, 1) := by decide +kernel
theorem dX5_height_50 : decode cX5_height 50 = .ok (.iconst 1, 1) := by decide +kernel
theorem dX5_height_51 : decode cX5_height 51 = .ok (.isub, 1) := by decide +kernel
theorem dX5_height_52 : decode cX5_height 52 = .ok (.invokevirtual 229, 3) := by decide +kernel
theorem dX5_height_55 : decode cX5_height 55 = .ok (.istore 5, 2) := by decide +kernel
theorem dX5_height_57 : decode cX5_height 57 = .ok (.iload 5, 2) := by decide +kernel
theorem dX5_height_59 : decode cX5_height 59 = .ok (.bipush (-4), 2) := by decide +kernel
theorem dX5_height_61 : decode cX5_height 61 = .ok (.if_icmp .eq 9, 3) := by decide +kernel
theorem dX5_height_64 : decode cX5_height 64 = .ok (.iload 4, 2) := by decide +kernel
theorem dX5_height_66 : decode cX5_height 66 = .ok (.istore_n 2, 1) := by decide +kernel
theorem dX5_height_67 : decode cX5_height 67 = .ok (.iload 5, 2) := by decide +kernel
theorem dX5_height_69 : decode cX5_height 69 = .ok (.istore_n 3, 1) := by decide +kernel
theorem dX5_height_70 : decode cX5_height 70 = .ok (.iinc 4 1, 3) := by decide +kernel
theorem dX5_height_73 : decode cX5_height 73 = .ok (.goto (-41), 3) := by decide +kernel
theorem dX5_height_76 : decode cX5_height 76 = .ok (.iload_n 2, 1) := by decide +kernel
theorem dX5_height_77 : decode cX5_height 77 = .ok (.bipush (-4), 2) := by decide +kernel
theorem dX5_height_79 : decode cX5_height 79 = .ok (.if_icmp .ne 6, 3) := by decide +kernel
theorem dX5_height_82 : decode cX5_height 82 = .ok (.bipush (-4), 2) := by decide +kernel
theorem dX5_height_84 : decode cX5_height 84 = .ok (.ireturn, 1) := by decide +kernel
theorem dX5_height_85 : decode cX5_height 85 = .ok (.iload_n 1, 1) := by decide +kernel
theorem dX5_height_86 : decode cX5_height 86 = .ok (.ifCond .ne 7, 3) := by decide +kernel
theorem dX5_height_89 : decode cX5_height 89 = .ok (.iload_n 2, 1) := by decide +kernel
theorem dX5_height_90 : decode cX5_height 90 = .ok (.goto 4, 3) := by decide +kernel
theorem dX5_height_93 : decode cX5_height 93 = .ok (.iload_n 3, 1) := by decide +kernel
theorem dX5_height_94 : decode cX5_height 94 = .ok (.ireturn, 1) := by decide +kernel
theorem dX5_pulls_0 : decode cX5_pulls 0 = .ok (.iload_n 1, 1) := by decide +kernel
theorem dX5_pulls_1 : decode cX5_pulls 1 = .ok (.iconst 0, 1) := by decide +kernel
theorem dX5_pulls_2 : decode cX5_pulls 2 = .ok (.iconst 1, 1) := by decide +kernel
theorem dX5_pulls_3 : decode cX5_pulls 3 = .ok (.invokestatic 69, 3) := by decide +kernel
theorem dX5_pulls_6 : decode cX5_pulls 6 = .ok (.ifCond .eq 5, 3) := by decide +kernel
theorem dX5_pulls_9 : decode cX5_pulls 9 = .ok (.iconst (-1), 1) := by decide +kernel
theorem dX5_pulls_10 : decode cX5_pulls 10 = .ok (.ireturn, 1) := by decide +kernel
theorem dX5_pulls_11 : decode cX5_pulls 11 = .ok (.aload_n 0, 1) := by decide +kernel
theorem dX5_pulls_12 : decode cX5_pulls 12 = .ok (.getfield 39, 3) := by decide +kernel
theorem dX5_pulls_15 : decode cX5_pulls 15 = .ok (.aload_n 0, 1) := by decide +kernel
theorem dX5_pulls_16 : decode cX5_pulls 16 = .ok (.getfield 10, 3) := by decide +kernel
theorem dX5_pulls_19 : decode cX5_pulls 19 = .ok (.invokevirtual 163, 3) := by decide +kernel
theorem dX5_pulls_22 : decode cX5_pulls 22 = .ok (.bipush (-4), 2) := by decide +kernel
theorem dX5_pulls_24 : decode cX5_pulls 24 = .ok (.istore_n 2, 1) := by decide +kernel
theorem dX5_pulls_25 : decode cX5_pulls 25 = .ok (.sipush 241, 3) := by decide +kernel
theorem dX5_pulls_28 : decode cX5_pulls 28 = .ok (.istore_n 3, 1) := by decide +kernel
theorem dX5_pulls_29 : decode cX5_pulls 29 = .ok (.iconst (-1), 1) := by decide +kernel
theorem dX5_pulls_30 : decode cX5_pulls 30 = .ok (.istore 4, 2) := by decide +kernel
theorem dX5_pulls_32 : decode cX5_pulls 32 = .ok (.iload 4, 2) := by decide +kernel
theorem dX5_pulls_34 : decode cX5_pulls 34 = .ok (.aload_n 0, 1) := by decide +kernel
theorem dX5_pulls_35 : decode cX5_pulls 35 = .ok (.getfield 10, 3) := by decide +kernel
theorem dX5_pulls_38 : decode cX5_pulls 38 = .ok (.getfield 73, 3) := by decide +kernel
theorem dX5_pulls_41 : decode cX5_pulls 41 = .ok (.if_icmp .ge 60, 3) := by decide +kernel
theorem dX5_pulls_44 : decode cX5_pulls 44 = .ok (.aload_n 0, 1) := by decide +kernel
theorem dX5_pulls_45 : decode cX5_pulls 45 = .ok (.getfield 39, 3) := by decide +kernel
theorem dX5_pulls_48 : decode cX5_pulls 48 = .ok (.iload 4, 2) := by decide +kernel
theorem dX5_pulls_50 : decode cX5_pulls 50 = .ok (.ifCond .ge 8, 3) := by decide +kernel
theorem dX5_pulls_53 : decode cX5_pulls 53 = .ok (.bipush (-4), 2) := by decide +kernel
theorem dX5_pulls_55 : decode cX5_pulls 55 = .ok (.goto 5, 3) := by decide +kernel
theorem dX5_pulls_58 : decode cX5_pulls 58 = .ok (.iload 4, 2) := by decide +kernel
theorem dX5_pulls_60 : decode cX5_pulls 60 = .ok (.putfield 148, 3) := by decide +kernel
theorem dX5_pulls_63 : decode cX5_pulls 63 = .ok (.aload_n 0, 1) := by decide +kernel
theorem dX5_pulls_64 : decode cX5_pulls 64 = .ok (.iload_n 3, 1) := by decide +kernel
theorem dX5_pulls_65 : decode cX5_pulls 65 = .ok (.iconst 1, 1) := by decide +kernel
theorem dX5_pulls_66 : decode cX5_pulls 66 = .ok (.isub, 1) := by decide +kernel
theorem dX5_pulls_67 : decode cX5_pulls 67 = .ok (.invokevirtual 229, 3) := by decide +kernel
theorem dX5_pulls_70 : decode cX5_pulls 70 = .ok (.istore 5, 2) := by decide +kernel
theorem dX5_pulls_72 : decode cX5_pulls 72 = .ok (.iload 5, 2) := by decide +kernel
theorem dX5_pulls_74 : decode cX5_pulls 74 = .ok (.bipush (-4), 2) := by decide +kernel
theorem dX5_pulls_76 : decode cX5_pulls 76 = .ok (.if_icmp .eq 19, 3) := by decide +kernel
theorem dX5_pulls_79 : decode cX5_pulls 79 = .ok (.iload 4, 2) := by decide +kernel
theorem dX5_pulls_81 : decode cX5_pulls 81 = .ok (.ifCond .ge 8, 3) := by decide +kernel
theorem dX5_pulls_84 : decode cX5_pulls 84 = .ok (.bipush 7, 2) := by decide +kernel
theorem dX5_pulls_86 : decode cX5_pulls 86 = .ok (.goto 5, 3) := by decide +kernel
theorem dX5_pulls_89 : decode cX5_pulls 89 = .ok (.iload 4, 2) := by decide +kernel
theorem dX5_pulls_91 : decode cX5_pulls 91 = .ok (.istore_n 2, 1) := by decide +kernel
theorem dX5_pulls_92 : decode cX5_pulls 92 = .ok (.iload 5, 2) := by decide +kernel
theorem dX5_pulls_94 : decode cX5_pulls 94 = .ok (.istore_n 3, 1) := by decide +kernel
theorem dX5_pulls_95 : decode cX5_pulls 95 = .ok (.iinc 4 1, 3) := by decide +kernel
theorem dX5_pulls_98 : decode cX5_pulls 98 = .ok (.goto (-66), 3) := by decide +kernel
theorem dX5_pulls_101 : decode cX5_pulls 101 = .ok (.iload_n 2, 1) := by decide +kernel
theorem dX5_pulls_102 : decode cX5_pulls 102 = .ok (.bipush (-4), 2) := by decide +kernel
theorem dX5_pulls_104 : decode cX5_pulls 104 = .ok (.if_icmp .ne 6, 3) := by decide +kernel
theorem dX5_pulls_107 : decode cX5_pulls 107 = .ok (.bipush (-4), 2) := by decide +kernel
theorem dX5_pulls_109 : decode cX5_pulls 109 = .ok (.ireturn, 1) := by decide +kernel
theorem dX5_pulls_110 : decode cX5_pulls 110 = .ok (.iload_n 1, 1) := by decide +kernel
theorem dX5_pulls_111 : decode cX5_pulls 111 = .ok (.ifCond .ne 7, 3) := by decide +kernel
theorem dX5_pulls_114 : decode cX5_pulls 114 = .ok (.iload_n 2, 1) := by decide +kernel
theorem dX5_pulls_115 : decode cX5_pulls 115 = .ok (.goto 4, 3) := by decide +kernel
theorem dX5_pulls_118 : decode cX5_pulls 118 = .ok (.iload_n 3, 1) := by decide +kernel
theorem dX5_pulls_119 : decode cX5_pulls 119 = .ok (.ireturn, 1) := by decide +kernel
theorem dX5_waits_0 : decode cX5_waits 0 = .ok (.iload_n 1, 1) := by decide +kernel
theorem dX5_waits_1 : decode cX5_waits 1 = .ok (.iconst 0, 1) := by decide +kernel
theorem dX5_waits_2 : decode cX5_waits 2 = .ok (.iconst 1, 1) := by decide +kernel
theorem dX5_waits_3 : decode cX5_waits 3 = .ok (.invokestatic 69, 3) := by decide +kernel
theorem dX5_waits_6 : decode cX5_waits 6 = .ok (.ifCond .ne 12, 3) := by decide +kernel
theorem dX5_waits_9 : decode cX5_waits 9 = .ok (.iload_n 2, 1) := by decide +kernel
theorem dX5_waits_10 : decode cX5_waits 10 = .ok (.iconst 0, 1) := by decide +kernel
theorem dX5_waits_11 : decode cX5_waits 11 = .ok (.iconst 3, 1) := by decide +kernel
theorem dX5_waits_12 : decode cX5_waits 12 = .ok (.invokestatic 69, 3) := by decide +kernel
theorem dX5_waits_15 : decode cX5_waits 15 = .ok (.ifCond .eq 5, 3) := by decide +kernel
theorem dX5_waits_18 : decode cX5_waits 18 = .ok (.iconst (-1), 1) := by decide +kernel
theorem dX5_waits_19 : decode cX5_waits 19 = .ok (.ireturn, 1) := by decide +kernel
theorem dX5_waits_20 : decode cX5_waits 20 = .ok (.aload_n 0, 1) := by decide +kernel
theorem dX5_waits_21 : decode cX5_waits 21 = .ok (.iload_n 2, 1) := by decide +kernel
theorem dX5_waits_22 : decode cX5_waits 22 = .ok (.invokevirtual 226, 3) := by decide +kernel
theorem dX5_waits_25 : decode cX5_waits 25 = .ok (.aload_n 0, 1) := by decide +kernel
theorem dX5_waits_26 : decode cX5_waits 26 = .ok (.iload_n 1, 1) := by decide +kernel
theorem dX5_waits_27 : decode cX5_waits 27 = .ok (.invokevirtual 232, 3) := by decide +kernel
theorem dX5_waits_30 : decode cX5_waits 30 = .ok (.ireturn, 1) := by decide +kernel
theorem dX5_least_0 : decode cX5_least 0 = .ok (.aload_n 0, 1) := by decide +kernel
theorem dX5_least_1 : decode cX5_least 1 = .ok (.iload_n 1, 1) := by decide +kernel
theorem dX5_least_2 : decode cX5_least 2 = .ok (.iconst 0, 1) := by decide +kernel
theorem dX5_least_3 : decode cX5_least 3 = .ok (.invokevirtual 235, 3) := by decide +kernel
theorem dX5_least_6 : decode cX5_least 6 = .ok (.ireturn, 1) := by decide +kernel
theorem dX5_both_0 : decode cX5_both 0 = .ok (.aload_n 0, 1) := by decide +kernel
theorem dX5_both_1 : decode cX5_both 1 = .ok (.iload_n 1, 1) := by decide +kernel
theorem dX5_both_2 : decode cX5_both 2 = .ok (.iconst 1, 1) := by decide +kernel
theorem dX5_both_3 : decode cX5_both 3 = .ok (.invokevirtual 235, 3) := by decide +kernel
theorem dX5_both_6 : decode cX5_both 6 = .ok (.ireturn, 1) := by decide +kernel
theorem dX5_wholly_0 : decode cX5_wholly 0 = .ok (.iload_n 1, 1) := by decide +kernel
theorem dX5_wholly_1 : decode cX5_wholly 1 = .ok (.iconst 0, 1) := by decide +kernel
theorem dX5_wholly_2 : decode cX5_wholly 2 = .ok (.sipush 240, 3) := by decide +kernel
theorem dX5_wholly_5 : decode cX5_wholly 5 = .ok (.invokestatic 69, 3) := by decide +kernel
theorem dX5_wholly_8 : decode cX5_wholly 8 = .ok (.ifCond .ne 12, 3) := by decide +kernel
theorem dX5_wholly_11 : decode cX5_wholly 11 = .ok (.iload_n 2, 1) := by decide +kernel
theorem dX5_wholly_12 : decode cX5_wholly 12 = .ok (.iconst 0, 1) := by decide +kernel
theorem dX5_wholly_13 : decode cX5_wholly 13 = .ok (.iconst 1, 1) := by decide +kernel
theorem dX5_wholly_14 : decode cX5_wholly 14 = .ok (.invokestatic 69, 3) := by decide +kernel
theorem dX5_wholly_17 : decode cX5_wholly 17 = .ok (.ifCond .eq 5, 3) := by decide +kernel
theorem dX5_wholly_20 : decode cX5_wholly 20 = .ok (.iconst (-1), 1) := by decide +kernel
theorem dX5_wholly_21 : decode cX5_wholly 21 = .ok (.ireturn, 1) := by decide +kernel
theorem dX5_wholly_22 : decode cX5_wholly 22 = .ok (.aload_n 0, 1) := by decide +kernel
theorem dX5_wholly_23 : decode cX5_wholly 23 = .ok (.getfield 10, 3) := by decide +kernel
theorem dX5_wholly_26 : decode cX5_wholly 26 = .ok (.getfield 148, 3) := by decide +kernel
theorem dX5_wholly_29 : decode cX5_wholly 29 = .ok (.bipush (-4), 2) := by decide +kernel
theorem dX5_wholly_31 : decode cX5_wholly 31 = .ok (.if_icmp .ne 7, 3) := by decide +kernel
theorem dX5_wholly_34 : decode cX5_wholly 34 = .ok (.iconst 0, 1) := by decide +kernel
theorem dX5_wholly_35 : decode cX5_wholly 35 = .ok (.goto 12, 3) := by decide +kernel
theorem dX5_wholly_38 : decode cX5_wholly 38 = .ok (.iconst 1, 1) := by decide +kernel
theorem dX5_wholly_39 : decode cX5_wholly 39 = .ok (.aload_n 0, 1) := by decide +kernel
theorem dX5_wholly_40 : decode cX5_wholly 40 = .ok (.getfield 10, 3) := by decide +kernel
theorem dX5_wholly_43 : decode cX5_wholly 43 = .ok (.getfield 148, 3) := by decide +kernel
theorem dX5_wholly_46 : decode cX5_wholly 46 = .ok (.ishl, 1) := by decide +kernel
theorem dX5_wholly_47 : decode cX5_wholly 47 = .ok (.istore_n 3, 1) := by decide +kernel
theorem dX5_wholly_48 : decode cX5_wholly 48 = .ok (.iconst 0, 1) := by decide +kernel
theorem dX5_wholly_49 : decode cX5_wholly 49 = .ok (.istore 4, 2) := by decide +kernel
theorem dX5_wholly_51 : decode cX5_wholly 51 = .ok (.iconst (-1), 1) := by decide +kernel
theorem dX5_wholly_52 : decode cX5_wholly 52 = .ok (.istore 5, 2) := by decide +kernel
theorem dX5_wholly_54 : decode cX5_wholly 54 = .ok (.aload_n 0, 1) := by decide +kernel
theorem dX5_wholly_55 : decode cX5_wholly 55 = .ok (.invokevirtual 219, 3) := by decide +kernel
theorem dX5_wholly_58 : decode cX5_wholly 58 = .ok (.iconst 0, 1) := by decide +kernel
theorem dX5_wholly_59 : decode cX5_wholly 59 = .ok (.istore 6, 2) := by decide +kernel
theorem dX5_wholly_61 : decode cX5_wholly 61 = .ok (.iload 6, 2) := by decide +kernel
theorem dX5_wholly_63 : decode cX5_wholly 63 = .ok (.iconst 1, 1) := by decide +kernel
theorem dX5_wholly_64 : decode cX5_wholly 64 = .ok (.aload_n 0, 1) := by decide +kernel
theorem dX5_wholly_65 : decode cX5_wholly 65 = .ok (.getfield 10, 3) := by decide +kernel
theorem dX5_wholly_68 : decode cX5_wholly 68 = .ok (.getfield 73, 3) := by decide +kernel
theorem dX5_wholly_71 : decode cX5_wholly 71 = .ok (.ishl, 1) := by decide +kernel
theorem dX5_wholly_72 : decode cX5_wholly 72 = .ok (.if_icmp .ge 77, 3) := by decide +kernel
theorem dX5_wholly_75 : decode cX5_wholly 75 = .ok (.iload 5, 2) := by decide +kernel
theorem dX5_wholly_77 : decode cX5_wholly 77 = .ok (.aload_n 0, 1) := by decide +kernel
theorem dX5_wholly_78 : decode cX5_wholly 78 = .ok (.getfield 10, 3) := by decide +kernel
theorem dX5_wholly_81 : decode cX5_wholly 81 = .ok (.getfield 73, 3) := by decide +kernel
theorem dX5_wholly_84 : decode cX5_wholly 84 = .ok (.if_icmp .ge 65, 3) := by decide +kernel
theorem dX5_wholly_87 : decode cX5_wholly 87 = .ok (.iload 6, 2) := by decide +kernel
theorem dX5_wholly_89 : decode cX5_wholly 89 = .ok (.iload_n 3, 1) := by decide +kernel
theorem dX5_wholly_90 : decode cX5_wholly 90 = .ok (.iand, 1) := by decide +kernel
theorem dX5_wholly_91 : decode cX5_wholly 91 = .ok (.ifCond .ne 52, 3) := by decide +kernel
theorem dX5_wholly_94 : decode cX5_wholly 94 = .ok (.aload_n 0, 1) := by decide +kernel
theorem dX5_wholly_95 : decode cX5_wholly 95 = .ok (.getfield 42, 3) := by decide +kernel
theorem dX5_wholly_98 : decode cX5_wholly 98 = .ok (.aload_n 0, 1) := by decide +kernel
theorem dX5_wholly_99 : decode cX5_wholly 99 = .ok (.getfield 19, 3) := by decide +kernel
theorem dX5_wholly_102 : decode cX5_wholly 102 = .ok (.invokevirtual 239, 3) := by decide +kernel
theorem dX5_wholly_105 : decode cX5_wholly 105 = .ok (.aload_n 0, 1) := by decide +kernel
theorem dX5_wholly_106 : decode cX5_wholly 106 = .ok (.iload_n 1, 1) := by decide +kernel
theorem dX5_wholly_107 : decode cX5_wholly 107 = .ok (.iload 6, 2) := by decide +kernel
theorem dX5_wholly_109 : decode cX5_wholly 109 = .ok (.invokevirtual 222, 3) := by decide +kernel
theorem dX5_wholly_112 : decode cX5_wholly 112 = .ok (.aload_n 0, 1) := by decide +kernel
theorem dX5_wholly_113 : decode cX5_wholly 113 = .ok (.getfield 42, 3) := by decide +kernel
theorem dX5_wholly_116 : decode cX5_wholly 116 = .ok (.aload_n 0, 1) := by decide +kernel
theorem dX5_wholly_117 : decode cX5_wholly 117 = .ok (.getfield 39, 3) := by decide +kernel
theorem dX5_wholly_120 : decode cX5_wholly 120 = .ok (.invokevirtual 191, 3) := by decide +kernel
theorem dX5_wholly_123 : decode cX5_wholly 123 = .ok (.invokestatic 241, 3) := by decide +kernel
theorem dX5_wholly_126 : decode cX5_wholly 126 = .ok (.istore 7, 2) := by decide +kernel
theorem dX5_wholly_128 : decode cX5_wholly 128 = .ok (.iload 7, 2) := by decide +kernel
theorem dX5_wholly_130 : decode cX5_wholly 130 = .ok (.iload 5, 2) := by decide +kernel
theorem dX5_wholly_132 : decode cX5_wholly 132 = .ok (.if_icmp .le 11, 3) := by decide +kernel
theorem dX5_wholly_135 : decode cX5_wholly 135 = .ok (.iload 7, 2) := by decide +kernel
theorem dX5_wholly_137 : decode cX5_wholly 137 = .ok (.istore 5, 2) := by decide +kernel
theorem dX5_wholly_139 : decode cX5_wholly 139 = .ok (.iload 6, 2) := by decide +kernel
theorem dX5_wholly_141 : decode cX5_wholly 141 = .ok (.istore 4, 2) := by decide +kernel
theorem dX5_wholly_143 : decode cX5_wholly 143 = .ok (.iinc 6 1, 3) := by decide +kernel
theorem dX5_wholly_146 : decode cX5_wholly 146 = .ok (.goto (-85), 3) := by decide +kernel
theorem dX5_wholly_149 : decode cX5_wholly 149 = .ok (.iload_n 2, 1) := by decide +kernel
theorem dX5_wholly_150 : decode cX5_wholly 150 = .ok (.ifCond .ne 8, 3) := by decide +kernel
theorem dX5_wholly_153 : decode cX5_wholly 153 = .ok (.iload 4, 2) := by decide +kernel
theorem dX5_wholly_155 : decode cX5_wholly 155 = .ok (.goto 5, 3) := by decide +kernel
theorem dX5_wholly_158 : decode cX5_wholly 158 = .ok (.iload 5, 2) := by decide +kernel
theorem dX5_wholly_160 : decode cX5_wholly 160 = .ok (.ireturn, 1) := by decide +kernel
theorem dX5_drank_0 : decode cX5_drank 0 = .ok (.iload_n 1, 1) := by decide +kernel
theorem dX5_drank_1 : decode cX5_drank 1 = .ok (.iconst 0, 1) := by decide +kernel
theorem dX5_drank_2 : decode cX5_drank 2 = .ok (.sipush 999, 3) := by decide +kernel
theorem dX5_drank_5 : decode cX5_drank 5 = .ok (.invokestatic 69, 3) := by decide +kernel
theorem dX5_drank_8 : decode cX5_drank 8 = .ok (.ifCond .ne 12, 3) := by decide +kernel
theorem dX5_drank_11 : decode cX5_drank 11 = .ok (.iload_n 2, 1) := by decide +kernel
theorem dX5_drank_12 : decode cX5_drank 12 = .ok (.iconst 0, 1) := by decide +kernel
theorem dX5_drank_13 : decode cX5_drank 13 = .ok (.iconst 1, 1) := by decide +kernel
theorem dX5_drank_14 : decode cX5_drank 14 = .ok (.invokestatic 69, 3) := by decide +kernel
theorem dX5_drank_17 : decode cX5_drank 17 = .ok (.ifCond .eq 5, 3) := by decide +kernel
theorem dX5_drank_20 : decode cX5_drank 20 = .ok (.iconst (-1), 1) := by decide +kernel
theorem dX5_drank_21 : decode cX5_drank 21 = .ok (.ireturn, 1) := by decide +kernel
theorem dX5_drank_22 : decode cX5_drank 22 = .ok (.iconst 0, 1) := by decide +kernel
theorem dX5_drank_23 : decode cX5_drank 23 = .ok (.istore_n 3, 1) := by decide +kernel
theorem dX5_drank_24 : decode cX5_drank 24 = .ok (.bipush (-4), 2) := by decide +kernel
theorem dX5_drank_26 : decode cX5_drank 26 = .ok (.istore 4, 2) := by decide +kernel
theorem dX5_drank_28 : decode cX5_drank 28 = .ok (.iconst 0, 1) := by decide +kernel
theorem dX5_drank_29 : decode cX5_drank 29 = .ok (.istore 5, 2) := by decide +kernel
theorem dX5_drank_31 : decode cX5_drank 31 = .ok (.iload 5, 2) := by decide +kernel
theorem dX5_drank_33 : decode cX5_drank 33 = .ok (.iconst 1, 1) := by decide +kernel
theorem dX5_drank_34 : decode cX5_drank 34 = .ok (.aload_n 0, 1) := by decide +kernel
theorem dX5_drank_35 : decode cX5_drank 35 = .ok (.getfield 10, 3) := by decide +kernel
theorem dX5_drank_38 : decode cX5_drank 38 = .ok (.getfield 73, 3) := by decide +kernel
theorem dX5_drank_41 : decode cX5_drank 41 = .ok (.ishl, 1) := by decide +kernel
theorem dX5_drank_42 : decode cX5_drank 42 = .ok (.if_icmp .ge 42, 3) := by decide +kernel
theorem dX5_drank_45 : decode cX5_drank 45 = .ok (.aload_n 0, 1) := by decide +kernel
theorem dX5_drank_46 : decode cX5_drank 46 = .ok (.getfield 19, 3) := by decide +kernel
theorem dX5_drank_49 : decode cX5_drank 49 = .ok (.aload_n 0, 1) := by decide +kernel
theorem dX5_drank_50 : decode cX5_drank 50 = .ok (.getfield 10, 3) := by decide +kernel
theorem dX5_drank_53 : decode cX5_drank 53 = .ok (.iload 5, 2) := by decide +kernel
theorem dX5_drank_55 : decode cX5_drank 55 = .ok (.invokevirtual 246, 3) := by decide +kernel
theorem dX5_drank_58 : decode cX5_drank 58 = .ok (.iload_n 1, 1) := by decide +kernel
theorem dX5_drank_59 : decode cX5_drank 59 = .ok (.if_icmp .ne 19, 3) := by decide +kernel
theorem dX5_drank_62 : decode cX5_drank 62 = .ok (.iload_n 3, 1) := by decide +kernel
theorem dX5_drank_63 : decode cX5_drank 63 = .ok (.ifCond .ne 8, 3) := by decide +kernel
theorem dX5_drank_66 : decode cX5_drank 66 = .ok (.iload 5, 2) := by decide +kernel
theorem dX5_drank_68 : decode cX5_drank 68 = .ok (.goto 5, 3) := by decide +kernel
theorem dX5_drank_71 : decode cX5_drank 71 = .ok (.iload 4, 2) := by decide +kernel
theorem dX5_drank_73 : decode cX5_drank 73 = .ok (.istore 4, 2) := by decide +kernel
theorem dX5_drank_75 : decode cX5_drank 75 = .ok (.iinc 3 1, 3) := by decide +kernel
theorem dX5_drank_78 : decode cX5_drank 78 = .ok (.iinc 5 1, 3) := by decide +kernel
theorem dX5_drank_81 : decode cX5_drank 81 = .ok (.goto (-50), 3) := by decide +kernel
theorem dX5_drank_84 : decode cX5_drank 84 = .ok (.iload_n 2, 1) := by decide +kernel
theorem dX5_drank_85 : decode cX5_drank 85 = .ok (.ifCond .ne 7, 3) := by decide +kernel
theorem dX5_drank_88 : decode cX5_drank 88 = .ok (.iload_n 3, 1) := by decide +kernel
theorem dX5_drank_89 : decode cX5_drank 89 = .ok (.goto 5, 3) := by decide +kernel
theorem dX5_drank_92 : decode cX5_drank 92 = .ok (.iload 4, 2) := by decide +kernel
theorem dX5_drank_94 : decode cX5_drank 94 = .ok (.ireturn, 1) := by decide +kernel
theorem dX5_holds_0 : decode cX5_holds 0 = .ok (.iload_n 1, 1) := by decide +kernel
theorem dX5_holds_1 : decode cX5_holds 1 = .ok (.iconst 0, 1) := by decide +kernel
theorem dX5_holds_2 : decode cX5_holds 2 = .ok (.sipush 240, 3) := by decide +kernel
theorem dX5_holds_5 : decode cX5_holds 5 = .ok (.invokestatic 69, 3) := by decide +kernel
theorem dX5_holds_8 : decode cX5_holds 8 = .ok (.ifCond .eq 5, 3) := by decide +kernel
theorem dX5_holds_11 : decode cX5_holds 11 = .ok (.iconst (-1), 1) := by decide +kernel
theorem dX5_holds_12 : decode cX5_holds 12 = .ok (.ireturn, 1) := by decide +kernel
theorem dX5_holds_13 : decode cX5_holds 13 = .ok (.ldc 249, 2) := by decide +kernel
theorem dX5_holds_15 : decode cX5_holds 15 = .ok (.istore_n 2, 1) := by decide +kernel
theorem dX5_holds_16 : decode cX5_holds 16 = .ok (.iconst 1, 1) := by decide +kernel
theorem dX5_holds_17 : decode cX5_holds 17 = .ok (.istore_n 3, 1) := by decide +kernel
theorem dX5_holds_18 : decode cX5_holds 18 = .ok (.iload_n 3, 1) := by decide +kernel
theorem dX5_holds_19 : decode cX5_holds 19 = .ok (.iload_n 1, 1) := by decide +kernel
theorem dX5_holds_20 : decode cX5_holds 20 = .ok (.if_icmp .gt 39, 3) := by decide +kernel
theorem dX5_holds_23 : decode cX5_holds 23 = .ok (.bipush 100, 2) := by decide +kernel
theorem dX5_holds_25 : decode cX5_holds 25 = .ok (.aload_n 0, 1) := by decide +kernel
theorem dX5_holds_26 : decode cX5_holds 26 = .ok (.getfield 19, 3) := by decide +kernel
theorem dX5_holds_29 : decode cX5_holds 29 = .ok (.getfield 182, 3) := by decide +kernel
theorem dX5_holds_32 : decode cX5_holds 32 = .ok (.iload_n 3, 1) := by decide +kernel
theorem dX5_holds_33 : decode cX5_holds 33 = .ok (.iadd, 1) := by decide +kernel
theorem dX5_holds_34 : decode cX5_holds 34 = .ok (.bipush 10, 2) := by decide +kernel
theorem dX5_holds_36 : decode cX5_holds 36 = .ok (.idiv, 1) := by decide +kernel
theorem dX5_holds_37 : decode cX5_holds 37 = .ok (.invokestatic 250, 3) := by decide +kernel
theorem dX5_holds_40 : decode cX5_holds 40 = .ok (.istore 4, 2) := by decide +kernel
theorem dX5_holds_42 : decode cX5_holds 42 = .ok (.iload_n 2, 1) := by decide +kernel
theorem dX5_holds_43 : decode cX5_holds 43 = .ok (.bipush 100, 2) := by decide +kernel
theorem dX5_holds_45 : decode cX5_holds 45 = .ok (.iload 4, 2) := by decide +kernel
theorem dX5_holds_47 : decode cX5_holds 47 = .ok (.isub, 1) := by decide +kernel
theorem dX5_holds_48 : decode cX5_holds 48 = .ok (.imul, 1) := by decide +kernel
theorem dX5_holds_49 : decode cX5_holds 49 = .ok (.bipush 100, 2) := by decide +kernel
theorem dX5_holds_51 : decode cX5_holds 51 = .ok (.idiv, 1) := by decide +kernel
theorem dX5_holds_52 : decode cX5_holds 52 = .ok (.istore_n 2, 1) := by decide +kernel
theorem dX5_holds_53 : decode cX5_holds 53 = .ok (.iinc 3 1, 3) := by decide +kernel
theorem dX5_holds_56 : decode cX5_holds 56 = .ok (.goto (-38), 3) := by decide +kernel
theorem dX5_holds_59 : decode cX5_holds 59 = .ok (.iload_n 2, 1) := by decide +kernel
theorem dX5_holds_60 : decode cX5_holds 60 = .ok (.ireturn, 1) := by decide +kernel
theorem dX5_image_0 : decode cX5_image 0 = .ok (.aload_n 0, 1) := by decide +kernel
theorem dX5_image_1 : decode cX5_image 1 = .ok (.getfield 30, 3) := by decide +kernel
theorem dX5_image_4 : decode cX5_image 4 = .ok (.aload_n 0, 1) := by decide +kernel
theorem dX5_image_5 : decode cX5_image 5 = .ok (.getfield 10, 3) := by decide +kernel
theorem dX5_image_8 : decode cX5_image 8 = .ok (.invokevirtual 163, 3) := by decide +kernel
theorem dX5_image_11 : decode cX5_image 11 = .ok (.aload_n 0, 1) := by decide +kernel
theorem dX5_image_12 : decode cX5_image 12 = .ok (.getfield 33, 3) := by decide +kernel
theorem dX5_image_15 : decode cX5_image 15 = .ok (.aload_n 0, 1) := by decide +kernel
theorem dX5_image_16 : decode cX5_image 16 = .ok (.getfield 19, 3) := by decide +kernel
theorem dX5_image_19 : decode cX5_image 19 = .ok (.invokevirtual 239, 3) := by decide +kernel
theorem dX5_image_22 : decode cX5_image 22 = .ok (.aload_n 0, 1) := by decide +kernel
theorem dX5_image_23 : decode cX5_image 23 = .ok (.getfield 36, 3) := by decide +kernel
theorem dX5_image_26 : decode cX5_image 26 = .ok (.aload_n 0, 1) := by decide +kernel
theorem dX5_image_27 : decode cX5_image 27 = .ok (.getfield 26, 3) := by decide +kernel
theorem dX5_image_30 : decode cX5_image 30 = .ok (.invokevirtual 256, 3) := by decide +kernel
theorem dX5_image_33 : decode cX5_image 33 = .ok (.aload_n 0, 1) := by decide +kernel
theorem dX5_image_34 : decode cX5_image 34 = .ok (.iconst 1, 1) := by decide +kernel
theorem dX5_image_35 : decode cX5_image 35 = .ok (.putfield 259, 3) := by decide +kernel
theorem dX5_image_38 : decode cX5_image 38 = .ok (.iconst 1, 1) := by decide +kernel
theorem dX5_image_39 : decode cX5_image 39 = .ok (.ireturn, 1) := by decide +kernel
theorem dX5_restore_0 : decode cX5_restore 0 = .ok (.aload_n 0, 1) := by decide +kernel
theorem dX5_restore_1 : decode cX5_restore 1 = .ok (.getfield 259, 3) := by decide +kernel
theorem dX5_restore_4 : decode cX5_restore 4 = .ok (.ifCond .ne 6, 3) := by decide +kernel
theorem dX5_restore_7 : decode cX5_restore 7 = .ok (.bipush (-4), 2) := by decide +kernel
theorem dX5_restore_9 : decode cX5_restore 9 = .ok (.ireturn, 1) := by decide +kernel
theorem dX5_restore_10 : decode cX5_restore 10 = .ok (.aload_n 0, 1) := by decide +kernel
theorem dX5_restore_11 : decode cX5_restore 11 = .ok (.getfield 10, 3) := by decide +kernel
theorem dX5_restore_14 : decode cX5_restore 14 = .ok (.aload_n 0, 1) := by decide +kernel
theorem dX5_restore_15 : decode cX5_restore 15 = .ok (.getfield 30, 3) := by decide +kernel
theorem dX5_restore_18 : decode cX5_restore 18 = .ok (.invokevirtual 163, 3) := by decide +kernel
theorem dX5_restore_21 : decode cX5_restore 21 = .ok (.aload_n 0, 1) := by decide +kernel
theorem dX5_restore_22 : decode cX5_restore 22 = .ok (.getfield 19, 3) := by decide +kernel
theorem dX5_restore_25 : decode cX5_restore 25 = .ok (.aload_n 0, 1) := by decide +kernel
theorem dX5_restore_26 : decode cX5_restore 26 = .ok (.getfield 33, 3) := by decide +kernel
theorem dX5_restore_29 : decode cX5_restore 29 = .ok (.invokevirtual 239, 3) := by decide +kernel
theorem dX5_restore_32 : decode cX5_restore 32 = .ok (.aload_n 0, 1) := by decide +kernel
theorem dX5_restore_33 : decode cX5_restore 33 = .ok (.getfield 26, 3) := by decide +kernel
theorem dX5_restore_36 : decode cX5_restore 36 = .ok (.aload_n 0, 1) := by decide +kernel
theorem dX5_restore_37 : decode cX5_restore 37 = .ok (.getfield 36, 3) := by decide +kernel
theorem dX5_restore_40 : decode cX5_restore 40 = .ok (.invokevirtual 256, 3) := by decide +kernel
theorem dX5_restore_43 : decode cX5_restore 43 = .ok (.iconst 1, 1) := by decide +kernel
theorem dX5_restore_44 : decode cX5_restore 44 = .ok (.ireturn, 1) := by decide +kernel
theorem dX5_foretell_0 : decode cX5_foretell 0 = .ok (.aload_n 0, 1) := by decide +kernel
theorem dX5_foretell_1 : decode cX5_foretell 1 = .ok (.getfield 39, 3) := by decide +kernel
theorem dX5_foretell_4 : decode cX5_foretell 4 = .ok (.aload_n 0, 1) := by decide +kernel
theorem dX5_foretell_5 : decode cX5_foretell 5 = .ok (.getfield 10, 3) := by decide +kernel
theorem dX5_foretell_8 : decode cX5_foretell 8 = .ok (.invokevirtual 163, 3) := by decide +kernel
theorem dX5_foretell_11 : decode cX5_foretell 11 = .ok (.aload_n 0, 1) := by decide +kernel
theorem dX5_foretell_12 : decode cX5_foretell 12 = .ok (.getfield 39, 3) := by decide +kernel
theorem dX5_foretell_15 : decode cX5_foretell 15 = .ok (.invokevirtual 151, 3) := by decide +kernel
theorem dX5_foretell_18 : decode cX5_foretell 18 = .ok (.aload_n 0, 1) := by decide +kernel
theorem dX5_foretell_19 : decode cX5_foretell 19 = .ok (.getfield 42, 3) := by decide +kernel
theorem dX5_foretell_22 : decode cX5_foretell 22 = .ok (.aload_n 0, 1) := by decide +kernel
theorem dX5_foretell_23 : decode cX5_foretell 23 = .ok (.getfield 19, 3) := by decide +kernel
theorem dX5_foretell_26 : decode cX5_foretell 26 = .ok (.invokevirtual 239, 3) := by decide +kernel
theorem dX5_foretell_29 : decode cX5_foretell 29 = .ok (.return_, 1) := by decide +kernel
theorem dX5_play_0 : decode cX5_play 0 = .ok (.iconst 1, 1) := by decide +kernel
theorem dX5_play_1 : decode cX5_play 1 = .ok (.istore_n 3, 1) := by decide +kernel
theorem dX5_play_2 : decode cX5_play 2 = .ok (.iconst 0, 1) := by decide +kernel
theorem dX5_play_3 : decode cX5_play 3 = .ok (.istore 4, 2) := by decide +kernel
theorem dX5_play_5 : decode cX5_play 5 = .ok (.iload 4, 2) := by decide +kernel
theorem dX5_play_7 : decode cX5_play 7 = .ok (.iload_n 1, 1) := by decide +kernel
theorem dX5_play_8 : decode cX5_play 8 = .ok (.if_icmp .ge 26, 3) := by decide +kernel
theorem dX5_play_11 : decode cX5_play 11 = .ok (.iload_n 3, 1) := by decide +kernel
theorem dX5_play_12 : decode cX5_play 12 = .ok (.ifCond .eq 22, 3) := by decide +kernel
theorem dX5_play_15 : decode cX5_play 15 = .ok (.aload_n 0, 1) := by decide +kernel
theorem dX5_play_16 : decode cX5_play 16 = .ok (.getfield 42, 3) := by decide +kernel
theorem dX5_play_19 : decode cX5_play 19 = .ok (.aload_n 0, 1) := by decide +kernel
theorem dX5_play_20 : decode cX5_play 20 = .ok (.getfield 39, 3) := by decide +kernel
theorem dX5_play_23 : decode cX5_play 23 = .ok (.iload_n 2, 1) := by decide +kernel
theorem dX5_play_24 : decode cX5_play 24 = .ok (.invokevirtual 205, 3) := by decide +kernel
theorem dX5_play_27 : decode cX5_play 27 = .ok (.istore_n 3, 1) := by decide +kernel
theorem dX5_play_28 : decode cX5_play 28 = .ok (.iinc 4 1, 3) := by decide +kernel
theorem dX5_play_31 : decode cX5_play 31 = .ok (.goto (-26), 3) := by decide +kernel
theorem dX5_play_34 : decode cX5_play 34 = .ok (.return_, 1) := by decide +kernel
theorem dX5_soonestAll_0 : decode cX5_soonestAll 0 = .ok (.aload_n 0, 1) := by decide +kernel
theorem dX5_soonestAll_1 : decode cX5_soonestAll 1 = .ok (.getfield 39, 3) := by decide +kernel
theorem dX5_soonestAll_4 : decode cX5_soonestAll 4 = .ok (.invokevirtual 151, 3) := by decide +kernel
theorem dX5_soonestAll_7 : decode cX5_soonestAll 7 = .ok (.aload_n 0, 1) := by decide +kernel
theorem dX5_soonestAll_8 : decode cX5_soonestAll 8 = .ok (.getfield 42, 3) := by decide +kernel
theorem dX5_soonestAll_11 : decode cX5_soonestAll 11 = .ok (.aload_n 0, 1) := by decide +kernel
theorem dX5_soonestAll_12 : decode cX5_soonestAll 12 = .ok (.getfield 19, 3) := by decide +kernel
theorem dX5_soonestAll_15 : decode cX5_soonestAll 15 = .ok (.invokevirtual 239, 3) := by decide +kernel
theorem dX5_soonestAll_18 : decode cX5_soonestAll 18 = .ok (.iconst 1, 1) := by decide +kernel
theorem dX5_soonestAll_19 : decode cX5_soonestAll 19 = .ok (.istore_n 2, 1) := by decide +kernel
theorem dX5_soonestAll_20 : decode cX5_soonestAll 20 = .ok (.iconst 0, 1) := by decide +kernel
theorem dX5_soonestAll_21 : decode cX5_soonestAll 21 = .ok (.istore_n 3, 1) := by decide +kernel
theorem dX5_soonestAll_22 : decode cX5_soonestAll 22 = .ok (.iload_n 3, 1) := by decide +kernel
theorem dX5_soonestAll_23 : decode cX5_soonestAll 23 = .ok (.iload_n 1, 1) := by decide +kernel
theorem dX5_soonestAll_24 : decode cX5_soonestAll 24 = .ok (.if_icmp .gt 43, 3) := by decide +kernel
theorem dX5_soonestAll_27 : decode cX5_soonestAll 27 = .ok (.iload_n 2, 1) := by decide +kernel
theorem dX5_soonestAll_28 : decode cX5_soonestAll 28 = .ok (.ifCond .eq 39, 3) := by decide +kernel
theorem dX5_soonestAll_31 : decode cX5_soonestAll 31 = .ok (.aload_n 0, 1) := by decide +kernel
theorem dX5_soonestAll_32 : decode cX5_soonestAll 32 = .ok (.getfield 42, 3) := by decide +kernel
theorem dX5_soonestAll_35 : decode cX5_soonestAll 35 = .ok (.aload_n 0, 1) := by decide +kernel
theorem dX5_soonestAll_36 : decode cX5_soonestAll 36 = .ok (.getfield 39, 3) := by decide +kernel
theorem dX5_soonestAll_39 : decode cX5_soonestAll 39 = .ok (.invokevirtual 263, 3) := by decide +kernel
theorem dX5_soonestAll_42 : decode cX5_soonestAll 42 = .ok (.ifCond .eq 5, 3) := by decide +kernel
theorem dX5_soonestAll_45 : decode cX5_soonestAll 45 = .ok (.iload_n 3, 1) := by decide +kernel
theorem dX5_soonestAll_46 : decode cX5_soonestAll 46 = .ok (.ireturn, 1) := by decide +kernel
theorem dX5_soonestAll_47 : decode cX5_soonestAll 47 = .ok (.aload_n 0, 1) := by decide +kernel
theorem dX5_soonestAll_48 : decode cX5_soonestAll 48 = .ok (.getfield 42, 3) := by decide +kernel
theorem dX5_soonestAll_51 : decode cX5_soonestAll 51 = .ok (.aload_n 0, 1) := by decide +kernel
theorem dX5_soonestAll_52 : decode cX5_soonestAll 52 = .ok (.getfield 39, 3) := by decide +kernel
theorem dX5_soonestAll_55 : decode cX5_soonestAll 55 = .ok (.bipush 127, 2) := by decide +kernel
theorem dX5_soonestAll_57 : decode cX5_soonestAll 57 = .ok (.invokevirtual 205, 3) := by decide +kernel
theorem dX5_soonestAll_60 : decode cX5_soonestAll 60 = .ok (.istore_n 2, 1) := by decide +kernel
theorem dX5_soonestAll_61 : decode cX5_soonestAll 61 = .ok (.iinc 3 1, 3) := by decide +kernel
theorem dX5_soonestAll_64 : decode cX5_soonestAll 64 = .ok (.goto (-42), 3) := by decide +kernel
theorem dX5_soonestAll_67 : decode cX5_soonestAll 67 = .ok (.bipush (-4), 2) := by decide +kernel
theorem dX5_soonestAll_69 : decode cX5_soonestAll 69 = .ok (.ireturn, 1) := by decide +kernel
theorem dX5_foretellDone_0 : decode cX5_foretellDone 0 = .ok (.aload_n 0, 1) := by decide +kernel
theorem dX5_foretellDone_1 : decode cX5_foretellDone 1 = .ok (.getfield 39, 3) := by decide +kernel
theorem dX5_foretellDone_4 : decode cX5_foretellDone 4 = .ok (.aload_n 0, 1) := by decide +kernel
theorem dX5_foretellDone_5 : decode cX5_foretellDone 5 = .ok (.getfield 10, 3) := by decide +kernel
theorem dX5_foretellDone_8 : decode cX5_foretellDone 8 = .ok (.invokevirtual 163, 3) := by decide +kernel
theorem dX5_foretellDone_11 : decode cX5_foretellDone 11 = .ok (.aload_n 0, 1) := by decide +kernel
