theorem dX12_puts_11 : decode cX12_puts 11 = .ok (.imul, 1) := by decide +kernel
theorem dX12_puts_12 : decode cX12_puts 12 = .ok (.aload_n 0, 1) := by decide +kernel
theorem dX12_puts_13 : decode cX12_puts 13 = .ok (.getfield 17, 3) := by decide +kernel
theorem dX12_puts_16 : decode cX12_puts 16 = .ok (.aload_n 0, 1) := by decide +kernel
theorem dX12_puts_17 : decode cX12_puts 17 = .ok (.getfield 168, 3) := by decide +kernel
theorem dX12_puts_20 : decode cX12_puts 20 = .ok (.iaload, 1) := by decide +kernel
theorem dX12_puts_21 : decode cX12_puts 21 = .ok (.iadd, 1) := by decide +kernel
theorem dX12_puts_22 : decode cX12_puts 22 = .ok (.iload_n 1, 1) := by decide +kernel
theorem dX12_puts_23 : decode cX12_puts 23 = .ok (.bipush 16, 2) := by decide +kernel
theorem dX12_puts_25 : decode cX12_puts 25 = .ok (.iload_n 2, 1) := by decide +kernel
theorem dX12_puts_26 : decode cX12_puts 26 = .ok (.imul, 1) := by decide +kernel
theorem dX12_puts_27 : decode cX12_puts 27 = .ok (.iadd, 1) := by decide +kernel
theorem dX12_puts_28 : decode cX12_puts 28 = .ok (.iastore, 1) := by decide +kernel
theorem dX12_puts_29 : decode cX12_puts 29 = .ok (.aload_n 0, 1) := by decide +kernel
theorem dX12_puts_30 : decode cX12_puts 30 = .ok (.getfield 17, 3) := by decide +kernel
theorem dX12_puts_33 : decode cX12_puts 33 = .ok (.aload_n 0, 1) := by decide +kernel
theorem dX12_puts_34 : decode cX12_puts 34 = .ok (.getfield 168, 3) := by decide +kernel
theorem dX12_puts_37 : decode cX12_puts 37 = .ok (.dup2, 1) := by decide +kernel
theorem dX12_puts_38 : decode cX12_puts 38 = .ok (.iaload, 1) := by decide +kernel
theorem dX12_puts_39 : decode cX12_puts 39 = .ok (.iconst 1, 1) := by decide +kernel
theorem dX12_puts_40 : decode cX12_puts 40 = .ok (.iadd, 1) := by decide +kernel
theorem dX12_puts_41 : decode cX12_puts 41 = .ok (.iastore, 1) := by decide +kernel
theorem dX12_puts_42 : decode cX12_puts 42 = .ok (.return_, 1) := by decide +kernel
theorem dX12_makes_0 : decode cX12_makes 0 = .ok (.aload_n 0, 1) := by decide +kernel
theorem dX12_makes_1 : decode cX12_makes 1 = .ok (.getfield 171, 3) := by decide +kernel
theorem dX12_makes_4 : decode cX12_makes 4 = .ok (.bipush 60, 2) := by decide +kernel
theorem dX12_makes_6 : decode cX12_makes 6 = .ok (.if_icmp .ne 10, 3) := by decide +kernel
theorem dX12_makes_9 : decode cX12_makes 9 = .ok (.aload_n 0, 1) := by decide +kernel
theorem dX12_makes_10 : decode cX12_makes 10 = .ok (.iconst 3, 1) := by decide +kernel
theorem dX12_makes_11 : decode cX12_makes 11 = .ok (.iload_n 1, 1) := by decide +kernel
theorem dX12_makes_12 : decode cX12_makes 12 = .ok (.invokevirtual 141, 3) := by decide +kernel
theorem dX12_makes_15 : decode cX12_makes 15 = .ok (.ireturn, 1) := by decide +kernel
theorem dX12_makes_16 : decode cX12_makes 16 = .ok (.aload_n 0, 1) := by decide +kernel
theorem dX12_makes_17 : decode cX12_makes 17 = .ok (.dup, 1) := by decide +kernel
theorem dX12_makes_18 : decode cX12_makes 18 = .ok (.getfield 171, 3) := by decide +kernel
theorem dX12_makes_21 : decode cX12_makes 21 = .ok (.iconst 1, 1) := by decide +kernel
theorem dX12_makes_22 : decode cX12_makes 22 = .ok (.iadd, 1) := by decide +kernel
theorem dX12_makes_23 : decode cX12_makes 23 = .ok (.putfield 171, 3) := by decide +kernel
theorem dX12_makes_26 : decode cX12_makes 26 = .ok (.iconst 1, 1) := by decide +kernel
theorem dX12_makes_27 : decode cX12_makes 27 = .ok (.ireturn, 1) := by decide +kernel
theorem dX12_opens_0 : decode cX12_opens 0 = .ok (.aload_n 0, 1) := by decide +kernel
theorem dX12_opens_1 : decode cX12_opens 1 = .ok (.getfield 174, 3) := by decide +kernel
theorem dX12_opens_4 : decode cX12_opens 4 = .ok (.bipush 10, 2) := by decide +kernel
theorem dX12_opens_6 : decode cX12_opens 6 = .ok (.if_icmp .ne 13, 3) := by decide +kernel
theorem dX12_opens_9 : decode cX12_opens 9 = .ok (.aload_n 0, 1) := by decide +kernel
theorem dX12_opens_10 : decode cX12_opens 10 = .ok (.iconst 2, 1) := by decide +kernel
theorem dX12_opens_11 : decode cX12_opens 11 = .ok (.aload_n 0, 1) := by decide +kernel
theorem dX12_opens_12 : decode cX12_opens 12 = .ok (.getfield 120, 3) := by decide +kernel
theorem dX12_opens_15 : decode cX12_opens 15 = .ok (.invokevirtual 141, 3) := by decide +kernel
theorem dX12_opens_18 : decode cX12_opens 18 = .ok (.ireturn, 1) := by decide +kernel
theorem dX12_opens_19 : decode cX12_opens 19 = .ok (.aload_n 0, 1) := by decide +kernel
theorem dX12_opens_20 : decode cX12_opens 20 = .ok (.dup, 1) := by decide +kernel
theorem dX12_opens_21 : decode cX12_opens 21 = .ok (.getfield 174, 3) := by decide +kernel
theorem dX12_opens_24 : decode cX12_opens 24 = .ok (.iconst 1, 1) := by decide +kernel
theorem dX12_opens_25 : decode cX12_opens 25 = .ok (.iadd, 1) := by decide +kernel
theorem dX12_opens_26 : decode cX12_opens 26 = .ok (.putfield 174, 3) := by decide +kernel
theorem dX12_opens_29 : decode cX12_opens 29 = .ok (.aload_n 0, 1) := by decide +kernel
theorem dX12_opens_30 : decode cX12_opens 30 = .ok (.getfield 38, 3) := by decide +kernel
theorem dX12_opens_33 : decode cX12_opens 33 = .ok (.aload_n 0, 1) := by decide +kernel
theorem dX12_opens_34 : decode cX12_opens 34 = .ok (.getfield 177, 3) := by decide +kernel
theorem dX12_opens_37 : decode cX12_opens 37 = .ok (.iload_n 1, 1) := by decide +kernel
theorem dX12_opens_38 : decode cX12_opens 38 = .ok (.iastore, 1) := by decide +kernel
theorem dX12_opens_39 : decode cX12_opens 39 = .ok (.aload_n 0, 1) := by decide +kernel
theorem dX12_opens_40 : decode cX12_opens 40 = .ok (.dup, 1) := by decide +kernel
theorem dX12_opens_41 : decode cX12_opens 41 = .ok (.getfield 177, 3) := by decide +kernel
theorem dX12_opens_44 : decode cX12_opens 44 = .ok (.iconst 1, 1) := by decide +kernel
theorem dX12_opens_45 : decode cX12_opens 45 = .ok (.iadd, 1) := by decide +kernel
theorem dX12_opens_46 : decode cX12_opens 46 = .ok (.putfield 177, 3) := by decide +kernel
theorem dX12_opens_49 : decode cX12_opens 49 = .ok (.iconst 1, 1) := by decide +kernel
theorem dX12_opens_50 : decode cX12_opens 50 = .ok (.ireturn, 1) := by decide +kernel
theorem dX12_strength_0 : decode cX12_strength 0 = .ok (.iload_n 0, 1) := by decide +kernel
theorem dX12_strength_1 : decode cX12_strength 1 = .ok (.bipush 13, 2) := by decide +kernel
theorem dX12_strength_3 : decode cX12_strength 3 = .ok (.if_icmp .ne 7, 3) := by decide +kernel
theorem dX12_strength_6 : decode cX12_strength 6 = .ok (.iconst 1, 1) := by decide +kernel
theorem dX12_strength_7 : decode cX12_strength 7 = .ok (.goto 24, 3) := by decide +kernel
theorem dX12_strength_10 : decode cX12_strength 10 = .ok (.iload_n 0, 1) := by decide +kernel
theorem dX12_strength_11 : decode cX12_strength 11 = .ok (.bipush 12, 2) := by decide +kernel
theorem dX12_strength_13 : decode cX12_strength 13 = .ok (.if_icmp .ne 7, 3) := by decide +kernel
theorem dX12_strength_16 : decode cX12_strength 16 = .ok (.iconst 2, 1) := by decide +kernel
theorem dX12_strength_17 : decode cX12_strength 17 = .ok (.goto 14, 3) := by decide +kernel
theorem dX12_strength_20 : decode cX12_strength 20 = .ok (.iload_n 0, 1) := by decide +kernel
theorem dX12_strength_21 : decode cX12_strength 21 = .ok (.bipush 11, 2) := by decide +kernel
theorem dX12_strength_23 : decode cX12_strength 23 = .ok (.if_icmp .ne 7, 3) := by decide +kernel
theorem dX12_strength_26 : decode cX12_strength 26 = .ok (.iconst 3, 1) := by decide +kernel
theorem dX12_strength_27 : decode cX12_strength 27 = .ok (.goto 4, 3) := by decide +kernel
theorem dX12_strength_30 : decode cX12_strength 30 = .ok (.iconst 0, 1) := by decide +kernel
theorem dX12_strength_31 : decode cX12_strength 31 = .ok (.ireturn, 1) := by decide +kernel
theorem dX12_settles_0 : decode cX12_settles 0 = .ok (.aload_n 0, 1) := by decide +kernel
theorem dX12_settles_1 : decode cX12_settles 1 = .ok (.getfield 177, 3) := by decide +kernel
theorem dX12_settles_4 : decode cX12_settles 4 = .ok (.ifCond .le 72, 3) := by decide +kernel
theorem dX12_settles_7 : decode cX12_settles 7 = .ok (.aload_n 0, 1) := by decide +kernel
theorem dX12_settles_8 : decode cX12_settles 8 = .ok (.getfield 38, 3) := by decide +kernel
theorem dX12_settles_11 : decode cX12_settles 11 = .ok (.aload_n 0, 1) := by decide +kernel
theorem dX12_settles_12 : decode cX12_settles 12 = .ok (.getfield 177, 3) := by decide +kernel
theorem dX12_settles_15 : decode cX12_settles 15 = .ok (.iconst 1, 1) := by decide +kernel
theorem dX12_settles_16 : decode cX12_settles 16 = .ok (.isub, 1) := by decide +kernel
theorem dX12_settles_17 : decode cX12_settles 17 = .ok (.iaload, 1) := by decide +kernel
theorem dX12_settles_18 : decode cX12_settles 18 = .ok (.invokestatic 180, 3) := by decide +kernel
theorem dX12_settles_21 : decode cX12_settles 21 = .ok (.iload_n 1, 1) := by decide +kernel
theorem dX12_settles_22 : decode cX12_settles 22 = .ok (.if_icmp .lt 54, 3) := by decide +kernel
theorem dX12_settles_25 : decode cX12_settles 25 = .ok (.aload_n 0, 1) := by decide +kernel
theorem dX12_settles_26 : decode cX12_settles 26 = .ok (.dup, 1) := by decide +kernel
theorem dX12_settles_27 : decode cX12_settles 27 = .ok (.getfield 177, 3) := by decide +kernel
theorem dX12_settles_30 : decode cX12_settles 30 = .ok (.iconst 1, 1) := by decide +kernel
theorem dX12_settles_31 : decode cX12_settles 31 = .ok (.isub, 1) := by decide +kernel
theorem dX12_settles_32 : decode cX12_settles 32 = .ok (.putfield 177, 3) := by decide +kernel
theorem dX12_settles_35 : decode cX12_settles 35 = .ok (.aload_n 0, 1) := by decide +kernel
theorem dX12_settles_36 : decode cX12_settles 36 = .ok (.aload_n 0, 1) := by decide +kernel
theorem dX12_settles_37 : decode cX12_settles 37 = .ok (.getfield 38, 3) := by decide +kernel
theorem dX12_settles_40 : decode cX12_settles 40 = .ok (.aload_n 0, 1) := by decide +kernel
theorem dX12_settles_41 : decode cX12_settles 41 = .ok (.getfield 177, 3) := by decide +kernel
theorem dX12_settles_44 : decode cX12_settles 44 = .ok (.iaload, 1) := by decide +kernel
theorem dX12_settles_45 : decode cX12_settles 45 = .ok (.iconst 0, 1) := by decide +kernel
theorem dX12_settles_46 : decode cX12_settles 46 = .ok (.invokevirtual 184, 3) := by decide +kernel
theorem dX12_settles_49 : decode cX12_settles 49 = .ok (.aload_n 0, 1) := by decide +kernel
theorem dX12_settles_50 : decode cX12_settles 50 = .ok (.getfield 38, 3) := by decide +kernel
theorem dX12_settles_53 : decode cX12_settles 53 = .ok (.aload_n 0, 1) := by decide +kernel
theorem dX12_settles_54 : decode cX12_settles 54 = .ok (.getfield 177, 3) := by decide +kernel
theorem dX12_settles_57 : decode cX12_settles 57 = .ok (.iaload, 1) := by decide +kernel
theorem dX12_settles_58 : decode cX12_settles 58 = .ok (.bipush 11, 2) := by decide +kernel
theorem dX12_settles_60 : decode cX12_settles 60 = .ok (.if_icmp .ne (-60), 3) := by decide +kernel
theorem dX12_settles_63 : decode cX12_settles 63 = .ok (.aload_n 0, 1) := by decide +kernel
theorem dX12_settles_64 : decode cX12_settles 64 = .ok (.dup, 1) := by decide +kernel
theorem dX12_settles_65 : decode cX12_settles 65 = .ok (.getfield 174, 3) := by decide +kernel
theorem dX12_settles_68 : decode cX12_settles 68 = .ok (.iconst 1, 1) := by decide +kernel
theorem dX12_settles_69 : decode cX12_settles 69 = .ok (.isub, 1) := by decide +kernel
theorem dX12_settles_70 : decode cX12_settles 70 = .ok (.putfield 174, 3) := by decide +kernel
theorem dX12_settles_73 : decode cX12_settles 73 = .ok (.goto (-73), 3) := by decide +kernel
theorem dX12_settles_76 : decode cX12_settles 76 = .ok (.return_, 1) := by decide +kernel
theorem dX12_value_0 : decode cX12_value 0 = .ok (.aload_n 0, 1) := by decide +kernel
theorem dX12_value_1 : decode cX12_value 1 = .ok (.invokevirtual 123, 3) := by decide +kernel
theorem dX12_value_4 : decode cX12_value 4 = .ok (.pop, 1) := by decide +kernel
theorem dX12_value_5 : decode cX12_value 5 = .ok (.aload_n 0, 1) := by decide +kernel
theorem dX12_value_6 : decode cX12_value 6 = .ok (.getfield 120, 3) := by decide +kernel
theorem dX12_value_9 : decode cX12_value 9 = .ok (.istore_n 1, 1) := by decide +kernel
theorem dX12_value_10 : decode cX12_value 10 = .ok (.aload_n 0, 1) := by decide +kernel
theorem dX12_value_11 : decode cX12_value 11 = .ok (.aload_n 0, 1) := by decide +kernel
theorem dX12_value_12 : decode cX12_value 12 = .ok (.getfield 120, 3) := by decide +kernel
theorem dX12_value_15 : decode cX12_value 15 = .ok (.invokevirtual 138, 3) := by decide +kernel
theorem dX12_value_18 : decode cX12_value 18 = .ok (.ifCond .eq 34, 3) := by decide +kernel
theorem dX12_value_21 : decode cX12_value 21 = .ok (.aload_n 0, 1) := by decide +kernel
theorem dX12_value_22 : decode cX12_value 22 = .ok (.iconst 0, 1) := by decide +kernel
theorem dX12_value_23 : decode cX12_value 23 = .ok (.ldc 188, 2) := by decide +kernel
theorem dX12_value_25 : decode cX12_value 25 = .ok (.invokevirtual 189, 3) := by decide +kernel
theorem dX12_value_28 : decode cX12_value 28 = .ok (.ifCond .eq 11, 3) := by decide +kernel
theorem dX12_value_31 : decode cX12_value 31 = .ok (.aload_n 0, 1) := by decide +kernel
theorem dX12_value_32 : decode cX12_value 32 = .ok (.iload_n 1, 1) := by decide +kernel
theorem dX12_value_33 : decode cX12_value 33 = .ok (.invokevirtual 192, 3) := by decide +kernel
theorem dX12_value_36 : decode cX12_value 36 = .ok (.ifCond .ne 5, 3) := by decide +kernel
theorem dX12_value_39 : decode cX12_value 39 = .ok (.iconst 0, 1) := by decide +kernel
theorem dX12_value_40 : decode cX12_value 40 = .ok (.ireturn, 1) := by decide +kernel
theorem dX12_value_41 : decode cX12_value 41 = .ok (.aload_n 0, 1) := by decide +kernel
theorem dX12_value_42 : decode cX12_value 42 = .ok (.iconst 0, 1) := by decide +kernel
theorem dX12_value_43 : decode cX12_value 43 = .ok (.aload_n 0, 1) := by decide +kernel
theorem dX12_value_44 : decode cX12_value 44 = .ok (.getfield 145, 3) := by decide +kernel
theorem dX12_value_47 : decode cX12_value 47 = .ok (.invokevirtual 184, 3) := by decide +kernel
theorem dX12_value_50 : decode cX12_value 50 = .ok (.iconst 1, 1) := by decide +kernel
theorem dX12_value_51 : decode cX12_value 51 = .ok (.ireturn, 1) := by decide +kernel
theorem dX12_value_52 : decode cX12_value 52 = .ok (.aload_n 0, 1) := by decide +kernel
theorem dX12_value_53 : decode cX12_value 53 = .ok (.invokevirtual 195, 3) := by decide +kernel
theorem dX12_value_56 : decode cX12_value 56 = .ok (.istore_n 2, 1) := by decide +kernel
theorem dX12_value_57 : decode cX12_value 57 = .ok (.iload_n 2, 1) := by decide +kernel
theorem dX12_value_58 : decode cX12_value 58 = .ok (.ifCond .ge 10, 3) := by decide +kernel
theorem dX12_value_61 : decode cX12_value 61 = .ok (.aload_n 0, 1) := by decide +kernel
theorem dX12_value_62 : decode cX12_value 62 = .ok (.iconst 0, 1) := by decide +kernel
theorem dX12_value_63 : decode cX12_value 63 = .ok (.iload_n 1, 1) := by decide +kernel
theorem dX12_value_64 : decode cX12_value 64 = .ok (.invokevirtual 141, 3) := by decide +kernel
theorem dX12_value_67 : decode cX12_value 67 = .ok (.ireturn, 1) := by decide +kernel
theorem dX12_value_68 : decode cX12_value 68 = .ok (.aload_n 0, 1) := by decide +kernel
theorem dX12_value_69 : decode cX12_value 69 = .ok (.iload_n 1, 1) := by decide +kernel
theorem dX12_value_70 : decode cX12_value 70 = .ok (.invokevirtual 192, 3) := by decide +kernel
theorem dX12_value_73 : decode cX12_value 73 = .ok (.ifCond .ne 5, 3) := by decide +kernel
theorem dX12_value_76 : decode cX12_value 76 = .ok (.iconst 0, 1) := by decide +kernel
theorem dX12_value_77 : decode cX12_value 77 = .ok (.ireturn, 1) := by decide +kernel
theorem dX12_value_78 : decode cX12_value 78 = .ok (.aload_n 0, 1) := by decide +kernel
theorem dX12_value_79 : decode cX12_value 79 = .ok (.invokevirtual 135, 3) := by decide +kernel
theorem dX12_value_82 : decode cX12_value 82 = .ok (.aload_n 0, 1) := by decide +kernel
theorem dX12_value_83 : decode cX12_value 83 = .ok (.iconst 1, 1) := by decide +kernel
theorem dX12_value_84 : decode cX12_value 84 = .ok (.iload_n 2, 1) := by decide +kernel
theorem dX12_value_85 : decode cX12_value 85 = .ok (.invokevirtual 184, 3) := by decide +kernel
theorem dX12_value_88 : decode cX12_value 88 = .ok (.iconst 1, 1) := by decide +kernel
theorem dX12_value_89 : decode cX12_value 89 = .ok (.ireturn, 1) := by decide +kernel
theorem dX12_term_0 : decode cX12_term 0 = .ok (.aload_n 0, 1) := by decide +kernel
theorem dX12_term_1 : decode cX12_term 1 = .ok (.invokevirtual 198, 3) := by decide +kernel
theorem dX12_term_4 : decode cX12_term 4 = .ok (.ifCond .ne 5, 3) := by decide +kernel
theorem dX12_term_7 : decode cX12_term 7 = .ok (.iconst 0, 1) := by decide +kernel
theorem dX12_term_8 : decode cX12_term 8 = .ok (.ireturn, 1) := by decide +kernel
theorem dX12_term_9 : decode cX12_term 9 = .ok (.aload_n 0, 1) := by decide +kernel
theorem dX12_term_10 : decode cX12_term 10 = .ok (.invokevirtual 123, 3) := by decide +kernel
theorem dX12_term_13 : decode cX12_term 13 = .ok (.bipush 42, 2) := by decide +kernel
theorem dX12_term_15 : decode cX12_term 15 = .ok (.if_icmp .eq 12, 3) := by decide +kernel
theorem dX12_term_18 : decode cX12_term 18 = .ok (.aload_n 0, 1) := by decide +kernel
theorem dX12_term_19 : decode cX12_term 19 = .ok (.invokevirtual 123, 3) := by decide +kernel
theorem dX12_term_22 : decode cX12_term 22 = .ok (.bipush 47, 2) := by decide +kernel
theorem dX12_term_24 : decode cX12_term 24 = .ok (.if_icmp .ne 51, 3) := by decide +kernel
theorem dX12_term_27 : decode cX12_term 27 = .ok (.aload_n 0, 1) := by decide +kernel
theorem dX12_term_28 : decode cX12_term 28 = .ok (.getfield 7, 3) := by decide +kernel
theorem dX12_term_31 : decode cX12_term 31 = .ok (.aload_n 0, 1) := by decide +kernel
theorem dX12_term_32 : decode cX12_term 32 = .ok (.getfield 120, 3) := by decide +kernel
theorem dX12_term_35 : decode cX12_term 35 = .ok (.baload, 1) := by decide +kernel
theorem dX12_term_36 : decode cX12_term 36 = .ok (.bipush 42, 2) := by decide +kernel
theorem dX12_term_38 : decode cX12_term 38 = .ok (.if_icmp .ne 7, 3) := by decide +kernel
theorem dX12_term_41 : decode cX12_term 41 = .ok (.iconst 4, 1) := by decide +kernel
theorem dX12_term_42 : decode cX12_term 42 = .ok (.goto 4, 3) := by decide +kernel
theorem dX12_term_45 : decode cX12_term 45 = .ok (.iconst 5, 1) := by decide +kernel
theorem dX12_term_46 : decode cX12_term 46 = .ok (.istore_n 1, 1) := by decide +kernel
theorem dX12_term_47 : decode cX12_term 47 = .ok (.aload_n 0, 1) := by decide +kernel
theorem dX12_term_48 : decode cX12_term 48 = .ok (.dup, 1) := by decide +kernel
theorem dX12_term_49 : decode cX12_term 49 = .ok (.getfield 120, 3) := by decide +kernel
theorem dX12_term_52 : decode cX12_term 52 = .ok (.iconst 1, 1) := by decide +kernel
theorem dX12_term_53 : decode cX12_term 53 = .ok (.iadd, 1) := by decide +kernel
theorem dX12_term_54 : decode cX12_term 54 = .ok (.putfield 120, 3) := by decide +kernel
theorem dX12_term_57 : decode cX12_term 57 = .ok (.aload_n 0, 1) := by decide +kernel
theorem dX12_term_58 : decode cX12_term 58 = .ok (.invokevirtual 198, 3) := by decide +kernel
theorem dX12_term_61 : decode cX12_term 61 = .ok (.ifCond .ne 5, 3) := by decide +kernel
theorem dX12_term_64 : decode cX12_term 64 = .ok (.iconst 0, 1) := by decide +kernel
theorem dX12_term_65 : decode cX12_term 65 = .ok (.ireturn, 1) := by decide +kernel
theorem dX12_term_66 : decode cX12_term 66 = .ok (.aload_n 0, 1) := by decide +kernel
theorem dX12_term_67 : decode cX12_term 67 = .ok (.iload_n 1, 1) := by decide +kernel
theorem dX12_term_68 : decode cX12_term 68 = .ok (.iconst 0, 1) := by decide +kernel
theorem dX12_term_69 : decode cX12_term 69 = .ok (.invokevirtual 184, 3) := by decide +kernel
theorem dX12_term_72 : decode cX12_term 72 = .ok (.goto (-63), 3) := by decide +kernel
theorem dX12_term_75 : decode cX12_term 75 = .ok (.iconst 1, 1) := by decide +kernel
theorem dX12_term_76 : decode cX12_term 76 = .ok (.ireturn, 1) := by decide +kernel
theorem dX12_sum_0 : decode cX12_sum 0 = .ok (.aload_n 0, 1) := by decide +kernel
theorem dX12_sum_1 : decode cX12_sum 1 = .ok (.invokevirtual 202, 3) := by decide +kernel
theorem dX12_sum_4 : decode cX12_sum 4 = .ok (.ifCond .ne 5, 3) := by decide +kernel
theorem dX12_sum_7 : decode cX12_sum 7 = .ok (.iconst 0, 1) := by decide +kernel
theorem dX12_sum_8 : decode cX12_sum 8 = .ok (.ireturn, 1) := by decide +kernel
theorem dX12_sum_9 : decode cX12_sum 9 = .ok (.aload_n 0, 1) := by decide +kernel
theorem dX12_sum_10 : decode cX12_sum 10 = .ok (.invokevirtual 123, 3) := by decide +kernel
theorem dX12_sum_13 : decode cX12_sum 13 = .ok (.bipush 43, 2) := by decide +kernel
theorem dX12_sum_15 : decode cX12_sum 15 = .ok (.if_icmp .eq 12, 3) := by decide +kernel
theorem dX12_sum_18 : decode cX12_sum 18 = .ok (.aload_n 0, 1) := by decide +kernel
theorem dX12_sum_19 : decode cX12_sum 19 = .ok (.invokevirtual 123, 3) := by decide +kernel
theorem dX12_sum_22 : decode cX12_sum 22 = .ok (.bipush 45, 2) := by decide +kernel
theorem dX12_sum_24 : decode cX12_sum 24 = .ok (.if_icmp .ne 51, 3) := by decide +kernel
theorem dX12_sum_27 : decode cX12_sum 27 = .ok (.aload_n 0, 1) := by decide +kernel
theorem dX12_sum_28 : decode cX12_sum 28 = .ok (.getfield 7, 3) := by decide +kernel
theorem dX12_sum_31 : decode cX12_sum 31 = .ok (.aload_n 0, 1) := by decide +kernel
theorem dX12_sum_32 : decode cX12_sum 32 = .ok (.getfield 120, 3) := by decide +kernel
theorem dX12_sum_35 : decode cX12_sum 35 = .ok (.baload, 1) := by decide +kernel
theorem dX12_sum_36 : decode cX12_sum 36 = .ok (.bipush 43, 2) := by decide +kernel
theorem dX12_sum_38 : decode cX12_sum 38 = .ok (.if_icmp .ne 7, 3) := by decide +kernel
theorem dX12_sum_41 : decode cX12_sum 41 = .ok (.iconst 2, 1) := by decide +kernel
theorem dX12_sum_42 : decode cX12_sum 42 = .ok (.goto 4, 3) := by decide +kernel
theorem dX12_sum_45 : decode cX12_sum 45 = .ok (.iconst 3, 1) := by decide +kernel
theorem dX12_sum_46 : decode cX12_sum 46 = .ok (.istore_n 1, 1) := by decide +kernel
theorem dX12_sum_47 : decode cX12_sum 47 = .ok (.aload_n 0, 1) := by decide +kernel
theorem dX12_sum_48 : decode cX12_sum 48 = .ok (.dup, 1) := by decide +kernel
theorem dX12_sum_49 : decode cX12_sum 49 = .ok (.getfield 120, 3) := by decide +kernel
theorem dX12_sum_52 : decode cX12_sum 52 = .ok (.iconst 1, 1) := by decide +kernel
theorem dX12_sum_53 : decode cX12_sum 53 = .ok (.iadd, 1) := by decide +kernel
theorem dX12_sum_54 : decode cX12_sum 54 = .ok (.putfield 120, 3) := by decide +kernel
theorem dX12_sum_57 : decode cX12_sum 57 = .ok (.aload_n 0, 1) := by decide +kernel
theorem dX12_sum_58 : decode cX12_sum 58 = .ok (.invokevirtual 202, 3) := by decide +kernel
theorem dX12_sum_61 : decode cX12_sum 61 = .ok (.ifCond .ne 5, 3) := by decide +kernel
theorem dX12_sum_64 : decode cX12_sum 64 = .ok (.iconst 0, 1) := by decide +kernel
theorem dX12_sum_65 : decode cX12_sum 65 = .ok (.ireturn, 1) := by decide +kernel
theorem dX12_sum_66 : decode cX12_sum 66 = .ok (.aload_n 0, 1) := by decide +kernel
theorem dX12_sum_67 : decode cX12_sum 67 = .ok (.iload_n 1, 1) := by decide +kernel
theorem dX12_sum_68 : decode cX12_sum 68 = .ok (.iconst 0, 1) := by decide +kernel
theorem dX12_sum_69 : decode cX12_sum 69 = .ok (.invokevirtual 184, 3) := by decide +kernel
theorem dX12_sum_72 : decode cX12_sum 72 = .ok (.goto (-63), 3) := by decide +kernel
theorem dX12_sum_75 : decode cX12_sum 75 = .ok (.iconst 1, 1) := by decide +kernel
theorem dX12_sum_76 : decode cX12_sum 76 = .ok (.ireturn, 1) := by decide +kernel
theorem dX12_compare_0 : decode cX12_compare 0 = .ok (.aload_n 0, 1) := by decide +kernel
theorem dX12_compare_1 : decode cX12_compare 1 = .ok (.invokevirtual 205, 3) := by decide +kernel
theorem dX12_compare_4 : decode cX12_compare 4 = .ok (.ifCond .ne 5, 3) := by decide +kernel
theorem dX12_compare_7 : decode cX12_compare 7 = .ok (.iconst 0, 1) := by decide +kernel
theorem dX12_compare_8 : decode cX12_compare 8 = .ok (.ireturn, 1) := by decide +kernel
theorem dX12_compare_9 : decode cX12_compare 9 = .ok (.aload_n 0, 1) := by decide +kernel
theorem dX12_compare_10 : decode cX12_compare 10 = .ok (.invokevirtual 123, 3) := by decide +kernel
theorem dX12_compare_13 : decode cX12_compare 13 = .ok (.istore_n 1, 1) := by decide +kernel
theorem dX12_compare_14 : decode cX12_compare 14 = .ok (.aload_n 0, 1) := by decide +kernel
theorem dX12_compare_15 : decode cX12_compare 15 = .ok (.getfield 120, 3) := by decide +kernel
theorem dX12_compare_18 : decode cX12_compare 18 = .ok (.istore_n 2, 1) := by decide +kernel
theorem dX12_compare_19 : decode cX12_compare 19 = .ok (.iload_n 1, 1) := by decide +kernel
theorem dX12_compare_20 : decode cX12_compare 20 = .ok (.bipush 60, 2) := by decide +kernel
theorem dX12_compare_22 : decode cX12_compare 22 = .ok (.if_icmp .eq 22, 3) := by decide +kernel
theorem dX12_compare_25 : decode cX12_compare 25 = .ok (.iload_n 1, 1) := by decide +kernel
theorem dX12_compare_26 : decode cX12_compare 26 = .ok (.bipush 61, 2) := by decide +kernel
theorem dX12_compare_28 : decode cX12_compare 28 = .ok (.if_icmp .eq 16, 3) := by decide +kernel
theorem dX12_compare_31 : decode cX12_compare 31 = .ok (.iload_n 1, 1) := by decide +kernel
theorem dX12_compare_32 : decode cX12_compare 32 = .ok (.bipush 62, 2) := by decide +kernel
theorem dX12_compare_34 : decode cX12_compare 34 = .ok (.if_icmp .eq 10, 3) := by decide +kernel
theorem dX12_compare_37 : decode cX12_compare 37 = .ok (.aload_n 0, 1) := by decide +kernel
theorem dX12_compare_38 : decode cX12_compare 38 = .ok (.iconst 0, 1) := by decide +kernel
theorem dX12_compare_39 : decode cX12_compare 39 = .ok (.iload_n 2, 1) := by decide +kernel
theorem dX12_compare_40 : decode cX12_compare 40 = .ok (.invokevirtual 141, 3) := by decide +kernel
theorem dX12_compare_43 : decode cX12_compare 43 = .ok (.ireturn, 1) := by decide +kernel
theorem dX12_compare_44 : decode cX12_compare 44 = .ok (.aload_n 0, 1) := by decide +kernel
theorem dX12_compare_45 : decode cX12_compare 45 = .ok (.dup, 1) := by decide +kernel
theorem dX12_compare_46 : decode cX12_compare 46 = .ok (.getfield 120, 3) := by decide +kernel
theorem dX12_compare_49 : decode cX12_compare 49 = .ok (.iconst 1, 1) := by decide +kernel
theorem dX12_compare_50 : decode cX12_compare 50 = .ok (.iadd, 1) := by decide +kernel
theorem dX12_compare_51 : decode cX12_compare 51 = .ok (.putfield 120, 3) := by decide +kernel
theorem dX12_compare_54 : decode cX12_compare 54 = .ok (.iload_n 1, 1) := by decide +kernel
theorem dX12_compare_55 : decode cX12_compare 55 = .ok (.bipush 61, 2) := by decide +kernel
theorem dX12_compare_57 : decode cX12_compare 57 = .ok (.if_icmp .eq 32, 3) := by decide +kernel
theorem dX12_compare_60 : decode cX12_compare 60 = .ok (.aload_n 0, 1) := by decide +kernel
theorem dX12_compare_61 : decode cX12_compare 61 = .ok (.getfield 120, 3) := by decide +kernel
theorem dX12_compare_64 : decode cX12_compare 64 = .ok (.aload_n 0, 1) := by decide +kernel
theorem dX12_compare_65 : decode cX12_compare 65 = .ok (.getfield 109, 3) := by decide +kernel
theorem dX12_compare_68 : decode cX12_compare 68 = .ok (.if_icmp .ge 21, 3) := by decide +kernel
theorem dX12_compare_71 : decode cX12_compare 71 = .ok (.aload_n 0, 1) := by decide +kernel
theorem dX12_compare_72 : decode cX12_compare 72 = .ok (.getfield 7, 3) := by decide +kernel
theorem dX12_compare_75 : decode cX12_compare 75 = .ok (.aload_n 0, 1) := by decide +kernel
theorem dX12_compare_76 : decode cX12_compare 76 = .ok (.getfield 120, 3) := by decide +kernel
theorem dX12_compare_79 : decode cX12_compare 79 = .ok (.baload, 1) := by decide +kernel
theorem dX12_compare_80 : decode cX12_compare 80 = .ok (.bipush 61, 2) := by decide +kernel
theorem dX12_compare_82 : decode cX12_compare 82 = .ok (.if_icmp .ne 7, 3) := by decide +kernel
theorem dX12_compare_85 : decode cX12_compare 85 = .ok (.iconst 1, 1) := by decide +kernel
theorem dX12_compare_86 : decode cX12_compare 86 = .ok (.goto 4, 3) := by decide +kernel
theorem dX12_compare_89 : decode cX12_compare 89 = .ok (.iconst 0, 1) := by decide +kernel
theorem dX12_compare_90 : decode cX12_compare 90 = .ok (.istore_n 3, 1) := by decide +kernel
theorem dX12_compare_91 : decode cX12_compare 91 = .ok (.iload_n 3, 1) := by decide +kernel
theorem dX12_compare_92 : decode cX12_compare 92 = .ok (.ifCond .eq 13, 3) := by decide +kernel
theorem dX12_compare_95 : decode cX12_compare 95 = .ok (.aload_n 0, 1) := by decide +kernel
theorem dX12_compare_96 : decode cX12_compare 96 = .ok (.dup, 1) := by decide +kernel
theorem dX12_compare_97 : decode cX12_compare 97 = .ok (.getfield 120, 3) := by decide +kernel
theorem dX12_compare_100 : decode cX12_compare 100 = .ok (.iconst 1, 1) := by decide +kernel
theorem dX12_compare_101 : decode cX12_compare 101 = .ok (.iadd, 1) := by decide +kernel
theorem dX12_compare_102 : decode cX12_compare 102 = .ok (.putfield 120, 3) := by decide +kernel
theorem dX12_compare_105 : decode cX12_compare 105 = .ok (.aload_n 0, 1) := by decide +kernel
theorem dX12_compare_106 : decode cX12_compare 106 = .ok (.iload_n 2, 1) := by decide +kernel
theorem dX12_compare_107 : decode cX12_compare 107 = .ok (.invokevirtual 192, 3) := by decide +kernel
theorem dX12_compare_110 : decode cX12_compare 110 = .ok (.ifCond .ne 5, 3) := by decide +kernel
theorem dX12_compare_113 : decode cX12_compare 113 = .ok (.iconst 0, 1) := by decide +kernel
theorem dX12_compare_114 : decode cX12_compare 114 = .ok (.ireturn, 1) := by decide +kernel
theorem dX12_compare_115 : decode cX12_compare 115 = .ok (.iload_n 1, 1) := by decide +kernel
theorem dX12_compare_116 : decode cX12_compare 116 = .ok (.bipush 60, 2) := by decide +kernel
theorem dX12_compare_118 : decode cX12_compare 118 = .ok (.if_icmp .ne 15, 3) := by decide +kernel
theorem dX12_compare_121 : decode cX12_compare 121 = .ok (.iload_n 3, 1) := by decide +kernel
theorem dX12_compare_122 : decode cX12_compare 122 = .ok (.ifCond .eq 7, 3) := by decide +kernel
theorem dX12_compare_125 : decode cX12_compare 125 = .ok (.iconst 1, 1) := by decide +kernel
theorem dX12_compare_126 : decode cX12_compare 126 = .ok (.goto 26, 3) := by decide +kernel
theorem dX12_compare_129 : decode cX12_compare 129 = .ok (.iconst 0, 1) := by decide +kernel
theorem dX12_compare_130 : decode cX12_compare 130 = .ok (.goto 22, 3) := by decide +kernel
theorem dX12_compare_133 : decode cX12_compare 133 = .ok (.iload_n 1, 1) := by decide +kernel
theorem dX12_compare_134 : decode cX12_compare 134 = .ok (.bipush 61, 2) := by decide +kernel
theorem dX12_compare_136 : decode cX12_compare 136 = .ok (.if_icmp .ne 7, 3) := by decide +kernel
theorem dX12_compare_139 : decode cX12_compare 139 = .ok (.iconst 2, 1) := by decide +kernel
theorem dX12_compare_140 : decode cX12_compare 140 = .ok (.goto 12, 3) := by decide +kernel
theorem dX12_compare_143 : decode cX12_compare 143 = .ok (.iload_n 3, 1) := by decide +kernel
theorem dX12_compare_144 : decode cX12_compare 144 = .ok (.ifCond .eq 7, 3) := by decide +kernel
theorem dX12_compare_147 : decode cX12_compare 147 = .ok (.iconst 3, 1) := by decide +kernel
theorem dX12_compare_148 : decode cX12_compare 148 = .ok (.goto 4, 3) := by decide +kernel
theorem dX12_compare_151 : decode cX12_compare 151 = .ok (.iconst 4, 1) := by decide +kernel
theorem dX12_compare_152 : decode cX12_compare 152 = .ok (.istore 4, 2) := by decide +kernel
theorem dX12_compare_154 : decode cX12_compare 154 = .ok (.aload_n 0, 1) := by decide +kernel
theorem dX12_compare_155 : decode cX12_compare 155 = .ok (.invokevirtual 205, 3) := by decide +kernel
theorem dX12_compare_158 : decode cX12_compare 158 = .ok (.ifCond .ne 5, 3) := by decide +kernel
theorem dX12_compare_161 : decode cX12_compare 161 = .ok (.iconst 0, 1) := by decide +kernel
theorem dX12_compare_162 : decode cX12_compare 162 = .ok (.ireturn, 1) := by decide +kernel
theorem dX12_compare_163 : decode cX12_compare 163 = .ok (.aload_n 0, 1) := by decide +kernel
theorem dX12_compare_164 : decode cX12_compare 164 = .ok (.bipush 6, 2) := by decide +kernel
theorem dX12_compare_166 : decode cX12_compare 166 = .ok (.iload 4, 2) := by decide +kernel
theorem dX12_compare_168 : decode cX12_compare 168 = .ok (.iadd, 1) := by decide +kernel
theorem dX12_compare_169 : decode cX12_compare 169 = .ok (.iconst 0, 1) := by decide +kernel
theorem dX12_compare_170 : decode cX12_compare 170 = .ok (.invokevirtual 184, 3) := by decide +kernel
theorem dX12_compare_173 : decode cX12_compare 173 = .ok (.iconst 1, 1) := by decide +kernel
theorem dX12_compare_174 : decode cX12_compare 174 = .ok (.ireturn, 1) := by decide +kernel
theorem dX12_fact_0 : decode cX12_fact 0 = .ok (.iconst 1, 1) := by decide +kernel
theorem dX12_fact_1 : decode cX12_fact 1 = .ok (.istore_n 1, 1) := by decide +kernel
theorem dX12_fact_2 : decode cX12_fact 2 = .ok (.iload_n 1, 1) := by decide +kernel
theorem dX12_fact_3 : decode cX12_fact 3 = .ok (.ifCond .eq 72, 3) := by decide +kernel
theorem dX12_fact_6 : decode cX12_fact 6 = .ok (.iconst 0, 1) := by decide +kernel
theorem dX12_fact_7 : decode cX12_fact 7 = .ok (.istore_n 1, 1) := by decide +kernel
theorem dX12_fact_8 : decode cX12_fact 8 = .ok (.aload_n 0, 1) := by decide +kernel
theorem dX12_fact_9 : decode cX12_fact 9 = .ok (.invokevirtual 123, 3) := by decide +kernel
theorem dX12_fact_12 : decode cX12_fact 12 = .ok (.istore_n 2, 1) := by decide +kernel
theorem dX12_fact_13 : decode cX12_fact 13 = .ok (.aload_n 0, 1) := by decide +kernel
theorem dX12_fact_14 : decode cX12_fact 14 = .ok (.ldc2_w 208, 3) := by decide +kernel
theorem dX12_fact_17 : decode cX12_fact 17 = .ok (.invokevirtual 131, 3) := by decide +kernel
theorem dX12_fact_20 : decode cX12_fact 20 = .ok (.ifCond .eq 23, 3) := by decide +kernel
theorem dX12_fact_23 : decode cX12_fact 23 = .ok (.aload_n 0, 1) := by decide +kernel
theorem dX12_fact_24 : decode cX12_fact 24 = .ok (.bipush 11, 2) := by decide +kernel
theorem dX12_fact_26 : decode cX12_fact 26 = .ok (.invokevirtual 210, 3) := by decide +kernel
theorem dX12_fact_29 : decode cX12_fact 29 = .ok (.ifCond .ne 5, 3) := by decide +kernel
theorem dX12_fact_32 : decode cX12_fact 32 = .ok (.iconst 0, 1) := by decide +kernel
theorem dX12_fact_33 : decode cX12_fact 33 = .ok (.ireturn, 1) := by decide +kernel
theorem dX12_fact_34 : decode cX12_fact 34 = .ok (.aload_n 0, 1) := by decide +kernel
theorem dX12_fact_35 : decode cX12_fact 35 = .ok (.invokevirtual 135, 3) := by decide +kernel
theorem dX12_fact_38 : decode cX12_fact 38 = .ok (.iconst 1, 1) := by decide +kernel
theorem dX12_fact_39 : decode cX12_fact 39 = .ok (.istore_n 1, 1) := by decide +kernel
theorem dX12_fact_40 : decode cX12_fact 40 = .ok (.goto 32, 3) := by decide +kernel
theorem dX12_fact_43 : decode cX12_fact 43 = .ok (.iload_n 2, 1) := by decide +kernel
theorem dX12_fact_44 : decode cX12_fact 44 = .ok (.bipush 91, 2) := by decide +kernel
theorem dX12_fact_46 : decode cX12_fact 46 = .ok (.if_icmp .ne 26, 3) := by decide +kernel
theorem dX12_fact_49 : decode cX12_fact 49 = .ok (.aload_n 0, 1) := by decide +kernel
theorem dX12_fact_50 : decode cX12_fact 50 = .ok (.bipush 91, 2) := by decide +kernel
theorem dX12_fact_52 : decode cX12_fact 52 = .ok (.invokevirtual 210, 3) := by decide +kernel
theorem dX12_fact_55 : decode cX12_fact 55 = .ok (.ifCond .ne 5, 3) := by decide +kernel
theorem dX12_fact_58 : decode cX12_fact 58 = .ok (.iconst 0, 1) := by decide +kernel
theorem dX12_fact_59 : decode cX12_fact 59 = .ok (.ireturn, 1) := by decide +kernel
theorem dX12_fact_60 : decode cX12_fact 60 = .ok (.aload_n 0, 1) := by decide +kernel
theorem dX12_fact_61 : decode cX12_fact 61 = .ok (.dup, 1) := by decide +kernel
theorem dX12_fact_62 : decode cX12_fact 62 = .ok (.getfield 120, 3) := by decide +kernel
theorem dX12_fact_65 : decode cX12_fact 65 = .ok (.iconst 1, 1) := by decide +kernel
theorem dX12_fact_66 : decode cX12_fact 66 = .ok (.iadd, 1) := by decide +kernel
theorem dX12_fact_67 : decode cX12_fact 67 = .ok (.putfield 120, 3) := by decide +kernel
theorem dX12_fact_70 : decode cX12_fact 70 = .ok (.iconst 1, 1) := by decide +kernel
theorem dX12_fact_71 : decode cX12_fact 71 = .ok (.istore_n 1, 1) := by decide +kernel
theorem dX12_fact_72 : decode cX12_fact 72 = .ok (.goto (-70), 3) := by decide +kernel
theorem dX12_fact_75 : decode cX12_fact 75 = .ok (.aload_n 0, 1) := by decide +kernel
theorem dX12_fact_76 : decode cX12_fact 76 = .ok (.invokevirtual 213, 3) := by decide +kernel
theorem dX12_fact_79 : decode cX12_fact 79 = .ok (.ireturn, 1) := by decide +kernel
theorem dX12_isInside_0 : decode cX12_isInside 0 = .ok (.iconst 0, 1) := by decide +kernel
theorem dX12_isInside_1 : decode cX12_isInside 1 = .ok (.istore_n 1, 1) := by decide +kernel
theorem dX12_isInside_2 : decode cX12_isInside 2 = .ok (.iload_n 1, 1) := by decide +kernel
theorem dX12_isInside_3 : decode cX12_isInside 3 = .ok (.aload_n 0, 1) := by decide +kernel
theorem dX12_isInside_4 : decode cX12_isInside 4 = .ok (.getfield 177, 3) := by decide +kernel
theorem dX12_isInside_7 : decode cX12_isInside 7 = .ok (.if_icmp .ge 22, 3) := by decide +kernel
theorem dX12_isInside_10 : decode cX12_isInside 10 = .ok (.aload_n 0, 1) := by decide +kernel
theorem dX12_isInside_11 : decode cX12_isInside 11 = .ok (.getfield 38, 3) := by decide +kernel
theorem dX12_isInside_14 : decode cX12_isInside 14 = .ok (.iload_n 1, 1) := by decide +kernel
theorem dX12_isInside_15 : decode cX12_isInside 15 = .ok (.iaload, 1) := by decide +kernel
theorem dX12_isInside_16 : decode cX12_isInside 16 = .ok (.bipush 91, 2) := by decide +kernel
theorem dX12_isInside_18 : decode cX12_isInside 18 = .ok (.if_icmp .ne 5, 3) := by decide +kernel
theorem dX12_isInside_21 : decode cX12_isInside 21 = .ok (.iconst 1, 1) := by decide +kernel
theorem dX12_isInside_22 : decode cX12_isInside 22 = .ok (.ireturn, 1) := by decide +kernel
theorem dX12_isInside_23 : decode cX12_isInside 23 = .ok (.iinc 1 1, 3) := by decide +kernel
theorem dX12_isInside_26 : decode cX12_isInside 26 = .ok (.goto (-24), 3) := by decide +kernel
theorem dX12_isInside_29 : decode cX12_isInside 29 = .ok (.iconst 0, 1) := by decide +kernel
theorem dX12_isInside_30 : decode cX12_isInside 30 = .ok (.ireturn, 1) := by decide +kernel
theorem dX12_closes_0 : decode cX12_closes 0 = .ok (.aload_n 0, 1) := by decide +kernel
theorem dX12_closes_1 : decode cX12_closes 1 = .ok (.iconst 3, 1) := by decide +kernel
theorem dX12_closes_2 : decode cX12_closes 2 = .ok (.invokevirtual 216, 3) := by decide +kernel
theorem dX12_closes_5 : decode cX12_closes 5 = .ok (.aload_n 0, 1) := by decide +kernel
theorem dX12_closes_6 : decode cX12_closes 6 = .ok (.invokevirtual 123, 3) := by decide +kernel
theorem dX12_closes_9 : decode cX12_closes 9 = .ok (.bipush 93, 2) := by decide +kernel
theorem dX12_closes_11 : decode cX12_closes 11 = .ok (.if_icmp .ne 53, 3) := by decide +kernel
theorem dX12_closes_14 : decode cX12_closes 14 = .ok (.aload_n 0, 1) := by decide +kernel
theorem dX12_closes_15 : decode cX12_closes 15 = .ok (.invokevirtual 219, 3) := by decide +kernel
theorem dX12_closes_18 : decode cX12_closes 18 = .ok (.ifCond .eq 46, 3) := by decide +kernel
theorem dX12_closes_21 : decode cX12_closes 21 = .ok (.aload_n 0, 1) := by decide +kernel
theorem dX12_closes_22 : decode cX12_closes 22 = .ok (.iconst 1, 1) := by decide +kernel
theorem dX12_closes_23 : decode cX12_closes 23 = .ok (.invokevirtual 216, 3) := by decide +kernel
theorem dX12_closes_26 : decode cX12_closes 26 = .ok (.aload_n 0, 1) := by decide +kernel
theorem dX12_closes_27 : decode cX12_closes 27 = .ok (.dup, 1) := by decide +kernel
theorem dX12_closes_28 : decode cX12_closes 28 = .ok (.getfield 177, 3) := by decide +kernel
theorem dX12_closes_31 : decode cX12_closes 31 = .ok (.iconst 1, 1) := by decide +kernel
theorem dX12_closes_32 : decode cX12_closes 32 = .ok (.isub, 1) := by decide +kernel
theorem dX12_closes_33 : decode cX12_closes 33 = .ok (.putfield 177, 3) := by decide +kernel
theorem dX12_closes_36 : decode cX12_closes 36 = .ok (.aload_n 0, 1) := by decide +kernel
theorem dX12_closes_37 : decode cX12_closes 37 = .ok (.dup, 1) := by decide +kernel
theorem dX12_closes_38 : decode cX12_closes 38 = .ok (.getfield 174, 3) := by decide +kernel
theorem dX12_closes_41 : decode cX12_closes 41 = .ok (.iconst 1, 1) := by decide +kernel
theorem dX12_closes_42 : decode cX12_closes 42 = .ok (.isub, 1) := by decide +kernel
theorem dX12_closes_43 : decode cX12_closes 43 = .ok (.putfield 174, 3) := by decide +kernel
theorem dX12_closes_46 : decode cX12_closes 46 = .ok (.aload_n 0, 1) := by decide +kernel
theorem dX12_closes_47 : decode cX12_closes 47 = .ok (.dup, 1) := by decide +kernel
theorem dX12_closes_48 : decode cX12_closes 48 = .ok (.getfield 120, 3) := by decide +kernel
theorem dX12_closes_51 : decode cX12_closes 51 = .ok (.iconst 1, 1) := by decide +kernel
theorem dX12_closes_52 : decode cX12_closes 52 = .ok (.iadd, 1) := by decide +kernel
theorem dX12_closes_53 : decode cX12_closes 53 = .ok (.putfield 120, 3) := by decide +kernel
theorem dX12_closes_56 : decode cX12_closes 56 = .ok (.aload_n 0, 1) := by decide +kernel
theorem dX12_closes_57 : decode cX12_closes 57 = .ok (.iconst 3, 1) := by decide +kernel
theorem dX12_closes_58 : decode cX12_closes 58 = .ok (.invokevirtual 216, 3) := by decide +kernel
theorem dX12_closes_61 : decode cX12_closes 61 = .ok (.goto (-56), 3) := by decide +kernel
theorem dX12_closes_64 : decode cX12_closes 64 = .ok (.return_, 1) := by decide +kernel
theorem dX12_tested_0 : decode cX12_tested 0 = .ok (.aload_n 0, 1) := by decide +kernel
theorem dX12_tested_1 : decode cX12_tested 1 = .ok (.iconst 0, 1) := by decide +kernel
theorem dX12_tested_2 : decode cX12_tested 2 = .ok (.putfield 177, 3) := by decide +kernel
theorem dX12_tested_5 : decode cX12_tested 5 = .ok (.aload_n 0, 1) := by decide +kernel
theorem dX12_tested_6 : decode cX12_tested 6 = .ok (.iconst 0, 1) := by decide +kernel
theorem dX12_tested_7 : decode cX12_tested 7 = .ok (.putfield 174, 3) := by decide +kernel
theorem dX12_tested_10 : decode cX12_tested 10 = .ok (.iconst 1, 1) := by decide +kernel
theorem dX12_tested_11 : decode cX12_tested 11 = .ok (.istore_n 1, 1) := by decide +kernel
theorem dX12_tested_12 : decode cX12_tested 12 = .ok (.iload_n 1, 1) := by decide +kernel
theorem dX12_tested_13 : decode cX12_tested 13 = .ok (.ifCond .eq 99, 3) := by decide +kernel
theorem dX12_tested_16 : decode cX12_tested 16 = .ok (.aload_n 0, 1) := by decide +kernel
theorem dX12_tested_17 : decode cX12_tested 17 = .ok (.invokevirtual 222, 3) := by decide +kernel
theorem dX12_tested_20 : decode cX12_tested 20 = .ok (.ifCond .ne 5, 3) := by decide +kernel
theorem dX12_tested_23 : decode cX12_tested 23 = .ok (.iconst 0, 1) := by decide +kernel
theorem dX12_tested_24 : decode cX12_tested 24 = .ok (.ireturn, 1) := by decide +kernel
theorem dX12_tested_25 : decode cX12_tested 25 = .ok (.aload_n 0, 1) := by decide +kernel
theorem dX12_tested_26 : decode cX12_tested 26 = .ok (.invokevirtual 225, 3) := by decide +kernel
theorem dX12_tested_29 : decode cX12_tested 29 = .ok (.aload_n 0, 1) := by decide +kernel
theorem dX12_tested_30 : decode cX12_tested 30 = .ok (.ldc2_w 228, 3) := by decide +kernel
theorem dX12_tested_33 : decode cX12_tested 33 = .ok (.invokevirtual 131, 3) := by decide +kernel
theorem dX12_tested_36 : decode cX12_tested 36 = .ok (.ifCond .ne 13, 3) := by decide +kernel
theorem dX12_tested_39 : decode cX12_tested 39 = .ok (.aload_n 0, 1) := by decide +kernel
theorem dX12_tested_40 : decode cX12_tested 40 = .ok (.ldc2_w 230, 3) := by decide +kernel
theorem dX12_tested_43 : decode cX12_tested 43 = .ok (.invokevirtual 131, 3) := by decide +kernel
theorem dX12_tested_46 : decode cX12_tested 46 = .ok (.ifCond .eq 7, 3) := by decide +kernel
theorem dX12_tested_49 : decode cX12_tested 49 = .ok (.iconst 1, 1) := by decide +kernel
theorem dX12_tested_50 : decode cX12_tested 50 = .ok (.goto 4, 3) := by decide +kernel
theorem dX12_tested_53 : decode cX12_tested 53 = .ok (.iconst 0, 1) := by decide +kernel
theorem dX12_tested_54 : decode cX12_tested 54 = .ok (.istore_n 1, 1) := by decide +kernel
theorem dX12_tested_55 : decode cX12_tested 55 = .ok (.iload_n 1, 1) := by decide +kernel
theorem dX12_tested_56 : decode cX12_tested 56 = .ok (.ifCond .eq (-44), 3) := by decide +kernel
theorem dX12_tested_59 : decode cX12_tested 59 = .ok (.aload_n 0, 1) := by decide +kernel
theorem dX12_tested_60 : decode cX12_tested 60 = .ok (.ldc2_w 228, 3) := by decide +kernel
theorem dX12_tested_63 : decode cX12_tested 63 = .ok (.invokevirtual 131, 3) := by decide +kernel
theorem dX12_tested_66 : decode cX12_tested 66 = .ok (.ifCond .eq 8, 3) := by decide +kernel
theorem dX12_tested_69 : decode cX12_tested 69 = .ok (.bipush 12, 2) := by decide +kernel
theorem dX12_tested_71 : decode cX12_tested 71 = .ok (.goto 5, 3) := by decide +kernel
theorem dX12_tested_74 : decode cX12_tested 74 = .ok (.bipush 13, 2) := by decide +kernel
theorem dX12_tested_76 : decode cX12_tested 76 = .ok (.istore_n 2, 1) := by decide +kernel
theorem dX12_tested_77 : decode cX12_tested 77 = .ok (.aload_n 0, 1) := by decide +kernel
theorem dX12_tested_78 : decode cX12_tested 78 = .ok (.invokevirtual 135, 3) := by decide +kernel
theorem dX12_tested_81 : decode cX12_tested 81 = .ok (.aload_n 0, 1) := by decide +kernel
theorem dX12_tested_82 : decode cX12_tested 82 = .ok (.iload_n 2, 1) := by decide +kernel
theorem dX12_tested_83 : decode cX12_tested 83 = .ok (.invokestatic 180, 3) := by decide +kernel
theorem dX12_tested_86 : decode cX12_tested 86 = .ok (.invokevirtual 216, 3) := by decide +kernel
theorem dX12_tested_89 : decode cX12_tested 89 = .ok (.aload_n 0, 1) := by decide +kernel
theorem dX12_tested_90 : decode cX12_tested 90 = .ok (.getfield 38, 3) := by decide +kernel
theorem dX12_tested_93 : decode cX12_tested 93 = .ok (.aload_n 0, 1) := by decide +kernel
theorem dX12_tested_94 : decode cX12_tested 94 = .ok (.getfield 177, 3) := by decide +kernel
theorem dX12_tested_97 : decode cX12_tested 97 = .ok (.iload_n 2, 1) := by decide +kernel
theorem dX12_tested_98 : decode cX12_tested 98 = .ok (.iastore, 1) := by decide +kernel
theorem dX12_tested_99 : decode cX12_tested 99 = .ok (.aload_n 0, 1) := by decide +kernel
theorem dX12_tested_100 : decode cX12_tested 100 = .ok (.dup, 1) := by decide +kernel
theorem dX12_tested_101 : decode cX12_tested 101 = .ok (.getfield 177, 3) := by decide +kernel
theorem dX12_tested_104 : decode cX12_tested 104 = .ok (.iconst 1, 1) := by decide +kernel
theorem dX12_tested_105 : decode cX12_tested 105 = .ok (.iadd, 1) := by decide +kernel
theorem dX12_tested_106 : decode cX12_tested 106 = .ok (.putfield 177, 3) := by decide +kernel
theorem dX12_tested_109 : decode cX12_tested 109 = .ok (.goto (-97), 3) := by decide +kernel
theorem dX12_tested_112 : decode cX12_tested 112 = .ok (.aload_n 0, 1) := by decide +kernel
theorem dX12_tested_113 : decode cX12_tested 113 = .ok (.invokevirtual 219, 3) := by decide +kernel
theorem dX12_tested_116 : decode cX12_tested 116 = .ok (.ifCond .eq 18, 3) := by decide +kernel
theorem dX12_tested_119 : decode cX12_tested 119 = .ok (.aload_n 0, 1) := by decide +kernel
theorem dX12_tested_120 : decode cX12_tested 120 = .ok (.invokevirtual 123, 3) := by decide +kernel
theorem dX12_tested_123 : decode cX12_tested 123 = .ok (.pop, 1) := by decide +kernel
theorem dX12_tested_124 : decode cX12_tested 124 = .ok (.aload_n 0, 1) := by decide +kernel
theorem dX12_tested_125 : decode cX12_tested 125 = .ok (.iconst 0, 1) := by decide +kernel
theorem dX12_tested_126 : decode cX12_tested 126 = .ok (.aload_n 0, 1) := by decide +kernel
theorem dX12_tested_127 : decode cX12_tested 127 = .ok (.getfield 120, 3) := by decide +kernel
theorem dX12_tested_130 : decode cX12_tested 130 = .ok (.invokevirtual 141, 3) := by decide +kernel
theorem dX12_tested_133 : decode cX12_tested 133 = .ok (.ireturn, 1) := by decide +kernel
theorem dX12_tested_134 : decode cX12_tested 134 = .ok (.aload_n 0, 1) := by decide +kernel
theorem dX12_tested_135 : decode cX12_tested 135 = .ok (.iconst 1, 1) := by decide +kernel
theorem dX12_tested_136 : decode cX12_tested 136 = .ok (.invokevirtual 216, 3) := by decide +kernel
theorem dX12_tested_139 : decode cX12_tested 139 = .ok (.iconst 1, 1) := by decide +kernel
theorem dX12_tested_140 : decode cX12_tested 140 = .ok (.ireturn, 1) := by decide +kernel
theorem dX12_isDoingHere_0 : decode cX12_isDoingHere 0 = .ok (.aload_n 0, 1) := by decide +kernel
theorem dX12_isDoingHere_1 : decode cX12_isDoingHere 1 = .ok (.invokevirtual 135, 3) := by decide +kernel
theorem dX12_isDoingHere_4 : decode cX12_isDoingHere 4 = .ok (.bipush 48, 2) := by decide +kernel
theorem dX12_isDoingHere_6 : decode cX12_isDoingHere 6 = .ok (.aload_n 0, 1) := by decide +kernel
theorem dX12_isDoingHere_7 : decode cX12_isDoingHere 7 = .ok (.getfield 168, 3) := by decide +kernel
theorem dX12_isDoingHere_10 : decode cX12_isDoingHere 10 = .ok (.imul, 1) := by decide +kernel
theorem dX12_isDoingHere_11 : decode cX12_isDoingHere 11 = .ok (.iconst 4, 1) := by decide +kernel
theorem dX12_isDoingHere_12 : decode cX12_isDoingHere 12 = .ok (.aload_n 0, 1) := by decide +kernel
theorem dX12_isDoingHere_13 : decode cX12_isDoingHere 13 = .ok (.getfield 23, 3) := by decide +kernel
theorem dX12_isDoingHere_16 : decode cX12_isDoingHere 16 = .ok (.aload_n 0, 1) := by decide +kernel
theorem dX12_isDoingHere_17 : decode cX12_isDoingHere 17 = .ok (.getfield 168, 3) := by decide +kernel
theorem dX12_isDoingHere_20 : decode cX12_isDoingHere 20 = .ok (.iaload, 1) := by decide +kernel
theorem dX12_isDoingHere_21 : decode cX12_isDoingHere 21 = .ok (.imul, 1) := by decide +kernel
theorem dX12_isDoingHere_22 : decode cX12_isDoingHere 22 = .ok (.iadd, 1) := by decide +kernel
theorem dX12_isDoingHere_23 : decode cX12_isDoingHere 23 = .ok (.istore_n 2, 1) := by decide +kernel
theorem dX12_isDoingHere_24 : decode cX12_isDoingHere 24 = .ok (.aload_n 0, 1) := by decide +kernel
theorem dX12_isDoingHere_25 : decode cX12_isDoingHere 25 = .ok (.getfield 20, 3) := by decide +kernel
theorem dX12_isDoingHere_28 : decode cX12_isDoingHere 28 = .ok (.iload_n 2, 1) := by decide +kernel
theorem dX12_isDoingHere_29 : decode cX12_isDoingHere 29 = .ok (.iload_n 1, 1) := by decide +kernel
theorem dX12_isDoingHere_30 : decode cX12_isDoingHere 30 = .ok (.iastore, 1) := by decide +kernel
theorem dX12_isDoingHere_31 : decode cX12_isDoingHere 31 = .ok (.aload_n 0, 1) := by decide +kernel
theorem dX12_isDoingHere_32 : decode cX12_isDoingHere 32 = .ok (.getfield 20, 3) := by decide +kernel
theorem dX12_isDoingHere_35 : decode cX12_isDoingHere 35 = .ok (.iload_n 2, 1) := by decide +kernel
theorem dX12_isDoingHere_36 : decode cX12_isDoingHere 36 = .ok (.iconst 1, 1) := by decide +kernel
theorem dX12_isDoingHere_37 : decode cX12_isDoingHere 37 = .ok (.iadd, 1) := by decide +kernel
theorem dX12_isDoingHere_38 : decode cX12_isDoingHere 38 = .ok (.iconst (-1), 1) := by decide +kernel
theorem dX12_isDoingHere_39 : decode cX12_isDoingHere 39 = .ok (.iastore, 1) := by decide +kernel
theorem dX12_isDoingHere_40 : decode cX12_isDoingHere 40 = .ok (.iload_n 1, 1) := by decide +kernel
theorem dX12_isDoingHere_41 : decode cX12_isDoingHere 41 = .ok (.ifCond .ne 27, 3) := by decide +kernel
theorem dX12_isDoingHere_44 : decode cX12_isDoingHere 44 = .ok (.aload_n 0, 1) := by decide +kernel
theorem dX12_isDoingHere_45 : decode cX12_isDoingHere 45 = .ok (.iconst 0, 1) := by decide +kernel
theorem dX12_isDoingHere_46 : decode cX12_isDoingHere 46 = .ok (.bipush 23, 2) := by decide +kernel
theorem dX12_isDoingHere_48 : decode cX12_isDoingHere 48 = .ok (.invokevirtual 189, 3) := by decide +kernel
theorem dX12_isDoingHere_51 : decode cX12_isDoingHere 51 = .ok (.ifCond .ne 5, 3) := by decide +kernel
theorem dX12_isDoingHere_54 : decode cX12_isDoingHere 54 = .ok (.iconst 0, 1) := by decide +kernel
theorem dX12_isDoingHere_55 : decode cX12_isDoingHere 55 = .ok (.ireturn, 1) := by decide +kernel
theorem dX12_isDoingHere_56 : decode cX12_isDoingHere 56 = .ok (.aload_n 0, 1) := by decide +kernel
theorem dX12_isDoingHere_57 : decode cX12_isDoingHere 57 = .ok (.getfield 20, 3) := by decide +kernel
theorem dX12_isDoingHere_60 : decode cX12_isDoingHere 60 = .ok (.iload_n 2, 1) := by decide +kernel
theorem dX12_isDoingHere_61 : decode cX12_isDoingHere 61 = .ok (.iconst 1, 1) := by decide +kernel
theorem dX12_isDoingHere_62 : decode cX12_isDoingHere 62 = .ok (.iadd, 1) := by decide +kernel
theorem dX12_isDoingHere_63 : decode cX12_isDoingHere 63 = .ok (.aload_n 0, 1) := by decide +kernel
theorem dX12_isDoingHere_64 : decode cX12_isDoingHere 64 = .ok (.getfield 145, 3) := by decide +kernel
theorem dX12_isDoingHere_67 : decode cX12_isDoingHere 67 = .ok (.iastore, 1) := by decide +kernel
theorem dX12_isDoingHere_68 : decode cX12_isDoingHere 68 = .ok (.aload_n 0, 1) := by decide +kernel
theorem dX12_isDoingHere_69 : decode cX12_isDoingHere 69 = .ok (.getfield 20, 3) := by decide +kernel
theorem dX12_isDoingHere_72 : decode cX12_isDoingHere 72 = .ok (.iload_n 2, 1) := by decide +kernel
theorem dX12_isDoingHere_73 : decode cX12_isDoingHere 73 = .ok (.iconst 2, 1) := by decide +kernel
theorem dX12_isDoingHere_74 : decode cX12_isDoingHere 74 = .ok (.iadd, 1) := by decide +kernel
theorem dX12_isDoingHere_75 : decode cX12_isDoingHere 75 = .ok (.iconst (-1), 1) := by decide +kernel
theorem dX12_isDoingHere_76 : decode cX12_isDoingHere 76 = .ok (.iastore, 1) := by decide +kernel
theorem dX12_isDoingHere_77 : decode cX12_isDoingHere 77 = .ok (.aload_n 0, 1) := by decide +kernel
theorem dX12_isDoingHere_78 : decode cX12_isDoingHere 78 = .ok (.ldc2_w 232, 3) := by decide +kernel
theorem dX12_isDoingHere_81 : decode cX12_isDoingHere 81 = .ok (.invokevirtual 234, 3) := by decide +kernel
theorem dX12_isDoingHere_84 : decode cX12_isDoingHere 84 = .ok (.ifCond .eq 29, 3) := by decide +kernel
theorem dX12_isDoingHere_87 : decode cX12_isDoingHere 87 = .ok (.aload_n 0, 1) := by decide +kernel
theorem dX12_isDoingHere_88 : decode cX12_isDoingHere 88 = .ok (.getfield 20, 3) := by decide +kernel
theorem dX12_isDoingHere_91 : decode cX12_isDoingHere 91 = .ok (.iload_n 2, 1) := by decide +kernel
theorem dX12_isDoingHere_92 : decode cX12_isDoingHere 92 = .ok (.iconst 2, 1) := by decide +kernel
theorem dX12_isDoingHere_93 : decode cX12_isDoingHere 93 = .ok (.iadd, 1) := by decide +kernel
theorem dX12_isDoingHere_94 : decode cX12_isDoingHere 94 = .ok (.aload_n 0, 1) := by decide +kernel
theorem dX12_isDoingHere_95 : decode cX12_isDoingHere 95 = .ok (.getfield 17, 3) := by decide +kernel
theorem dX12_isDoingHere_98 : decode cX12_isDoingHere 98 = .ok (.aload_n 0, 1) := by decide +kernel
theorem dX12_isDoingHere_99 : decode cX12_isDoingHere 99 = .ok (.getfield 168, 3) := by decide +kernel
theorem dX12_isDoingHere_102 : decode cX12_isDoingHere 102 = .ok (.iaload, 1) := by decide +kernel
theorem dX12_isDoingHere_103 : decode cX12_isDoingHere 103 = .ok (.iastore, 1) := by decide +kernel
theorem dX12_isDoingHere_104 : decode cX12_isDoingHere 104 = .ok (.aload_n 0, 1) := by decide +kernel
theorem dX12_isDoingHere_105 : decode cX12_isDoingHere 105 = .ok (.invokevirtual 237, 3) := by decide +kernel
theorem dX12_isDoingHere_108 : decode cX12_isDoingHere 108 = .ok (.ifCond .ne 5, 3) := by decide +kernel
theorem dX12_isDoingHere_111 : decode cX12_isDoingHere 111 = .ok (.iconst 0, 1) := by decide +kernel
theorem dX12_isDoingHere_112 : decode cX12_isDoingHere 112 = .ok (.ireturn, 1) := by decide +kernel
theorem dX12_isDoingHere_113 : decode cX12_isDoingHere 113 = .ok (.aload_n 0, 1) := by decide +kernel
theorem dX12_isDoingHere_114 : decode cX12_isDoingHere 114 = .ok (.getfield 20, 3) := by decide +kernel
theorem dX12_isDoingHere_117 : decode cX12_isDoingHere 117 = .ok (.iload_n 2, 1) := by decide +kernel
theorem dX12_isDoingHere_118 : decode cX12_isDoingHere 118 = .ok (.iconst 3, 1) := by decide +kernel
theorem dX12_isDoingHere_119 : decode cX12_isDoingHere 119 = .ok (.iadd, 1) := by decide +kernel
theorem dX12_isDoingHere_120 : decode cX12_isDoingHere 120 = .ok (.aload_n 0, 1) := by decide +kernel
theorem dX12_isDoingHere_121 : decode cX12_isDoingHere 121 = .ok (.getfield 17, 3) := by decide +kernel
theorem dX12_isDoingHere_124 : decode cX12_isDoingHere 124 = .ok (.aload_n 0, 1) := by decide +kernel
theorem dX12_isDoingHere_125 : decode cX12_isDoingHere 125 = .ok (.getfield 168, 3) := by decide +kernel
theorem dX12_isDoingHere_128 : decode cX12_isDoingHere 128 = .ok (.iaload, 1) := by decide +kernel
theorem dX12_isDoingHere_129 : decode cX12_isDoingHere 129 = .ok (.iastore, 1) := by decide +kernel
theorem dX12_isDoingHere_130 : decode cX12_isDoingHere 130 = .ok (.aload_n 0, 1) := by decide +kernel
theorem dX12_isDoingHere_131 : decode cX12_isDoingHere 131 = .ok (.getfield 23, 3) := by decide +kernel
theorem dX12_isDoingHere_134 : decode cX12_isDoingHere 134 = .ok (.aload_n 0, 1) := by decide +kernel
theorem dX12_isDoingHere_135 : decode cX12_isDoingHere 135 = .ok (.getfield 168, 3) := by decide +kernel
theorem dX12_isDoingHere_138 : decode cX12_isDoingHere 138 = .ok (.dup2, 1) := by decide +kernel
theorem dX12_isDoingHere_139 : decode cX12_isDoingHere 139 = .ok (.iaload, 1) := by decide +kernel
theorem dX12_isDoingHere_140 : decode cX12_isDoingHere 140 = .ok (.iconst 1, 1) := by decide +kernel
theorem dX12_isDoingHere_141 : decode cX12_isDoingHere 141 = .ok (.iadd, 1) := by decide +kernel
theorem dX12_isDoingHere_142 : decode cX12_isDoingHere 142 = .ok (.iastore, 1) := by decide +kernel
theorem dX12_isDoingHere_143 : decode cX12_isDoingHere 143 = .ok (.iconst 1, 1) := by decide +kernel
theorem dX12_isDoingHere_144 : decode cX12_isDoingHere 144 = .ok (.ireturn, 1) := by decide +kernel
theorem dX12_isRoomHere_0 : decode cX12_isRoomHere 0 = .ok (.aload_n 0, 1) := by decide +kernel
theorem dX12_isRoomHere_1 : decode cX12_isRoomHere 1 = .ok (.getfield 240, 3) := by decide +kernel
theorem dX12_isRoomHere_4 : decode cX12_isRoomHere 4 = .ok (.bipush 16, 2) := by decide +kernel
theorem dX12_isRoomHere_6 : decode cX12_isRoomHere 6 = .ok (.if_icmp .ne 10, 3) := by decide +kernel
theorem dX12_isRoomHere_9 : decode cX12_isRoomHere 9 = .ok (.aload_n 0, 1) := by decide +kernel
theorem dX12_isRoomHere_10 : decode cX12_isRoomHere 10 = .ok (.iconst 4, 1) := by decide +kernel
theorem dX12_isRoomHere_11 : decode cX12_isRoomHere 11 = .ok (.iload_n 1, 1) := by decide +kernel
theorem dX12_isRoomHere_12 : decode cX12_isRoomHere 12 = .ok (.invokevirtual 141, 3) := by decide +kernel
theorem dX12_isRoomHere_15 : decode cX12_isRoomHere 15 = .ok (.ireturn, 1) := by decide +kernel
theorem dX12_isRoomHere_16 : decode cX12_isRoomHere 16 = .ok (.aload_n 0, 1) := by decide +kernel
theorem dX12_isRoomHere_17 : decode cX12_isRoomHere 17 = .ok (.invokevirtual 135, 3) := by decide +kernel
theorem dX12_isRoomHere_20 : decode cX12_isRoomHere 20 = .ok (.aload_n 0, 1) := by decide +kernel
theorem dX12_isRoomHere_21 : decode cX12_isRoomHere 21 = .ok (.iconst 0, 1) := by decide +kernel
theorem dX12_isRoomHere_22 : decode cX12_isRoomHere 22 = .ok (.bipush 40, 2) := by decide +kernel
theorem dX12_isRoomHere_24 : decode cX12_isRoomHere 24 = .ok (.invokevirtual 189, 3) := by decide +kernel
theorem dX12_isRoomHere_27 : decode cX12_isRoomHere 27 = .ok (.ifCond .ne 5, 3) := by decide +kernel
theorem dX12_isRoomHere_30 : decode cX12_isRoomHere 30 = .ok (.iconst 0, 1) := by decide +kernel
theorem dX12_isRoomHere_31 : decode cX12_isRoomHere 31 = .ok (.ireturn, 1) := by decide +kernel
theorem dX12_isRoomHere_32 : decode cX12_isRoomHere 32 = .ok (.aload_n 0, 1) := by decide +kernel
theorem dX12_isRoomHere_33 : decode cX12_isRoomHere 33 = .ok (.getfield 29, 3) := by decide +kernel
theorem dX12_isRoomHere_36 : decode cX12_isRoomHere 36 = .ok (.aload_n 0, 1) := by decide +kernel
theorem dX12_isRoomHere_37 : decode cX12_isRoomHere 37 = .ok (.getfield 240, 3) := by decide +kernel
theorem dX12_isRoomHere_40 : decode cX12_isRoomHere 40 = .ok (.aload_n 0, 1) := by decide +kernel
theorem dX12_isRoomHere_41 : decode cX12_isRoomHere 41 = .ok (.getfield 145, 3) := by decide +kernel
theorem dX12_isRoomHere_44 : decode cX12_isRoomHere 44 = .ok (.iastore, 1) := by decide +kernel
theorem dX12_isRoomHere_45 : decode cX12_isRoomHere 45 = .ok (.aload_n 0, 1) := by decide +kernel
theorem dX12_isRoomHere_46 : decode cX12_isRoomHere 46 = .ok (.dup, 1) := by decide +kernel
theorem dX12_isRoomHere_47 : decode cX12_isRoomHere 47 = .ok (.getfield 240, 3) := by decide +kernel
theorem dX12_isRoomHere_50 : decode cX12_isRoomHere 50 = .ok (.iconst 1, 1) := by decide +kernel
theorem dX12_isRoomHere_51 : decode cX12_isRoomHere 51 = .ok (.iadd, 1) := by decide +kernel
theorem dX12_isRoomHere_52 : decode cX12_isRoomHere 52 = .ok (.putfield 240, 3) := by decide +kernel
theorem dX12_isRoomHere_55 : decode cX12_isRoomHere 55 = .ok (.iconst 1, 1) := by decide +kernel
theorem dX12_isRoomHere_56 : decode cX12_isRoomHere 56 = .ok (.ireturn, 1) := by decide +kernel
theorem dX12_isWayHere_0 : decode cX12_isWayHere 0 = .ok (.aload_n 0, 1) := by decide +kernel
theorem dX12_isWayHere_1 : decode cX12_isWayHere 1 = .ok (.getfield 243, 3) := by decide +kernel
theorem dX12_isWayHere_4 : decode cX12_isWayHere 4 = .ok (.bipush 24, 2) := by decide +kernel
theorem dX12_isWayHere_6 : decode cX12_isWayHere 6 = .ok (.if_icmp .ne 10, 3) := by decide +kernel
theorem dX12_isWayHere_9 : decode cX12_isWayHere 9 = .ok (.aload_n 0, 1) := by decide +kernel
theorem dX12_isWayHere_10 : decode cX12_isWayHere 10 = .ok (.iconst 4, 1) := by decide +kernel
theorem dX12_isWayHere_11 : decode cX12_isWayHere 11 = .ok (.iload_n 2, 1) := by decide +kernel
theorem dX12_isWayHere_12 : decode cX12_isWayHere 12 = .ok (.invokevirtual 141, 3) := by decide +kernel
theorem dX12_isWayHere_15 : decode cX12_isWayHere 15 = .ok (.ireturn, 1) := by decide +kernel
theorem dX12_isWayHere_16 : decode cX12_isWayHere 16 = .ok (.aload_n 0, 1) := by decide +kernel
theorem dX12_isWayHere_17 : decode cX12_isWayHere 17 = .ok (.invokevirtual 135, 3) := by decide +kernel
theorem dX12_isWayHere_20 : decode cX12_isWayHere 20 = .ok (.bipush 6, 2) := by decide +kernel
theorem dX12_isWayHere_22 : decode cX12_isWayHere 22 = .ok (.aload_n 0, 1) := by decide +kernel
theorem dX12_isWayHere_23 : decode cX12_isWayHere 23 = .ok (.getfield 243, 3) := by decide +kernel
theorem dX12_isWayHere_26 : decode cX12_isWayHere 26 = .ok (.imul, 1) := by decide +kernel
theorem dX12_isWayHere_27 : decode cX12_isWayHere 27 = .ok (.istore_n 3, 1) := by decide +kernel
theorem dX12_isWayHere_28 : decode cX12_isWayHere 28 = .ok (.aload_n 0, 1) := by decide +kernel
theorem dX12_isWayHere_29 : decode cX12_isWayHere 29 = .ok (.iconst 0, 1) := by decide +kernel
theorem dX12_isWayHere_30 : decode cX12_isWayHere 30 = .ok (.aload_n 0, 1) := by decide +kernel
theorem dX12_isWayHere_31 : decode cX12_isWayHere 31 = .ok (.getfield 240, 3) := by decide +kernel
theorem dX12_isWayHere_34 : decode cX12_isWayHere 34 = .ok (.iconst 1, 1) := by decide +kernel
theorem dX12_isWayHere_35 : decode cX12_isWayHere 35 = .ok (.isub, 1) := by decide +kernel
theorem dX12_isWayHere_36 : decode cX12_isWayHere 36 = .ok (.invokevirtual 189, 3) := by decide +kernel
theorem dX12_isWayHere_39 : decode cX12_isWayHere 39 = .ok (.ifCond .ne 5, 3) := by decide +kernel
theorem dX12_isWayHere_42 : decode cX12_isWayHere 42 = .ok (.iconst 0, 1) := by decide +kernel
theorem dX12_isWayHere_43 : decode cX12_isWayHere 43 = .ok (.ireturn, 1) := by decide +kernel
theorem dX12_isWayHere_44 : decode cX12_isWayHere 44 = .ok (.aload_n 0, 1) := by decide +kernel
theorem dX12_isWayHere_45 : decode cX12_isWayHere 45 = .ok (.getfield 145, 3) := by decide +kernel
theorem dX12_isWayHere_48 : decode cX12_isWayHere 48 = .ok (.istore 4, 2) := by decide +kernel
theorem dX12_isWayHere_50 : decode cX12_isWayHere 50 = .ok (.aload_n 0, 1) := by decide +kernel
theorem dX12_isWayHere_51 : decode cX12_isWayHere 51 = .ok (.invokevirtual 123, 3) := by decide +kernel
theorem dX12_isWayHere_54 : decode cX12_isWayHere 54 = .ok (.pop, 1) := by decide +kernel
theorem dX12_isWayHere_55 : decode cX12_isWayHere 55 = .ok (.aload_n 0, 1) := by decide +kernel
theorem dX12_isWayHere_56 : decode cX12_isWayHere 56 = .ok (.getfield 120, 3) := by decide +kernel
theorem dX12_isWayHere_59 : decode cX12_isWayHere 59 = .ok (.istore 5, 2) := by decide +kernel
theorem dX12_isWayHere_61 : decode cX12_isWayHere 61 = .ok (.aload_n 0, 1) := by decide +kernel
theorem dX12_isWayHere_62 : decode cX12_isWayHere 62 = .ok (.iconst 0, 1) := by decide +kernel
theorem dX12_isWayHere_63 : decode cX12_isWayHere 63 = .ok (.aload_n 0, 1) := by decide +kernel
theorem dX12_isWayHere_64 : decode cX12_isWayHere 64 = .ok (.getfield 240, 3) := by decide +kernel
theorem dX12_isWayHere_67 : decode cX12_isWayHere 67 = .ok (.iconst 1, 1) := by decide +kernel
theorem dX12_isWayHere_68 : decode cX12_isWayHere 68 = .ok (.isub, 1) := by decide +kernel
theorem dX12_isWayHere_69 : decode cX12_isWayHere 69 = .ok (.invokevirtual 189, 3) := by decide +kernel
theorem dX12_isWayHere_72 : decode cX12_isWayHere 72 = .ok (.ifCond .ne 5, 3) := by decide +kernel
theorem dX12_isWayHere_75 : decode cX12_isWayHere 75 = .ok (.iconst 0, 1) := by decide +kernel
theorem dX12_isWayHere_76 : decode cX12_isWayHere 76 = .ok (.ireturn, 1) := by decide +kernel
theorem dX12_isWayHere_77 : decode cX12_isWayHere 77 = .ok (.iload_n 1, 1) := by decide +kernel
theorem dX12_isWayHere_78 : decode cX12_isWayHere 78 = .ok (.ifCond .eq 34, 3) := by decide +kernel
theorem dX12_isWayHere_81 : decode cX12_isWayHere 81 = .ok (.aload_n 0, 1) := by decide +kernel
theorem dX12_isWayHere_82 : decode cX12_isWayHere 82 = .ok (.getfield 145, 3) := by decide +kernel
theorem dX12_isWayHere_85 : decode cX12_isWayHere 85 = .ok (.iload 4, 2) := by decide +kernel
theorem dX12_isWayHere_87 : decode cX12_isWayHere 87 = .ok (.if_icmp .eq 44, 3) := by decide +kernel
theorem dX12_isWayHere_90 : decode cX12_isWayHere 90 = .ok (.aload_n 0, 1) := by decide +kernel
theorem dX12_isWayHere_91 : decode cX12_isWayHere 91 = .ok (.getfield 29, 3) := by decide +kernel
theorem dX12_isWayHere_94 : decode cX12_isWayHere 94 = .ok (.aload_n 0, 1) := by decide +kernel
theorem dX12_isWayHere_95 : decode cX12_isWayHere 95 = .ok (.getfield 145, 3) := by decide +kernel
theorem dX12_isWayHere_98 : decode cX12_isWayHere 98 = .ok (.iaload, 1) := by decide +kernel
theorem dX12_isWayHere_99 : decode cX12_isWayHere 99 = .ok (.aload_n 0, 1) := by decide +kernel
theorem dX12_isWayHere_100 : decode cX12_isWayHere 100 = .ok (.getfield 29, 3) := by decide +kernel
theorem dX12_isWayHere_103 : decode cX12_isWayHere 103 = .ok (.iload 4, 2) := by decide +kernel
theorem dX12_isWayHere_105 : decode cX12_isWayHere 105 = .ok (.iaload, 1) := by decide +kernel
theorem dX12_isWayHere_106 : decode cX12_isWayHere 106 = .ok (.if_icmp .eq 33, 3) := by decide +kernel
theorem dX12_isWayHere_109 : decode cX12_isWayHere 109 = .ok (.goto 22, 3) := by decide +kernel
theorem dX12_isWayHere_112 : decode cX12_isWayHere 112 = .ok (.aload_n 0, 1) := by decide +kernel
theorem dX12_isWayHere_113 : decode cX12_isWayHere 113 = .ok (.getfield 29, 3) := by decide +kernel
theorem dX12_isWayHere_116 : decode cX12_isWayHere 116 = .ok (.aload_n 0, 1) := by decide +kernel
theorem dX12_isWayHere_117 : decode cX12_isWayHere 117 = .ok (.getfield 145, 3) := by decide +kernel
theorem dX12_isWayHere_120 : decode cX12_isWayHere 120 = .ok (.iaload, 1) := by decide +kernel
theorem dX12_isWayHere_121 : decode cX12_isWayHere 121 = .ok (.aload_n 0, 1) := by decide +kernel
theorem dX12_isWayHere_122 : decode cX12_isWayHere 122 = .ok (.getfield 29, 3) := by decide +kernel
theorem dX12_isWayHere_125 : decode cX12_isWayHere 125 = .ok (.iload 4, 2) := by decide +kernel
theorem dX12_isWayHere_127 : decode cX12_isWayHere 127 = .ok (.iaload, 1) := by decide +kernel
theorem dX12_isWayHere_128 : decode cX12_isWayHere 128 = .ok (.if_icmp .lt 11, 3) := by decide +kernel
theorem dX12_isWayHere_131 : decode cX12_isWayHere 131 = .ok (.aload_n 0, 1) := by decide +kernel
theorem dX12_isWayHere_132 : decode cX12_isWayHere 132 = .ok (.iconst 1, 1) := by decide +kernel
theorem dX12_isWayHere_133 : decode cX12_isWayHere 133 = .ok (.iload 5, 2) := by decide +kernel
theorem dX12_isWayHere_135 : decode cX12_isWayHere 135 = .ok (.invokevirtual 141, 3) := by decide +kernel
theorem dX12_isWayHere_138 : decode cX12_isWayHere 138 = .ok (.ireturn, 1) := by decide +kernel
theorem dX12_isWayHere_139 : decode cX12_isWayHere 139 = .ok (.aload_n 0, 1) := by decide +kernel
theorem dX12_isWayHere_140 : decode cX12_isWayHere 140 = .ok (.getfield 32, 3) := by decide +kernel
theorem dX12_isWayHere_143 : decode cX12_isWayHere 143 = .ok (.iload_n 3, 1) := by decide +kernel
theorem dX12_isWayHere_144 : decode cX12_isWayHere 144 = .ok (.iload 4, 2) := by decide +kernel
theorem dX12_isWayHere_146 : decode cX12_isWayHere 146 = .ok (.iastore, 1) := by decide +kernel
theorem dX12_isWayHere_147 : decode cX12_isWayHere 147 = .ok (.aload_n 0, 1) := by decide +kernel
theorem dX12_isWayHere_148 : decode cX12_isWayHere 148 = .ok (.getfield 32, 3) := by decide +kernel
theorem dX12_isWayHere_151 : decode cX12_isWayHere 151 = .ok (.iload_n 3, 1) := by decide +kernel
theorem dX12_isWayHere_152 : decode cX12_isWayHere 152 = .ok (.iconst 1, 1) := by decide +kernel
theorem dX12_isWayHere_153 : decode cX12_isWayHere 153 = .ok (.iadd, 1) := by decide +kernel
theorem dX12_isWayHere_154 : decode cX12_isWayHere 154 = .ok (.aload_n 0, 1) := by decide +kernel
theorem dX12_isWayHere_155 : decode cX12_isWayHere 155 = .ok (.getfield 145, 3) := by decide +kernel
theorem dX12_isWayHere_158 : decode cX12_isWayHere 158 = .ok (.iastore, 1) := by decide +kernel
theorem dX12_isWayHere_159 : decode cX12_isWayHere 159 = .ok (.aload_n 0, 1) := by decide +kernel
theorem dX12_isWayHere_160 : decode cX12_isWayHere 160 = .ok (.iconst 1, 1) := by decide +kernel
theorem dX12_isWayHere_161 : decode cX12_isWayHere 161 = .ok (.bipush 60, 2) := by decide +kernel
theorem dX12_isWayHere_163 : decode cX12_isWayHere 163 = .ok (.invokevirtual 189, 3) := by decide +kernel
theorem dX12_isWayHere_166 : decode cX12_isWayHere 166 = .ok (.ifCond .ne 5, 3) := by decide +kernel
theorem dX12_isWayHere_169 : decode cX12_isWayHere 169 = .ok (.iconst 0, 1) := by decide +kernel
theorem dX12_isWayHere_170 : decode cX12_isWayHere 170 = .ok (.ireturn, 1) := by decide +kernel
theorem dX12_isWayHere_171 : decode cX12_isWayHere 171 = .ok (.aload_n 0, 1) := by decide +kernel
theorem dX12_isWayHere_172 : decode cX12_isWayHere 172 = .ok (.getfield 32, 3) := by decide +kernel
theorem dX12_isWayHere_175 : decode cX12_isWayHere 175 = .ok (.iload_n 3, 1) := by decide +kernel
theorem dX12_isWayHere_176 : decode cX12_isWayHere 176 = .ok (.iconst 2, 1) := by decide +kernel
theorem dX12_isWayHere_177 : decode cX12_isWayHere 177 = .ok (.iadd, 1) := by decide +kernel
theorem dX12_isWayHere_178 : decode cX12_isWayHere 178 = .ok (.aload_n 0, 1) := by decide +kernel
theorem dX12_isWayHere_179 : decode cX12_isWayHere 179 = .ok (.getfield 145, 3) := by decide +kernel
theorem dX12_isWayHere_182 : decode cX12_isWayHere 182 = .ok (.iastore, 1) := by decide +kernel
theorem dX12_isWayHere_183 : decode cX12_isWayHere 183 = .ok (.aload_n 0, 1) := by decide +kernel
theorem dX12_isWayHere_184 : decode cX12_isWayHere 184 = .ok (.getfield 32, 3) := by decide +kernel
theorem dX12_isWayHere_187 : decode cX12_isWayHere 187 = .ok (.iload_n 3, 1) := by decide +kernel
theorem dX12_isWayHere_188 : decode cX12_isWayHere 188 = .ok (.iconst 3, 1) := by decide +kernel
theorem dX12_isWayHere_189 : decode cX12_isWayHere 189 = .ok (.iadd, 1) := by decide +kernel
theorem dX12_isWayHere_190 : decode cX12_isWayHere 190 = .ok (.iload_n 1, 1) := by decide +kernel
theorem dX12_isWayHere_191 : decode cX12_isWayHere 191 = .ok (.ifCond .eq 7, 3) := by decide +kernel
theorem dX12_isWayHere_194 : decode cX12_isWayHere 194 = .ok (.iconst 1, 1) := by decide +kernel
theorem dX12_isWayHere_195 : decode cX12_isWayHere 195 = .ok (.goto 4, 3) := by decide +kernel
theorem dX12_isWayHere_198 : decode cX12_isWayHere 198 = .ok (.iconst 0, 1) := by decide +kernel
theorem dX12_isWayHere_199 : decode cX12_isWayHere 199 = .ok (.iastore, 1) := by decide +kernel
theorem dX12_isWayHere_200 : decode cX12_isWayHere 200 = .ok (.aload_n 0, 1) := by decide +kernel
theorem dX12_isWayHere_201 : decode cX12_isWayHere 201 = .ok (.getfield 32, 3) := by decide +kernel
theorem dX12_isWayHere_204 : decode cX12_isWayHere 204 = .ok (.iload_n 3, 1) := by decide +kernel
theorem dX12_isWayHere_205 : decode cX12_isWayHere 205 = .ok (.iconst 4, 1) := by decide +kernel
theorem dX12_isWayHere_206 : decode cX12_isWayHere 206 = .ok (.iadd, 1) := by decide +kernel
theorem dX12_isWayHere_207 : decode cX12_isWayHere 207 = .ok (.iconst (-1), 1) := by decide +kernel
theorem dX12_isWayHere_208 : decode cX12_isWayHere 208 = .ok (.iastore, 1) := by decide +kernel
theorem dX12_isWayHere_209 : decode cX12_isWayHere 209 = .ok (.aload_n 0, 1) := by decide +kernel
theorem dX12_isWayHere_210 : decode cX12_isWayHere 210 = .ok (.getfield 32, 3) := by decide +kernel
theorem dX12_isWayHere_213 : decode cX12_isWayHere 213 = .ok (.iload_n 3, 1) := by decide +kernel
theorem dX12_isWayHere_214 : decode cX12_isWayHere 214 = .ok (.iconst 5, 1) := by decide +kernel
theorem dX12_isWayHere_215 : decode cX12_isWayHere 215 = .ok (.iadd, 1) := by decide +kernel
theorem dX12_isWayHere_216 : decode cX12_isWayHere 216 = .ok (.iconst (-1), 1) := by decide +kernel
theorem dX12_isWayHere_217 : decode cX12_isWayHere 217 = .ok (.iastore, 1) := by decide +kernel
theorem dX12_isWayHere_218 : decode cX12_isWayHere 218 = .ok (.aload_n 0, 1) := by decide +kernel
theorem dX12_isWayHere_219 : decode cX12_isWayHere 219 = .ok (.dup, 1) := by decide +kernel
theorem dX12_isWayHere_220 : decode cX12_isWayHere 220 = .ok (.getfield 243, 3) := by decide +kernel
theorem dX12_isWayHere_223 : decode cX12_isWayHere 223 = .ok (.iconst 1, 1) := by decide +kernel
theorem dX12_isWayHere_224 : decode cX12_isWayHere 224 = .ok (.iadd, 1) := by decide +kernel
theorem dX12_isWayHere_225 : decode cX12_isWayHere 225 = .ok (.putfield 243, 3) := by decide +kernel
theorem dX12_isWayHere_228 : decode cX12_isWayHere 228 = .ok (.iconst 1, 1) := by decide +kernel
theorem dX12_isWayHere_229 : decode cX12_isWayHere 229 = .ok (.ireturn, 1) := by decide +kernel
theorem dX12_isDoorHere_0 : decode cX12_isDoorHere 0 = .ok (.aload_n 0, 1) := by decide +kernel
theorem dX12_isDoorHere_1 : decode cX12_isDoorHere 1 = .ok (.invokevirtual 135, 3) := by decide +kernel
theorem dX12_isDoorHere_4 : decode cX12_isDoorHere 4 = .ok (.aload_n 0, 1) := by decide +kernel
theorem dX12_isDoorHere_5 : decode cX12_isDoorHere 5 = .ok (.iconst 0, 1) := by decide +kernel
theorem dX12_isDoorHere_6 : decode cX12_isDoorHere 6 = .ok (.aload_n 0, 1) := by decide +kernel
theorem dX12_isDoorHere_7 : decode cX12_isDoorHere 7 = .ok (.getfield 243, 3) := by decide +kernel
theorem dX12_isDoorHere_10 : decode cX12_isDoorHere 10 = .ok (.iconst 1, 1) := by decide +kernel
theorem dX12_isDoorHere_11 : decode cX12_isDoorHere 11 = .ok (.isub, 1) := by decide +kernel
theorem dX12_isDoorHere_12 : decode cX12_isDoorHere 12 = .ok (.invokevirtual 189, 3) := by decide +kernel
theorem dX12_isDoorHere_15 : decode cX12_isDoorHere 15 = .ok (.ifCond .ne 5, 3) := by decide +kernel
theorem dX12_isDoorHere_18 : decode cX12_isDoorHere 18 = .ok (.iconst 0, 1) := by decide +kernel
theorem dX12_isDoorHere_19 : decode cX12_isDoorHere 19 = .ok (.ireturn, 1) := by decide +kernel
theorem dX12_isDoorHere_20 : decode cX12_isDoorHere 20 = .ok (.bipush 6, 2) := by decide +kernel
theorem dX12_isDoorHere_22 : decode cX12_isDoorHere 22 = .ok (.aload_n 0, 1) := by decide +kernel
theorem dX12_isDoorHere_23 : decode cX12_isDoorHere 23 = .ok (.getfield 145, 3) := by decide +kernel
theorem dX12_isDoorHere_26 : decode cX12_isDoorHere 26 = .ok (.imul, 1) := by decide +kernel
theorem dX12_isDoorHere_27 : decode cX12_isDoorHere 27 = .ok (.istore_n 1, 1) := by decide +kernel
theorem dX12_isDoorHere_28 : decode cX12_isDoorHere 28 = .ok (.aload_n 0, 1) := by decide +kernel
theorem dX12_isDoorHere_29 : decode cX12_isDoorHere 29 = .ok (.iconst 0, 1) := by decide +kernel
theorem dX12_isDoorHere_30 : decode cX12_isDoorHere 30 = .ok (.sipush 1439, 3) := by decide +kernel
theorem dX12_isDoorHere_33 : decode cX12_isDoorHere 33 = .ok (.invokevirtual 189, 3) := by decide +kernel
theorem dX12_isDoorHere_36 : decode cX12_isDoorHere 36 = .ok (.ifCond .ne 5, 3) := by decide +kernel
theorem dX12_isDoorHere_39 : decode cX12_isDoorHere 39 = .ok (.iconst 0, 1) := by decide +kernel
theorem dX12_isDoorHere_40 : decode cX12_isDoorHere 40 = .ok (.ireturn, 1) := by decide +kernel
theorem dX12_isDoorHere_41 : decode cX12_isDoorHere 41 = .ok (.aload_n 0, 1) := by decide +kernel
theorem dX12_isDoorHere_42 : decode cX12_isDoorHere 42 = .ok (.getfield 145, 3) := by decide +kernel
theorem dX12_isDoorHere_45 : decode cX12_isDoorHere 45 = .ok (.istore_n 2, 1) := by decide +kernel
theorem dX12_isDoorHere_46 : decode cX12_isDoorHere 46 = .ok (.aload_n 0, 1) := by decide +kernel
theorem dX12_isDoorHere_47 : decode cX12_isDoorHere 47 = .ok (.iload_n 2, 1) := by decide +kernel
theorem dX12_isDoorHere_48 : decode cX12_isDoorHere 48 = .ok (.sipush 1439, 3) := by decide +kernel
theorem dX12_isDoorHere_51 : decode cX12_isDoorHere 51 = .ok (.invokevirtual 189, 3) := by decide +kernel
theorem dX12_isDoorHere_54 : decode cX12_isDoorHere 54 = .ok (.ifCond .ne 5, 3) := by decide +kernel
theorem dX12_isDoorHere_57 : decode cX12_isDoorHere 57 = .ok (.iconst 0, 1) := by decide +kernel
theorem dX12_isDoorHere_58 : decode cX12_isDoorHere 58 = .ok (.ireturn, 1) := by decide +kernel
theorem dX12_isDoorHere_59 : decode cX12_isDoorHere 59 = .ok (.aload_n 0, 1) := by decide +kernel
theorem dX12_isDoorHere_60 : decode cX12_isDoorHere 60 = .ok (.getfield 32, 3) := by decide +kernel
theorem dX12_isDoorHere_63 : decode cX12_isDoorHere 63 = .ok (.iload_n 1, 1) := by decide +kernel
theorem dX12_isDoorHere_64 : decode cX12_isDoorHere 64 = .ok (.iconst 4, 1) := by decide +kernel
theorem dX12_isDoorHere_65 : decode cX12_isDoorHere 65 = .ok (.iadd, 1) := by decide +kernel
theorem dX12_isDoorHere_66 : decode cX12_isDoorHere 66 = .ok (.iload_n 2, 1) := by decide +kernel
theorem dX12_isDoorHere_67 : decode cX12_isDoorHere 67 = .ok (.iastore, 1) := by decide +kernel
theorem dX12_isDoorHere_68 : decode cX12_isDoorHere 68 = .ok (.aload_n 0, 1) := by decide +kernel
theorem dX12_isDoorHere_69 : decode cX12_isDoorHere 69 = .ok (.getfield 32, 3) := by decide +kernel
theorem dX12_isDoorHere_72 : decode cX12_isDoorHere 72 = .ok (.iload_n 1, 1) := by decide +kernel
theorem dX12_isDoorHere_73 : decode cX12_isDoorHere 73 = .ok (.iconst 5, 1) := by decide +kernel
theorem dX12_isDoorHere_74 : decode cX12_isDoorHere 74 = .ok (.iadd, 1) := by decide +kernel
theorem dX12_isDoorHere_75 : decode cX12_isDoorHere 75 = .ok (.aload_n 0, 1) := by decide +kernel
theorem dX12_isDoorHere_76 : decode cX12_isDoorHere 76 = .ok (.getfield 145, 3) := by decide +kernel
theorem dX12_isDoorHere_79 : decode cX12_isDoorHere 79 = .ok (.iastore, 1) := by decide +kernel
theorem dX12_isDoorHere_80 : decode cX12_isDoorHere 80 = .ok (.iconst 1, 1) := by decide +kernel
theorem dX12_isDoorHere_81 : decode cX12_isDoorHere 81 = .ok (.ireturn, 1) := by decide +kernel
theorem dX12_isHoistHere_0 : decode cX12_isHoistHere 0 = .ok (.aload_n 0, 1) := by decide +kernel
theorem dX12_isHoistHere_1 : decode cX12_isHoistHere 1 = .ok (.getfield 26, 3) := by decide +kernel
theorem dX12_isHoistHere_4 : decode cX12_isHoistHere 4 = .ok (.iconst 0, 1) := by decide +kernel
theorem dX12_isHoistHere_5 : decode cX12_isHoistHere 5 = .ok (.iaload, 1) := by decide +kernel
theorem dX12_isHoistHere_6 : decode cX12_isHoistHere 6 = .ok (.ifCond .le 10, 3) := by decide +kernel
theorem dX12_isHoistHere_9 : decode cX12_isHoistHere 9 = .ok (.aload_n 0, 1) := by decide +kernel
theorem dX12_isHoistHere_10 : decode cX12_isHoistHere 10 = .ok (.iconst 4, 1) := by decide +kernel
theorem dX12_isHoistHere_11 : decode cX12_isHoistHere 11 = .ok (.iload_n 1, 1) := by decide +kernel
theorem dX12_isHoistHere_12 : decode cX12_isHoistHere 12 = .ok (.invokevirtual 141, 3) := by decide +kernel
theorem dX12_isHoistHere_15 : decode cX12_isHoistHere 15 = .ok (.ireturn, 1) := by decide +kernel
theorem dX12_isHoistHere_16 : decode cX12_isHoistHere 16 = .ok (.aload_n 0, 1) := by decide +kernel
theorem dX12_isHoistHere_17 : decode cX12_isHoistHere 17 = .ok (.invokevirtual 135, 3) := by decide +kernel
theorem dX12_isHoistHere_20 : decode cX12_isHoistHere 20 = .ok (.aload_n 0, 1) := by decide +kernel
theorem dX12_isHoistHere_21 : decode cX12_isHoistHere 21 = .ok (.iconst 1, 1) := by decide +kernel
theorem dX12_isHoistHere_22 : decode cX12_isHoistHere 22 = .ok (.bipush 60, 2) := by decide +kernel
theorem dX12_isHoistHere_24 : decode cX12_isHoistHere 24 = .ok (.invokevirtual 189, 3) := by decide +kernel
theorem dX12_isHoistHere_27 : decode cX12_isHoistHere 27 = .ok (.ifCond .ne 5, 3) := by decide +kernel
theorem dX12_isHoistHere_30 : decode cX12_isHoistHere 30 = .ok (.iconst 0, 1) := by decide +kernel
theorem dX12_isHoistHere_31 : decode cX12_isHoistHere 31 = .ok (.ireturn, 1) := by decide +kernel
theorem dX12_isHoistHere_32 : decode cX12_isHoistHere 32 = .ok (.aload_n 0, 1) := by decide +kernel
theorem dX12_isHoistHere_33 : decode cX12_isHoistHere 33 = .ok (.getfield 145, 3) := by decide +kernel
theorem dX12_isHoistHere_36 : decode cX12_isHoistHere 36 = .ok (.istore_n 2, 1) := by decide +kernel
theorem dX12_isHoistHere_37 : decode cX12_isHoistHere 37 = .ok (.aload_n 0, 1) := by decide +kernel
theorem dX12_isHoistHere_38 : decode cX12_isHoistHere 38 = .ok (.iconst 1, 1) := by decide +kernel
theorem dX12_isHoistHere_39 : decode cX12_isHoistHere 39 = .ok (.bipush 9, 2) := by decide +kernel
theorem dX12_isHoistHere_41 : decode cX12_isHoistHere 41 = .ok (.invokevirtual 189, 3) := by decide +kernel
theorem dX12_isHoistHere_44 : decode cX12_isHoistHere 44 = .ok (.ifCond .ne 5, 3) := by decide +kernel
theorem dX12_isHoistHere_47 : decode cX12_isHoistHere 47 = .ok (.iconst 0, 1) := by decide +kernel
theorem dX12_isHoistHere_48 : decode cX12_isHoistHere 48 = .ok (.ireturn, 1) := by decide +kernel
theorem dX12_isHoistHere_49 : decode cX12_isHoistHere 49 = .ok (.aload_n 0, 1) := by decide +kernel
theorem dX12_isHoistHere_50 : decode cX12_isHoistHere 50 = .ok (.getfield 26, 3) := by decide +kernel
theorem dX12_isHoistHere_53 : decode cX12_isHoistHere 53 = .ok (.iconst 1, 1) := by decide +kernel
theorem dX12_isHoistHere_54 : decode cX12_isHoistHere 54 = .ok (.aload_n 0, 1) := by decide +kernel
theorem dX12_isHoistHere_55 : decode cX12_isHoistHere 55 = .ok (.getfield 145, 3) := by decide +kernel
theorem dX12_isHoistHere_58 : decode cX12_isHoistHere 58 = .ok (.iastore, 1) := by decide +kernel
theorem dX12_isHoistHere_59 : decode cX12_isHoistHere 59 = .ok (.aload_n 0, 1) := by decide +kernel
theorem dX12_isHoistHere_60 : decode cX12_isHoistHere 60 = .ok (.iconst 1, 1) := by decide +kernel
theorem dX12_isHoistHere_61 : decode cX12_isHoistHere 61 = .ok (.bipush 120, 2) := by decide +kernel
theorem dX12_isHoistHere_63 : decode cX12_isHoistHere 63 = .ok (.invokevirtual 189, 3) := by decide +kernel
theorem dX12_isHoistHere_66 : decode cX12_isHoistHere 66 = .ok (.ifCond .ne 5, 3) := by decide +kernel
theorem dX12_isHoistHere_69 : decode cX12_isHoistHere 69 = .ok (.iconst 0, 1) := by decide +kernel
theorem dX12_isHoistHere_70 : decode cX12_isHoistHere 70 = .ok (.ireturn, 1) := by decide +kernel
theorem dX12_isHoistHere_71 : decode cX12_isHoistHere 71 = .ok (.aload_n 0, 1) := by decide +kernel
theorem dX12_isHoistHere_72 : decode cX12_isHoistHere 72 = .ok (.getfield 26, 3) := by decide +kernel
theorem dX12_isHoistHere_75 : decode cX12_isHoistHere 75 = .ok (.iconst 2, 1) := by decide +kernel
theorem dX12_isHoistHere_76 : decode cX12_isHoistHere 76 = .ok (.aload_n 0, 1) := by decide +kernel
theorem dX12_isHoistHere_77 : decode cX12_isHoistHere 77 = .ok (.getfield 145, 3) := by decide +kernel
theorem dX12_isHoistHere_80 : decode cX12_isHoistHere 80 = .ok (.iastore, 1) := by decide +kernel
theorem dX12_isHoistHere_81 : decode cX12_isHoistHere 81 = .ok (.aload_n 0, 1) := by decide +kernel
theorem dX12_isHoistHere_82 : decode cX12_isHoistHere 82 = .ok (.getfield 26, 3) := by decide +kernel
theorem dX12_isHoistHere_85 : decode cX12_isHoistHere 85 = .ok (.iconst 0, 1) := by decide +kernel
theorem dX12_isHoistHere_86 : decode cX12_isHoistHere 86 = .ok (.iload_n 2, 1) := by decide +kernel
theorem dX12_isHoistHere_87 : decode cX12_isHoistHere 87 = .ok (.iastore, 1) := by decide +kernel
theorem dX12_isHoistHere_88 : decode cX12_isHoistHere 88 = .ok (.iconst 1, 1) := by decide +kernel
theorem dX12_isHoistHere_89 : decode cX12_isHoistHere 89 = .ok (.ireturn, 1) := by decide +kernel
theorem dX12_isPersonHere_0 : decode cX12_isPersonHere 0 = .ok (.aload_n 0, 1) := by decide +kernel
theorem dX12_isPersonHere_1 : decode cX12_isPersonHere 1 = .ok (.getfield 246, 3) := by decide +kernel
theorem dX12_isPersonHere_4 : decode cX12_isPersonHere 4 = .ok (.bipush 8, 2) := by decide +kernel
theorem dX12_isPersonHere_6 : decode cX12_isPersonHere 6 = .ok (.if_icmp .ne 10, 3) := by decide +kernel
theorem dX12_isPersonHere_9 : decode cX12_isPersonHere 9 = .ok (.aload_n 0, 1) := by decide +kernel
theorem dX12_isPersonHere_10 : decode cX12_isPersonHere 10 = .ok (.iconst 4, 1) := by decide +kernel
theorem dX12_isPersonHere_11 : decode cX12_isPersonHere 11 = .ok (.iload_n 1, 1) := by decide +kernel
theorem dX12_isPersonHere_12 : decode cX12_isPersonHere 12 = .ok (.invokevirtual 141, 3) := by decide +kernel
theorem dX12_isPersonHere_15 : decode cX12_isPersonHere 15 = .ok (.ireturn, 1) := by decide +kernel
theorem dX12_isPersonHere_16 : decode cX12_isPersonHere 16 = .ok (.aload_n 0, 1) := by decide +kernel
theorem dX12_isPersonHere_17 : decode cX12_isPersonHere 17 = .ok (.invokevirtual 135, 3) := by decide +kernel
theorem dX12_isPersonHere_20 : decode cX12_isPersonHere 20 = .ok (.aload_n 0, 1) := by decide +kernel
theorem dX12_isPersonHere_21 : decode cX12_isPersonHere 21 = .ok (.iconst 0, 1) := by decide +kernel
theorem dX12_isPersonHere_22 : decode cX12_isPersonHere 22 = .ok (.aload_n 0, 1) := by decide +kernel
theorem dX12_isPersonHere_23 : decode cX12_isPersonHere 23 = .ok (.getfield 240, 3) := by decide +kernel
theorem dX12_isPersonHere_26 : decode cX12_isPersonHere 26 = .ok (.iconst 1, 1) := by decide +kernel
theorem dX12_isPersonHere_27 : decode cX12_isPersonHere 27 = .ok (.isub, 1) := by decide +kernel
theorem dX12_isPersonHere_28 : decode cX12_isPersonHere 28 = .ok (.invokevirtual 189, 3) := by decide +kernel
theorem dX12_isPersonHere_31 : decode cX12_isPersonHere 31 = .ok (.ifCond .ne 5, 3) := by decide +kernel
theorem dX12_isPersonHere_34 : decode cX12_isPersonHere 34 = .ok (.iconst 0, 1) := by decide +kernel
theorem dX12_isPersonHere_35 : decode cX12_isPersonHere 35 = .ok (.ireturn, 1) := by decide +kernel
theorem dX12_isPersonHere_36 : decode cX12_isPersonHere 36 = .ok (.aload_n 0, 1) := by decide +kernel
theorem dX12_isPersonHere_37 : decode cX12_isPersonHere 37 = .ok (.getfield 35, 3) := by decide +kernel
theorem dX12_isPersonHere_40 : decode cX12_isPersonHere 40 = .ok (.aload_n 0, 1) := by decide +kernel
theorem dX12_isPersonHere_41 : decode cX12_isPersonHere 41 = .ok (.getfield 246, 3) := by decide +kernel
theorem dX12_isPersonHere_44 : decode cX12_isPersonHere 44 = .ok (.aload_n 0, 1) := by decide +kernel
theorem dX12_isPersonHere_45 : decode cX12_isPersonHere 45 = .ok (.getfield 145, 3) := by decide +kernel
theorem dX12_isPersonHere_48 : decode cX12_isPersonHere 48 = .ok (.iastore, 1) := by decide +kernel
theorem dX12_isPersonHere_49 : decode cX12_isPersonHere 49 = .ok (.aload_n 0, 1) := by decide +kernel
theorem dX12_isPersonHere_50 : decode cX12_isPersonHere 50 = .ok (.dup, 1) := by decide +kernel
theorem dX12_isPersonHere_51 : decode cX12_isPersonHere 51 = .ok (.getfield 246, 3) := by decide +kernel
theorem dX12_isPersonHere_54 : decode cX12_isPersonHere 54 = .ok (.iconst 1, 1) := by decide +kernel
theorem dX12_isPersonHere_55 : decode cX12_isPersonHere 55 = .ok (.iadd, 1) := by decide +kernel
theorem dX12_isPersonHere_56 : decode cX12_isPersonHere 56 = .ok (.putfield 246, 3) := by decide +kernel
theorem dX12_isPersonHere_59 : decode cX12_isPersonHere 59 = .ok (.iconst 1, 1) := by decide +kernel
theorem dX12_isPersonHere_60 : decode cX12_isPersonHere 60 = .ok (.ireturn, 1) := by decide +kernel
theorem dX12_houseLineHere_0 : decode cX12_houseLineHere 0 = .ok (.aload_n 0, 1) := by decide +kernel
theorem dX12_houseLineHere_1 : decode cX12_houseLineHere 1 = .ok (.ldc2_w 156, 3) := by decide +kernel
theorem dX12_houseLineHere_4 : decode cX12_houseLineHere 4 = .ok (.invokevirtual 131, 3) := by decide +kernel
theorem dX12_houseLineHere_7 : decode cX12_houseLineHere 7 = .ok (.ifCond .eq 9, 3) := by decide +kernel
theorem dX12_houseLineHere_10 : decode cX12_houseLineHere 10 = .ok (.aload_n 0, 1) := by decide +kernel
theorem dX12_houseLineHere_11 : decode cX12_houseLineHere 11 = .ok (.iload_n 1, 1) := by decide +kernel
theorem dX12_houseLineHere_12 : decode cX12_houseLineHere 12 = .ok (.invokevirtual 249, 3) := by decide +kernel
theorem dX12_houseLineHere_15 : decode cX12_houseLineHere 15 = .ok (.ireturn, 1) := by decide +kernel
theorem dX12_houseLineHere_16 : decode cX12_houseLineHere 16 = .ok (.aload_n 0, 1) := by decide +kernel
theorem dX12_houseLineHere_17 : decode cX12_houseLineHere 17 = .ok (.ldc2_w 252, 3) := by decide +kernel
theorem dX12_houseLineHere_20 : decode cX12_houseLineHere 20 = .ok (.invokevirtual 131, 3) := by decide +kernel
theorem dX12_houseLineHere_23 : decode cX12_houseLineHere 23 = .ok (.ifCond .ne 13, 3) := by decide +kernel
theorem dX12_houseLineHere_26 : decode cX12_houseLineHere 26 = .ok (.aload_n 0, 1) := by decide +kernel
theorem dX12_houseLineHere_27 : decode cX12_houseLineHere 27 = .ok (.ldc2_w 254, 3) := by decide +kernel
theorem dX12_houseLineHere_30 : decode cX12_houseLineHere 30 = .ok (.invokevirtual 131, 3) := by decide +kernel
theorem dX12_houseLineHere_33 : decode cX12_houseLineHere 33 = .ok (.ifCond .eq 16, 3) := by decide +kernel
theorem dX12_houseLineHere_36 : decode cX12_houseLineHere 36 = .ok (.aload_n 0, 1) := by decide +kernel
theorem dX12_houseLineHere_37 : decode cX12_houseLineHere 37 = .ok (.aload_n 0, 1) := by decide +kernel
theorem dX12_houseLineHere_38 : decode cX12_houseLineHere 38 = .ok (.ldc2_w 254, 3) := by decide +kernel
theorem dX12_houseLineHere_41 : decode cX12_houseLineHere 41 = .ok (.invokevirtual 131, 3) := by decide +kernel
theorem dX12_houseLineHere_44 : decode cX12_houseLineHere 44 = .ok (.iload_n 1, 1) := by decide +kernel
theorem dX12_houseLineHere_45 : decode cX12_houseLineHere 45 = .ok (.invokevirtual 256, 3) := by decide +kernel
theorem dX12_houseLineHere_48 : decode cX12_houseLineHere 48 = .ok (.ireturn, 1) := by decide +kernel
theorem dX12_houseLineHere_49 : decode cX12_houseLineHere 49 = .ok (.aload_n 0, 1) := by decide +kernel
theorem dX12_houseLineHere_50 : decode cX12_houseLineHere 50 = .ok (.ldc2_w 260, 3) := by decide +kernel
theorem dX12_houseLineHere_53 : decode cX12_houseLineHere 53 = .ok (.invokevirtual 131, 3) := by decide +kernel
theorem dX12_houseLineHere_56 : decode cX12_houseLineHere 56 = .ok (.ifCond .eq 10, 3) := by decide +kernel
theorem dX12_houseLineHere_59 : decode cX12_houseLineHere 59 = .ok (.aload_n 0, 1) := by decide +kernel
theorem dX12_houseLineHere_60 : decode cX12_houseLineHere 60 = .ok (.invokevirtual 262, 3) := by decide +kernel
theorem dX12_houseLineHere_63 : decode cX12_houseLineHere 63 = .ok (.goto 26, 3) := by decide +kernel
theorem dX12_houseLineHere_66 : decode cX12_houseLineHere 66 = .ok (.aload_n 0, 1) := by decide +kernel
theorem dX12_houseLineHere_67 : decode cX12_houseLineHere 67 = .ok (.ldc2_w 265, 3) := by decide +kernel
theorem dX12_houseLineHere_70 : decode cX12_houseLineHere 70 = .ok (.invokevirtual 131, 3) := by decide +kernel
theorem dX12_houseLineHere_73 : decode cX12_houseLineHere 73 = .ok (.ifCond .eq 11, 3) := by decide +kernel
theorem dX12_houseLineHere_76 : decode cX12_houseLineHere 76 = .ok (.aload_n 0, 1) := by decide +kernel
theorem dX12_houseLineHere_77 : decode cX12_houseLineHere 77 = .ok (.iload_n 1, 1) := by decide +kernel
theorem dX12_houseLineHere_78 : decode cX12_houseLineHere 78 = .ok (.invokevirtual 267, 3) := by decide +kernel
theorem dX12_houseLineHere_81 : decode cX12_houseLineHere 81 = .ok (.goto 8, 3) := by decide +kernel
theorem dX12_houseLineHere_84 : decode cX12_houseLineHere 84 = .ok (.aload_n 0, 1) := by decide +kernel
theorem dX12_houseLineHere_85 : decode cX12_houseLineHere 85 = .ok (.iload_n 1, 1) := by decide +kernel
theorem dX12_houseLineHere_86 : decode cX12_houseLineHere 86 = .ok (.invokevirtual 270, 3) := by decide +kernel
theorem dX12_houseLineHere_89 : decode cX12_houseLineHere 89 = .ok (.ireturn, 1) := by decide +kernel
theorem dX12_isHouseWord_0 : decode cX12_isHouseWord 0 = .ok (.aload_n 0, 1) := by decide +kernel
theorem dX12_isHouseWord_1 : decode cX12_isHouseWord 1 = .ok (.ldc2_w 156, 3) := by decide +kernel
theorem dX12_isHouseWord_4 : decode cX12_isHouseWord 4 = .ok (.invokevirtual 131, 3) := by decide +kernel
theorem dX12_isHouseWord_7 : decode cX12_isHouseWord 7 = .ok (.ifCond .ne 53, 3) := by decide +kernel
theorem dX12_isHouseWord_10 : decode cX12_isHouseWord 10 = .ok (.aload_n 0, 1) := by decide +kernel
theorem dX12_isHouseWord_11 : decode cX12_isHouseWord 11 = .ok (.ldc2_w 252, 3) := by decide +kernel
theorem dX12_isHouseWord_14 : decode cX12_isHouseWord 14 = .ok (.invokevirtual 131, 3) := by decide +kernel
theorem dX12_isHouseWord_17 : decode cX12_isHouseWord 17 = .ok (.ifCond .ne 43, 3) := by decide +kernel
theorem dX12_isHouseWord_20 : decode cX12_isHouseWord 20 = .ok (.aload_n 0, 1) := by decide +kernel
theorem dX12_isHouseWord_21 : decode cX12_isHouseWord 21 = .ok (.ldc2_w 254, 3) := by decide +kernel
theorem dX12_isHouseWord_24 : decode cX12_isHouseWord 24 = .ok (.invokevirtual 131, 3) := by decide +kernel
theorem dX12_isHouseWord_27 : decode cX12_isHouseWord 27 = .ok (.ifCond .ne 33, 3) := by decide +kernel
theorem dX12_isHouseWord_30 : decode cX12_isHouseWord 30 = .ok (.aload_n 0, 1) := by decide +kernel
theorem dX12_isHouseWord_31 : decode cX12_isHouseWord 31 = .ok (.ldc2_w 260, 3) := by decide +kernel
theorem dX12_isHouseWord_34 : decode cX12_isHouseWord 34 = .ok (.invokevirtual 131, 3) := by decide +kernel
theorem dX12_isHouseWord_37 : decode cX12_isHouseWord 37 = .ok (.ifCond .ne 23, 3) := by decide +kernel
theorem dX12_isHouseWord_40 : decode cX12_isHouseWord 40 = .ok (.aload_n 0, 1) := by decide +kernel
theorem dX12_isHouseWord_41 : decode cX12_isHouseWord 41 = .ok (.ldc2_w 265, 3) := by decide +kernel
theorem dX12_isHouseWord_44 : decode cX12_isHouseWord 44 = .ok (.invokevirtual 131, 3) := by decide +kernel
theorem dX12_isHouseWord_47 : decode cX12_isHouseWord 47 = .ok (.ifCond .ne 13, 3) := by decide +kernel
theorem dX12_isHouseWord_50 : decode cX12_isHouseWord 50 = .ok (.aload_n 0, 1) := by decide +kernel
theorem dX12_isHouseWord_51 : decode cX12_isHouseWord 51 = .ok (.ldc2_w 154, 3) := by decide +kernel
theorem dX12_isHouseWord_54 : decode cX12_isHouseWord 54 = .ok (.invokevirtual 131, 3) := by decide +kernel
theorem dX12_isHouseWord_57 : decode cX12_isHouseWord 57 = .ok (.ifCond .eq 7, 3) := by decide +kernel
theorem dX12_isHouseWord_60 : decode cX12_isHouseWord 60 = .ok (.iconst 1, 1) := by decide +kernel
theorem dX12_isHouseWord_61 : decode cX12_isHouseWord 61 = .ok (.goto 4, 3) := by decide +kernel
theorem dX12_isHouseWord_64 : decode cX12_isHouseWord 64 = .ok (.iconst 0, 1) := by decide +kernel
theorem dX12_isHouseWord_65 : decode cX12_isHouseWord 65 = .ok (.ireturn, 1) := by decide +kernel
theorem dX12_clauseHere_0 : decode cX12_clauseHere 0 = .ok (.aload_n 0, 1) := by decide +kernel
theorem dX12_clauseHere_1 : decode cX12_clauseHere 1 = .ok (.invokevirtual 123, 3) := by decide +kernel
theorem dX12_clauseHere_4 : decode cX12_clauseHere 4 = .ok (.pop, 1) := by decide +kernel
theorem dX12_clauseHere_5 : decode cX12_clauseHere 5 = .ok (.aload_n 0, 1) := by decide +kernel
theorem dX12_clauseHere_6 : decode cX12_clauseHere 6 = .ok (.getfield 120, 3) := by decide +kernel
theorem dX12_clauseHere_9 : decode cX12_clauseHere 9 = .ok (.istore_n 1, 1) := by decide +kernel
theorem dX12_clauseHere_10 : decode cX12_clauseHere 10 = .ok (.aload_n 0, 1) := by decide +kernel
theorem dX12_clauseHere_11 : decode cX12_clauseHere 11 = .ok (.getfield 168, 3) := by decide +kernel
theorem dX12_clauseHere_14 : decode cX12_clauseHere 14 = .ok (.bipush 6, 2) := by decide +kernel
theorem dX12_clauseHere_16 : decode cX12_clauseHere 16 = .ok (.if_icmp .ne 7, 3) := by decide +kernel
theorem dX12_clauseHere_19 : decode cX12_clauseHere 19 = .ok (.iconst 1, 1) := by decide +kernel
theorem dX12_clauseHere_20 : decode cX12_clauseHere 20 = .ok (.goto 4, 3) := by decide +kernel
theorem dX12_clauseHere_23 : decode cX12_clauseHere 23 = .ok (.iconst 0, 1) := by decide +kernel
theorem dX12_clauseHere_24 : decode cX12_clauseHere 24 = .ok (.istore_n 2, 1) := by decide +kernel
theorem dX12_clauseHere_25 : decode cX12_clauseHere 25 = .ok (.iload_n 2, 1) := by decide +kernel
theorem dX12_clauseHere_26 : decode cX12_clauseHere 26 = .ok (.ifCond .eq 13, 3) := by decide +kernel
theorem dX12_clauseHere_29 : decode cX12_clauseHere 29 = .ok (.aload_n 0, 1) := by decide +kernel
theorem dX12_clauseHere_30 : decode cX12_clauseHere 30 = .ok (.invokevirtual 273, 3) := by decide +kernel
theorem dX12_clauseHere_33 : decode cX12_clauseHere 33 = .ok (.ifCond .eq 36, 3) := by decide +kernel
theorem dX12_clauseHere_36 : decode cX12_clauseHere 36 = .ok (.goto 40, 3) := by decide +kernel
theorem dX12_clauseHere_39 : decode cX12_clauseHere 39 = .ok (.aload_n 0, 1) := by decide +kernel
theorem dX12_clauseHere_40 : decode cX12_clauseHere 40 = .ok (.ldc2_w 276, 3) := by decide +kernel
theorem dX12_clauseHere_43 : decode cX12_clauseHere 43 = .ok (.invokevirtual 131, 3) := by decide +kernel
theorem dX12_clauseHere_46 : decode cX12_clauseHere 46 = .ok (.ifCond .ne 30, 3) := by decide +kernel
theorem dX12_clauseHere_49 : decode cX12_clauseHere 49 = .ok (.aload_n 0, 1) := by decide +kernel
theorem dX12_clauseHere_50 : decode cX12_clauseHere 50 = .ok (.ldc2_w 278, 3) := by decide +kernel
theorem dX12_clauseHere_53 : decode cX12_clauseHere 53 = .ok (.invokevirtual 131, 3) := by decide +kernel
theorem dX12_clauseHere_56 : decode cX12_clauseHere 56 = .ok (.ifCond .ne 20, 3) := by decide +kernel
theorem dX12_clauseHere_59 : decode cX12_clauseHere 59 = .ok (.aload_n 0, 1) := by decide +kernel
theorem dX12_clauseHere_60 : decode cX12_clauseHere 60 = .ok (.ldc2_w 280, 3) := by decide +kernel
theorem dX12_clauseHere_63 : decode cX12_clauseHere 63 = .ok (.invokevirtual 131, 3) := by decide +kernel
theorem dX12_clauseHere_66 : decode cX12_clauseHere 66 = .ok (.ifCond .ne 10, 3) := by decide +kernel
theorem dX12_clauseHere_69 : decode cX12_clauseHere 69 = .ok (.aload_n 0, 1) := by decide +kernel
theorem dX12_clauseHere_70 : decode cX12_clauseHere 70 = .ok (.iconst 0, 1) := by decide +kernel
theorem dX12_clauseHere_71 : decode cX12_clauseHere 71 = .ok (.iload_n 1, 1) := by decide +kernel
theorem dX12_clauseHere_72 : decode cX12_clauseHere 72 = .ok (.invokevirtual 141, 3) := by decide +kernel
theorem dX12_clauseHere_75 : decode cX12_clauseHere 75 = .ok (.ireturn, 1) := by decide +kernel
theorem dX12_clauseHere_76 : decode cX12_clauseHere 76 = .ok (.aload_n 0, 1) := by decide +kernel
theorem dX12_clauseHere_77 : decode cX12_clauseHere 77 = .ok (.getfield 282, 3) := by decide +kernel
theorem dX12_clauseHere_80 : decode cX12_clauseHere 80 = .ok (.iload_n 2, 1) := by decide +kernel
theorem dX12_clauseHere_81 : decode cX12_clauseHere 81 = .ok (.ifCond .eq 8, 3) := by decide +kernel
theorem dX12_clauseHere_84 : decode cX12_clauseHere 84 = .ok (.bipush 40, 2) := by decide +kernel
theorem dX12_clauseHere_86 : decode cX12_clauseHere 86 = .ok (.goto 5, 3) := by decide +kernel
theorem dX12_clauseHere_89 : decode cX12_clauseHere 89 = .ok (.bipush 12, 2) := by decide +kernel
theorem dX12_clauseHere_91 : decode cX12_clauseHere 91 = .ok (.if_icmp .ne 10, 3) := by decide +kernel
theorem dX12_clauseHere_94 : decode cX12_clauseHere 94 = .ok (.aload_n 0, 1) := by decide +kernel
theorem dX12_clauseHere_95 : decode cX12_clauseHere 95 = .ok (.iconst 4, 1) := by decide +kernel
theorem dX12_clauseHere_96 : decode cX12_clauseHere 96 = .ok (.iload_n 1, 1) := by decide +kernel
theorem dX12_clauseHere_97 : decode cX12_clauseHere 97 = .ok (.invokevirtual 141, 3) := by decide +kernel
theorem dX12_clauseHere_100 : decode cX12_clauseHere 100 = .ok (.ireturn, 1) := by decide +kernel
theorem dX12_clauseHere_101 : decode cX12_clauseHere 101 = .ok (.aload_n 0, 1) := by decide +kernel
theorem dX12_clauseHere_102 : decode cX12_clauseHere 102 = .ok (.dup, 1) := by decide +kernel
theorem dX12_clauseHere_103 : decode cX12_clauseHere 103 = .ok (.getfield 282, 3) := by decide +kernel
theorem dX12_clauseHere_106 : decode cX12_clauseHere 106 = .ok (.iconst 1, 1) := by decide +kernel
theorem dX12_clauseHere_107 : decode cX12_clauseHere 107 = .ok (.iadd, 1) := by decide +kernel
theorem dX12_clauseHere_108 : decode cX12_clauseHere 108 = .ok (.putfield 282, 3) := by decide +kernel
theorem dX12_clauseHere_111 : decode cX12_clauseHere 111 = .ok (.iload_n 2, 1) := by decide +kernel
theorem dX12_clauseHere_112 : decode cX12_clauseHere 112 = .ok (.ifCond .eq 9, 3) := by decide +kernel
theorem dX12_clauseHere_115 : decode cX12_clauseHere 115 = .ok (.aload_n 0, 1) := by decide +kernel
theorem dX12_clauseHere_116 : decode cX12_clauseHere 116 = .ok (.iload_n 1, 1) := by decide +kernel
theorem dX12_clauseHere_117 : decode cX12_clauseHere 117 = .ok (.invokevirtual 285, 3) := by decide +kernel
theorem dX12_clauseHere_120 : decode cX12_clauseHere 120 = .ok (.ireturn, 1) := by decide +kernel
theorem dX12_clauseHere_121 : decode cX12_clauseHere 121 = .ok (.aload_n 0, 1) := by decide +kernel
theorem dX12_clauseHere_122 : decode cX12_clauseHere 122 = .ok (.aload_n 0, 1) := by decide +kernel
theorem dX12_clauseHere_123 : decode cX12_clauseHere 123 = .ok (.ldc2_w 276, 3) := by decide +kernel
theorem dX12_clauseHere_126 : decode cX12_clauseHere 126 = .ok (.invokevirtual 131, 3) := by decide +kernel
theorem dX12_clauseHere_129 : decode cX12_clauseHere 129 = .ok (.ifCond .eq 7, 3) := by decide +kernel
theorem dX12_clauseHere_132 : decode cX12_clauseHere 132 = .ok (.iconst 0, 1) := by decide +kernel
theorem dX12_clauseHere_133 : decode cX12_clauseHere 133 = .ok (.goto 18, 3) := by decide +kernel
theorem dX12_clauseHere_136 : decode cX12_clauseHere 136 = .ok (.aload_n 0, 1) := by decide +kernel
theorem dX12_clauseHere_137 : decode cX12_clauseHere 137 = .ok (.ldc2_w 278, 3) := by decide +kernel
theorem dX12_clauseHere_140 : decode cX12_clauseHere 140 = .ok (.invokevirtual 131, 3) := by decide +kernel
theorem dX12_clauseHere_143 : decode cX12_clauseHere 143 = .ok (.ifCond .eq 7, 3) := by decide +kernel
theorem dX12_clauseHere_146 : decode cX12_clauseHere 146 = .ok (.iconst 1, 1) := by decide +kernel
theorem dX12_clauseHere_147 : decode cX12_clauseHere 147 = .ok (.goto 4, 3) := by decide +kernel
theorem dX12_clauseHere_150 : decode cX12_clauseHere 150 = .ok (.iconst 2, 1) := by decide +kernel
theorem dX12_clauseHere_151 : decode cX12_clauseHere 151 = .ok (.invokevirtual 288, 3) := by decide +kernel
theorem dX12_clauseHere_154 : decode cX12_clauseHere 154 = .ok (.ireturn, 1) := by decide +kernel
theorem dX12_readsAll_0 : decode cX12_readsAll 0 = .ok (.aload_n 0, 1) := by decide +kernel
theorem dX12_readsAll_1 : decode cX12_readsAll 1 = .ok (.getfield 17, 3) := by decide +kernel
theorem dX12_readsAll_4 : decode cX12_readsAll 4 = .ok (.aload_n 0, 1) := by decide +kernel
theorem dX12_readsAll_5 : decode cX12_readsAll 5 = .ok (.getfield 168, 3) := by decide +kernel
theorem dX12_readsAll_8 : decode cX12_readsAll 8 = .ok (.iconst 0, 1) := by decide +kernel
theorem dX12_readsAll_9 : decode cX12_readsAll 9 = .ok (.iastore, 1) := by decide +kernel
theorem dX12_readsAll_10 : decode cX12_readsAll 10 = .ok (.aload_n 0, 1) := by decide +kernel
theorem dX12_readsAll_11 : decode cX12_readsAll 11 = .ok (.iconst 0, 1) := by decide +kernel
theorem dX12_readsAll_12 : decode cX12_readsAll 12 = .ok (.putfield 282, 3) := by decide +kernel
theorem dX12_readsAll_15 : decode cX12_readsAll 15 = .ok (.aload_n 0, 1) := by decide +kernel
theorem dX12_readsAll_16 : decode cX12_readsAll 16 = .ok (.iconst 0, 1) := by decide +kernel
theorem dX12_readsAll_17 : decode cX12_readsAll 17 = .ok (.putfield 120, 3) := by decide +kernel
theorem dX12_readsAll_20 : decode cX12_readsAll 20 = .ok (.aload_n 0, 1) := by decide +kernel
theorem dX12_readsAll_21 : decode cX12_readsAll 21 = .ok (.iconst 0, 1) := by decide +kernel
theorem dX12_readsAll_22 : decode cX12_readsAll 22 = .ok (.putfield 117, 3) := by decide +kernel
theorem dX12_readsAll_25 : decode cX12_readsAll 25 = .ok (.aload_n 0, 1) := by decide +kernel
theorem dX12_readsAll_26 : decode cX12_readsAll 26 = .ok (.iconst 0, 1) := by decide +kernel
theorem dX12_readsAll_27 : decode cX12_readsAll 27 = .ok (.putfield 171, 3) := by decide +kernel
theorem dX12_readsAll_30 : decode cX12_readsAll 30 = .ok (.aload_n 0, 1) := by decide +kernel
theorem dX12_readsAll_31 : decode cX12_readsAll 31 = .ok (.invokevirtual 291, 3) := by decide +kernel
theorem dX12_readsAll_34 : decode cX12_readsAll 34 = .ok (.istore_n 1, 1) := by decide +kernel
theorem dX12_readsAll_35 : decode cX12_readsAll 35 = .ok (.iload_n 1, 1) := by decide +kernel
theorem dX12_readsAll_36 : decode cX12_readsAll 36 = .ok (.ifCond .eq 30, 3) := by decide +kernel
theorem dX12_readsAll_39 : decode cX12_readsAll 39 = .ok (.aload_n 0, 1) := by decide +kernel
theorem dX12_readsAll_40 : decode cX12_readsAll 40 = .ok (.invokevirtual 123, 3) := by decide +kernel
theorem dX12_readsAll_43 : decode cX12_readsAll 43 = .ok (.bipush 59, 2) := by decide +kernel
theorem dX12_readsAll_45 : decode cX12_readsAll 45 = .ok (.if_icmp .ne 21, 3) := by decide +kernel
theorem dX12_readsAll_48 : decode cX12_readsAll 48 = .ok (.aload_n 0, 1) := by decide +kernel
theorem dX12_readsAll_49 : decode cX12_readsAll 49 = .ok (.dup, 1) := by decide +kernel
theorem dX12_readsAll_50 : decode cX12_readsAll 50 = .ok (.getfield 120, 3) := by decide +kernel
theorem dX12_readsAll_53 : decode cX12_readsAll 53 = .ok (.iconst 1, 1) := by decide +kernel
theorem dX12_readsAll_54 : decode cX12_readsAll 54 = .ok (.iadd, 1) := by decide +kernel
theorem dX12_readsAll_55 : decode cX12_readsAll 55 = .ok (.putfield 120, 3) := by decide +kernel
theorem dX12_readsAll_58 : decode cX12_readsAll 58 = .ok (.aload_n 0, 1) := by decide +kernel
theorem dX12_readsAll_59 : decode cX12_readsAll 59 = .ok (.invokevirtual 291, 3) := by decide +kernel
theorem dX12_readsAll_62 : decode cX12_readsAll 62 = .ok (.istore_n 1, 1) := by decide +kernel
theorem dX12_readsAll_63 : decode cX12_readsAll 63 = .ok (.goto (-28), 3) := by decide +kernel
theorem dX12_readsAll_66 : decode cX12_readsAll 66 = .ok (.iload_n 1, 1) := by decide +kernel
theorem dX12_readsAll_67 : decode cX12_readsAll 67 = .ok (.ifCond .eq 21, 3) := by decide +kernel
theorem dX12_readsAll_70 : decode cX12_readsAll 70 = .ok (.aload_n 0, 1) := by decide +kernel
theorem dX12_readsAll_71 : decode cX12_readsAll 71 = .ok (.invokevirtual 123, 3) := by decide +kernel
theorem dX12_readsAll_74 : decode cX12_readsAll 74 = .ok (.iconst (-1), 1) := by decide +kernel
theorem dX12_readsAll_75 : decode cX12_readsAll 75 = .ok (.if_icmp .eq 13, 3) := by decide +kernel
theorem dX12_readsAll_78 : decode cX12_readsAll 78 = .ok (.aload_n 0, 1) := by decide +kernel
theorem dX12_readsAll_79 : decode cX12_readsAll 79 = .ok (.iconst 0, 1) := by decide +kernel
theorem dX12_readsAll_80 : decode cX12_readsAll 80 = .ok (.aload_n 0, 1) := by decide +kernel
theorem dX12_readsAll_81 : decode cX12_readsAll 81 = .ok (.getfield 120, 3) := by decide +kernel
theorem dX12_readsAll_84 : decode cX12_readsAll 84 = .ok (.invokevirtual 141, 3) := by decide +kernel
theorem dX12_readsAll_87 : decode cX12_readsAll 87 = .ok (.istore_n 1, 1) := by decide +kernel
theorem dX12_readsAll_88 : decode cX12_readsAll 88 = .ok (.iload_n 1, 1) := by decide +kernel
theorem dX12_readsAll_89 : decode cX12_readsAll 89 = .ok (.ifCond .eq 29, 3) := by decide +kernel
theorem dX12_readsAll_92 : decode cX12_readsAll 92 = .ok (.aload_n 0, 1) := by decide +kernel
theorem dX12_readsAll_93 : decode cX12_readsAll 93 = .ok (.getfield 168, 3) := by decide +kernel
theorem dX12_readsAll_96 : decode cX12_readsAll 96 = .ok (.bipush 6, 2) := by decide +kernel
theorem dX12_readsAll_98 : decode cX12_readsAll 98 = .ok (.if_icmp .ne 20, 3) := by decide +kernel
theorem dX12_readsAll_101 : decode cX12_readsAll 101 = .ok (.aload_n 0, 1) := by decide +kernel
theorem dX12_readsAll_102 : decode cX12_readsAll 102 = .ok (.getfield 240, 3) := by decide +kernel
theorem dX12_readsAll_105 : decode cX12_readsAll 105 = .ok (.ifCond .ne 13, 3) := by decide +kernel
theorem dX12_readsAll_108 : decode cX12_readsAll 108 = .ok (.aload_n 0, 1) := by decide +kernel
theorem dX12_readsAll_109 : decode cX12_readsAll 109 = .ok (.iconst 0, 1) := by decide +kernel
theorem dX12_readsAll_110 : decode cX12_readsAll 110 = .ok (.aload_n 0, 1) := by decide +kernel
theorem dX12_readsAll_111 : decode cX12_readsAll 111 = .ok (.getfield 120, 3) := by decide +kernel
theorem dX12_readsAll_114 : decode cX12_readsAll 114 = .ok (.invokevirtual 141, 3) := by decide +kernel
theorem dX12_readsAll_117 : decode cX12_readsAll 117 = .ok (.pop, 1) := by decide +kernel
theorem dX12_readsAll_118 : decode cX12_readsAll 118 = .ok (.aload_n 0, 1) := by decide +kernel
theorem dX12_readsAll_119 : decode cX12_readsAll 119 = .ok (.iconst 0, 1) := by decide +kernel
theorem dX12_readsAll_120 : decode cX12_readsAll 120 = .ok (.putfield 109, 3) := by decide +kernel
theorem dX12_readsAll_123 : decode cX12_readsAll 123 = .ok (.aload_n 0, 1) := by decide +kernel
theorem dX12_readsAll_124 : decode cX12_readsAll 124 = .ok (.getfield 117, 3) := by decide +kernel
theorem dX12_readsAll_127 : decode cX12_readsAll 127 = .ok (.ifCond .ne 7, 3) := by decide +kernel
theorem dX12_readsAll_130 : decode cX12_readsAll 130 = .ok (.iconst 1, 1) := by decide +kernel
theorem dX12_readsAll_131 : decode cX12_readsAll 131 = .ok (.goto 4, 3) := by decide +kernel
theorem dX12_readsAll_134 : decode cX12_readsAll 134 = .ok (.iconst 0, 1) := by decide +kernel
theorem dX12_readsAll_135 : decode cX12_readsAll 135 = .ok (.ireturn, 1) := by decide +kernel
theorem dX12_rule_0 : decode cX12_rule 0 = .ok (.aload_n 0, 1) := by decide +kernel
theorem dX12_rule_1 : decode cX12_rule 1 = .ok (.getfield 294, 3) := by decide +kernel
theorem dX12_rule_4 : decode cX12_rule 4 = .ok (.bipush 6, 2) := by decide +kernel
theorem dX12_rule_6 : decode cX12_rule 6 = .ok (.if_icmp .ne 5, 3) := by decide +kernel
theorem dX12_rule_9 : decode cX12_rule 9 = .ok (.iconst (-1), 1) := by decide +kernel
theorem dX12_rule_10 : decode cX12_rule 10 = .ok (.ireturn, 1) := by decide +kernel
theorem dX12_rule_11 : decode cX12_rule 11 = .ok (.aload_n 0, 1) := by decide +kernel
theorem dX12_rule_12 : decode cX12_rule 12 = .ok (.aload_n 0, 1) := by decide +kernel
theorem dX12_rule_13 : decode cX12_rule 13 = .ok (.getfield 294, 3) := by decide +kernel
theorem dX12_rule_16 : decode cX12_rule 16 = .ok (.putfield 168, 3) := by decide +kernel
theorem dX12_rule_19 : decode cX12_rule 19 = .ok (.aload_n 0, 1) := by decide +kernel
theorem dX12_rule_20 : decode cX12_rule 20 = .ok (.getfield 23, 3) := by decide +kernel
theorem dX12_rule_23 : decode cX12_rule 23 = .ok (.aload_n 0, 1) := by decide +kernel
theorem dX12_rule_24 : decode cX12_rule 24 = .ok (.getfield 168, 3) := by decide +kernel
theorem dX12_rule_27 : decode cX12_rule 27 = .ok (.iconst 0, 1) := by decide +kernel
theorem dX12_rule_28 : decode cX12_rule 28 = .ok (.iastore, 1) := by decide +kernel
theorem dX12_rule_29 : decode cX12_rule 29 = .ok (.aload_n 0, 1) := by decide +kernel
theorem dX12_rule_30 : decode cX12_rule 30 = .ok (.invokevirtual 297, 3) := by decide +kernel
theorem dX12_rule_33 : decode cX12_rule 33 = .ok (.ifCond .ne 11, 3) := by decide +kernel
theorem dX12_rule_36 : decode cX12_rule 36 = .ok (.bipush (-2), 2) := by decide +kernel
theorem dX12_rule_38 : decode cX12_rule 38 = .ok (.aload_n 0, 1) := by decide +kernel
theorem dX12_rule_39 : decode cX12_rule 39 = .ok (.getfield 117, 3) := by decide +kernel
theorem dX12_rule_42 : decode cX12_rule 42 = .ok (.isub, 1) := by decide +kernel
theorem dX12_rule_43 : decode cX12_rule 43 = .ok (.ireturn, 1) := by decide +kernel
theorem dX12_rule_44 : decode cX12_rule 44 = .ok (.aload_n 0, 1) := by decide +kernel
theorem dX12_rule_45 : decode cX12_rule 45 = .ok (.dup, 1) := by decide +kernel
theorem dX12_rule_46 : decode cX12_rule 46 = .ok (.getfield 294, 3) := by decide +kernel
theorem dX12_rule_49 : decode cX12_rule 49 = .ok (.iconst 1, 1) := by decide +kernel
theorem dX12_rule_50 : decode cX12_rule 50 = .ok (.iadd, 1) := by decide +kernel
theorem dX12_rule_51 : decode cX12_rule 51 = .ok (.putfield 294, 3) := by decide +kernel
theorem dX12_rule_54 : decode cX12_rule 54 = .ok (.aload_n 0, 1) := by decide +kernel
theorem dX12_rule_55 : decode cX12_rule 55 = .ok (.getfield 294, 3) := by decide +kernel
theorem dX12_rule_58 : decode cX12_rule 58 = .ok (.iconst 1, 1) := by decide +kernel
theorem dX12_rule_59 : decode cX12_rule 59 = .ok (.isub, 1) := by decide +kernel
theorem dX12_rule_60 : decode cX12_rule 60 = .ok (.ireturn, 1) := by decide +kernel
theorem dX12_house_0 : decode cX12_house 0 = .ok (.aload_n 0, 1) := by decide +kernel
theorem dX12_house_1 : decode cX12_house 1 = .ok (.bipush 6, 2) := by decide +kernel
theorem dX12_house_3 : decode cX12_house 3 = .ok (.putfield 168, 3) := by decide +kernel
theorem dX12_house_6 : decode cX12_house 6 = .ok (.aload_n 0, 1) := by decide +kernel
theorem dX12_house_7 : decode cX12_house 7 = .ok (.iconst 0, 1) := by decide +kernel
theorem dX12_house_8 : decode cX12_house 8 = .ok (.putfield 240, 3) := by decide +kernel
theorem dX12_house_11 : decode cX12_house 11 = .ok (.aload_n 0, 1) := by decide +kernel
theorem dX12_house_12 : decode cX12_house 12 = .ok (.iconst 0, 1) := by decide +kernel
theorem dX12_house_13 : decode cX12_house 13 = .ok (.putfield 243, 3) := by decide +kernel
theorem dX12_house_16 : decode cX12_house 16 = .ok (.aload_n 0, 1) := by decide +kernel
theorem dX12_house_17 : decode cX12_house 17 = .ok (.iconst 0, 1) := by decide +kernel
theorem dX12_house_18 : decode cX12_house 18 = .ok (.putfield 246, 3) := by decide +kernel
theorem dX12_house_21 : decode cX12_house 21 = .ok (.aload_n 0, 1) := by decide +kernel
theorem dX12_house_22 : decode cX12_house 22 = .ok (.getfield 26, 3) := by decide +kernel
theorem dX12_house_25 : decode cX12_house 25 = .ok (.iconst 0, 1) := by decide +kernel
theorem dX12_house_26 : decode cX12_house 26 = .ok (.iconst 0, 1) := by decide +kernel
theorem dX12_house_27 : decode cX12_house 27 = .ok (.iastore, 1) := by decide +kernel
theorem dX12_house_28 : decode cX12_house 28 = .ok (.aload_n 0, 1) := by decide +kernel
theorem dX12_house_29 : decode cX12_house 29 = .ok (.getfield 26, 3) := by decide +kernel
theorem dX12_house_32 : decode cX12_house 32 = .ok (.iconst 1, 1) := by decide +kernel
theorem dX12_house_33 : decode cX12_house 33 = .ok (.iconst 0, 1) := by decide +kernel
theorem dX12_house_34 : decode cX12_house 34 = .ok (.iastore, 1) := by decide +kernel
theorem dX12_house_35 : decode cX12_house 35 = .ok (.aload_n 0, 1) := by decide +kernel
theorem dX12_house_36 : decode cX12_house 36 = .ok (.getfield 26, 3) := by decide +kernel
theorem dX12_house_39 : decode cX12_house 39 = .ok (.iconst 2, 1) := by decide +kernel
theorem dX12_house_40 : decode cX12_house 40 = .ok (.iconst 0, 1) := by decide +kernel
theorem dX12_house_41 : decode cX12_house 41 = .ok (.iastore, 1) := by decide +kernel
theorem dX12_house_42 : decode cX12_house 42 = .ok (.aload_n 0, 1) := by decide +kernel
theorem dX12_house_43 : decode cX12_house 43 = .ok (.invokevirtual 297, 3) := by decide +kernel
theorem dX12_house_46 : decode cX12_house 46 = .ok (.ifCond .ne 11, 3) := by decide +kernel
theorem dX12_house_49 : decode cX12_house 49 = .ok (.bipush (-2), 2) := by decide +kernel
theorem dX12_house_51 : decode cX12_house 51 = .ok (.aload_n 0, 1) := by decide +kernel
theorem dX12_house_52 : decode cX12_house 52 = .ok (.getfield 117, 3) := by decide +kernel
theorem dX12_house_55 : decode cX12_house 55 = .ok (.isub, 1) := by decide +kernel
theorem dX12_house_56 : decode cX12_house 56 = .ok (.ireturn, 1) := by decide +kernel
theorem dX12_house_57 : decode cX12_house 57 = .ok (.aload_n 0, 1) := by decide +kernel
theorem dX12_house_58 : decode cX12_house 58 = .ok (.getfield 48, 3) := by decide +kernel
theorem dX12_house_61 : decode cX12_house 61 = .ok (.iconst 0, 1) := by decide +kernel
theorem dX12_house_62 : decode cX12_house 62 = .ok (.aload_n 0, 1) := by decide +kernel
theorem dX12_house_63 : decode cX12_house 63 = .ok (.getfield 240, 3) := by decide +kernel
theorem dX12_house_66 : decode cX12_house 66 = .ok (.iastore, 1) := by decide +kernel
theorem dX12_house_67 : decode cX12_house 67 = .ok (.aload_n 0, 1) := by decide +kernel
theorem dX12_house_68 : decode cX12_house 68 = .ok (.getfield 48, 3) := by decide +kernel
theorem dX12_house_71 : decode cX12_house 71 = .ok (.iconst 1, 1) := by decide +kernel
theorem dX12_house_72 : decode cX12_house 72 = .ok (.aload_n 0, 1) := by decide +kernel
theorem dX12_house_73 : decode cX12_house 73 = .ok (.getfield 243, 3) := by decide +kernel
theorem dX12_house_76 : decode cX12_house 76 = .ok (.iastore, 1) := by decide +kernel
theorem dX12_house_77 : decode cX12_house 77 = .ok (.aload_n 0, 1) := by decide +kernel
theorem dX12_house_78 : decode cX12_house 78 = .ok (.getfield 48, 3) := by decide +kernel
theorem dX12_house_81 : decode cX12_house 81 = .ok (.iconst 2, 1) := by decide +kernel
theorem dX12_house_82 : decode cX12_house 82 = .ok (.aload_n 0, 1) := by decide +kernel
theorem dX12_house_83 : decode cX12_house 83 = .ok (.getfield 246, 3) := by decide +kernel
theorem dX12_house_86 : decode cX12_house 86 = .ok (.iastore, 1) := by decide +kernel
theorem dX12_house_87 : decode cX12_house 87 = .ok (.aload_n 0, 1) := by decide +kernel
theorem dX12_house_88 : decode cX12_house 88 = .ok (.getfield 48, 3) := by decide +kernel
theorem dX12_house_91 : decode cX12_house 91 = .ok (.iconst 3, 1) := by decide +kernel
theorem dX12_house_92 : decode cX12_house 92 = .ok (.iconst 0, 1) := by decide +kernel
theorem dX12_house_93 : decode cX12_house 93 = .ok (.iastore, 1) := by decide +kernel
theorem dX12_house_94 : decode cX12_house 94 = .ok (.iconst 0, 1) := by decide +kernel
theorem dX12_house_95 : decode cX12_house 95 = .ok (.istore_n 1, 1) := by decide +kernel
theorem dX12_house_96 : decode cX12_house 96 = .ok (.iload_n 1, 1) := by decide +kernel
theorem dX12_house_97 : decode cX12_house 97 = .ok (.iconst 3, 1) := by decide +kernel
theorem dX12_house_98 : decode cX12_house 98 = .ok (.if_icmp .ge 23, 3) := by decide +kernel
theorem dX12_house_101 : decode cX12_house 101 = .ok (.aload_n 0, 1) := by decide +kernel
theorem dX12_house_102 : decode cX12_house 102 = .ok (.getfield 48, 3) := by decide +kernel
theorem dX12_house_105 : decode cX12_house 105 = .ok (.iconst 4, 1) := by decide +kernel
theorem dX12_house_106 : decode cX12_house 106 = .ok (.iload_n 1, 1) := by decide +kernel
theorem dX12_house_107 : decode cX12_house 107 = .ok (.iadd, 1) := by decide +kernel
theorem dX12_house_108 : decode cX12_house 108 = .ok (.aload_n 0, 1) := by decide +kernel
theorem dX12_house_109 : decode cX12_house 109 = .ok (.getfield 26, 3) := by decide +kernel
theorem dX12_house_112 : decode cX12_house 112 = .ok (.iload_n 1, 1) := by decide +kernel
theorem dX12_house_113 : decode cX12_house 113 = .ok (.iaload, 1) := by decide +kernel
theorem dX12_house_114 : decode cX12_house 114 = .ok (.iastore, 1) := by decide +kernel
theorem dX12_house_115 : decode cX12_house 115 = .ok (.iinc 1 1, 3) := by decide +kernel
theorem dX12_house_118 : decode cX12_house 118 = .ok (.goto (-22), 3) := by decide +kernel
theorem dX12_house_121 : decode cX12_house 121 = .ok (.aload_n 0, 1) := by decide +kernel
theorem dX12_house_122 : decode cX12_house 122 = .ok (.getfield 48, 3) := by decide +kernel
theorem dX12_house_125 : decode cX12_house 125 = .ok (.bipush 7, 2) := by decide +kernel
theorem dX12_house_127 : decode cX12_house 127 = .ok (.iconst 0, 1) := by decide +kernel
theorem dX12_house_128 : decode cX12_house 128 = .ok (.iastore, 1) := by decide +kernel
theorem dX12_house_129 : decode cX12_house 129 = .ok (.aload_n 0, 1) := by decide +kernel
theorem dX12_house_130 : decode cX12_house 130 = .ok (.getfield 48, 3) := by decide +kernel
theorem dX12_house_133 : decode cX12_house 133 = .ok (.bipush 8, 2) := by decide +kernel
theorem dX12_house_135 : decode cX12_house 135 = .ok (.iconst 0, 1) := by decide +kernel
theorem dX12_house_136 : decode cX12_house 136 = .ok (.iastore, 1) := by decide +kernel
theorem dX12_house_137 : decode cX12_house 137 = .ok (.iconst 0, 1) := by decide +kernel
theorem dX12_house_138 : decode cX12_house 138 = .ok (.istore_n 1, 1) := by decide +kernel
theorem dX12_house_139 : decode cX12_house 139 = .ok (.iload_n 1, 1) := by decide +kernel
theorem dX12_house_140 : decode cX12_house 140 = .ok (.aload_n 0, 1) := by decide +kernel
theorem dX12_house_141 : decode cX12_house 141 = .ok (.getfield 240, 3) := by decide +kernel
theorem dX12_house_144 : decode cX12_house 144 = .ok (.if_icmp .ge 24, 3) := by decide +kernel
theorem dX12_house_147 : decode cX12_house 147 = .ok (.aload_n 0, 1) := by decide +kernel
theorem dX12_house_148 : decode cX12_house 148 = .ok (.getfield 48, 3) := by decide +kernel
theorem dX12_house_151 : decode cX12_house 151 = .ok (.bipush 12, 2) := by decide +kernel
theorem dX12_house_153 : decode cX12_house 153 = .ok (.iload_n 1, 1) := by decide +kernel
theorem dX12_house_154 : decode cX12_house 154 = .ok (.iadd, 1) := by decide +kernel
theorem dX12_house_155 : decode cX12_house 155 = .ok (.aload_n 0, 1) := by decide +kernel
theorem dX12_house_156 : decode cX12_house 156 = .ok (.getfield 29, 3) := by decide +kernel
theorem dX12_house_159 : decode cX12_house 159 = .ok (.iload_n 1, 1) := by decide +kernel
theorem dX12_house_160 : decode cX12_house 160 = .ok (.iaload, 1) := by decide +kernel
theorem dX12_house_161 : decode cX12_house 161 = .ok (.iastore, 1) := by decide +kernel
theorem dX12_house_162 : decode cX12_house 162 = .ok (.iinc 1 1, 3) := by decide +kernel
theorem dX12_house_165 : decode cX12_house 165 = .ok (.goto (-26), 3) := by decide +kernel
theorem dX12_house_168 : decode cX12_house 168 = .ok (.iconst 0, 1) := by decide +kernel
theorem dX12_house_169 : decode cX12_house 169 = .ok (.istore_n 1, 1) := by decide +kernel
theorem dX12_house_170 : decode cX12_house 170 = .ok (.iload_n 1, 1) := by decide +kernel
theorem dX12_house_171 : decode cX12_house 171 = .ok (.bipush 6, 2) := by decide +kernel
theorem dX12_house_173 : decode cX12_house 173 = .ok (.aload_n 0, 1) := by decide +kernel
theorem dX12_house_174 : decode cX12_house 174 = .ok (.getfield 243, 3) := by decide +kernel
theorem dX12_house_177 : decode cX12_house 177 = .ok (.imul, 1) := by decide +kernel
theorem dX12_house_178 : decode cX12_house 178 = .ok (.if_icmp .ge 24, 3) := by decide +kernel
theorem dX12_house_181 : decode cX12_house 181 = .ok (.aload_n 0, 1) := by decide +kernel
theorem dX12_house_182 : decode cX12_house 182 = .ok (.getfield 48, 3) := by decide +kernel
theorem dX12_house_185 : decode cX12_house 185 = .ok (.bipush 28, 2) := by decide +kernel
theorem dX12_house_187 : decode cX12_house 187 = .ok (.iload_n 1, 1) := by decide +kernel
theorem dX12_house_188 : decode cX12_house 188 = .ok (.iadd, 1) := by decide +kernel
theorem dX12_house_189 : decode cX12_house 189 = .ok (.aload_n 0, 1) := by decide +kernel
theorem dX12_house_190 : decode cX12_house 190 = .ok (.getfield 32, 3) := by decide +kernel
theorem dX12_house_193 : decode cX12_house 193 = .ok (.iload_n 1, 1) := by decide +kernel
theorem dX12_house_194 : decode cX12_house 194 = .ok (.iaload, 1) := by decide +kernel
theorem dX12_house_195 : decode cX12_house 195 = .ok (.iastore, 1) := by decide +kernel
theorem dX12_house_196 : decode cX12_house 196 = .ok (.iinc 1 1, 3) := by decide +kernel
theorem dX12_house_199 : decode cX12_house 199 = .ok (.goto (-29), 3) := by decide +kernel
theorem dX12_house_202 : decode cX12_house 202 = .ok (.iconst 0, 1) := by decide +kernel
theorem dX12_house_203 : decode cX12_house 203 = .ok (.istore_n 1, 1) := by decide +kernel
theorem dX12_house_204 : decode cX12_house 204 = .ok (.iload_n 1, 1) := by decide +kernel
theorem dX12_house_205 : decode cX12_house 205 = .ok (.aload_n 0, 1) := by decide +kernel
theorem dX12_house_206 : decode cX12_house 206 = .ok (.getfield 246, 3) := by decide +kernel
theorem dX12_house_209 : decode cX12_house 209 = .ok (.if_icmp .ge 40, 3) := by decide +kernel
theorem dX12_house_212 : decode cX12_house 212 = .ok (.aload_n 0, 1) := by decide +kernel
theorem dX12_house_213 : decode cX12_house 213 = .ok (.getfield 48, 3) := by decide +kernel
theorem dX12_house_216 : decode cX12_house 216 = .ok (.sipush 172, 3) := by decide +kernel
theorem dX12_house_219 : decode cX12_house 219 = .ok (.iconst 5, 1) := by decide +kernel
theorem dX12_house_220 : decode cX12_house 220 = .ok (.iload_n 1, 1) := by decide +kernel
theorem dX12_house_221 : decode cX12_house 221 = .ok (.imul, 1) := by decide +kernel
theorem dX12_house_222 : decode cX12_house 222 = .ok (.iadd, 1) := by decide +kernel
theorem dX12_house_223 : decode cX12_house 223 = .ok (.iconst 1, 1) := by decide +kernel
theorem dX12_house_224 : decode cX12_house 224 = .ok (.iadd, 1) := by decide +kernel
theorem dX12_house_225 : decode cX12_house 225 = .ok (.aload_n 0, 1) := by decide +kernel
theorem dX12_house_226 : decode cX12_house 226 = .ok (.getfield 35, 3) := by decide +kernel
theorem dX12_house_229 : decode cX12_house 229 = .ok (.iload_n 1, 1) := by decide +kernel
theorem dX12_house_230 : decode cX12_house 230 = .ok (.iaload, 1) := by decide +kernel
theorem dX12_house_231 : decode cX12_house 231 = .ok (.iastore, 1) := by decide +kernel
theorem dX12_house_232 : decode cX12_house 232 = .ok (.aload_n 0, 1) := by decide +kernel
theorem dX12_house_233 : decode cX12_house 233 = .ok (.iload_n 1, 1) := by decide +kernel
theorem dX12_house_234 : decode cX12_house 234 = .ok (.aload_n 0, 1) := by decide +kernel
theorem dX12_house_235 : decode cX12_house 235 = .ok (.getfield 35, 3) := by decide +kernel
theorem dX12_house_238 : decode cX12_house 238 = .ok (.iload_n 1, 1) := by decide +kernel
theorem dX12_house_239 : decode cX12_house 239 = .ok (.iaload, 1) := by decide +kernel
theorem dX12_house_240 : decode cX12_house 240 = .ok (.invokevirtual 300, 3) := by decide +kernel
theorem dX12_house_243 : decode cX12_house 243 = .ok (.iinc 1 1, 3) := by decide +kernel
theorem dX12_house_246 : decode cX12_house 246 = .ok (.goto (-42), 3) := by decide +kernel
theorem dX12_house_249 : decode cX12_house 249 = .ok (.aload_n 0, 1) := by decide +kernel
theorem dX12_house_250 : decode cX12_house 250 = .ok (.getfield 240, 3) := by decide +kernel
theorem dX12_house_253 : decode cX12_house 253 = .ok (.ireturn, 1) := by decide +kernel
theorem dX12_isRule_0 : decode cX12_isRule 0 = .ok (.iload_n 1, 1) := by decide +kernel
theorem dX12_isRule_1 : decode cX12_isRule 1 = .ok (.ifCond .lt 15, 3) := by decide +kernel
theorem dX12_isRule_4 : decode cX12_isRule 4 = .ok (.iload_n 1, 1) := by decide +kernel
theorem dX12_isRule_5 : decode cX12_isRule 5 = .ok (.aload_n 0, 1) := by decide +kernel
theorem dX12_isRule_6 : decode cX12_isRule 6 = .ok (.getfield 294, 3) := by decide +kernel
theorem dX12_isRule_9 : decode cX12_isRule 9 = .ok (.if_icmp .ge 7, 3) := by decide +kernel
theorem dX12_isRule_12 : decode cX12_isRule 12 = .ok (.iconst 1, 1) := by decide +kernel
theorem dX12_isRule_13 : decode cX12_isRule 13 = .ok (.goto 4, 3) := by decide +kernel
theorem dX12_isRule_16 : decode cX12_isRule 16 = .ok (.iconst 0, 1) := by decide +kernel
theorem dX12_isRule_17 : decode cX12_isRule 17 = .ok (.ireturn, 1) := by decide +kernel
theorem dX12_push_0 : decode cX12_push 0 = .ok (.aload_n 0, 1) := by decide +kernel
theorem dX12_push_1 : decode cX12_push 1 = .ok (.getfield 41, 3) := by decide +kernel
theorem dX12_push_4 : decode cX12_push 4 = .ok (.aload_n 0, 1) := by decide +kernel
theorem dX12_push_5 : decode cX12_push 5 = .ok (.getfield 303, 3) := by decide +kernel
theorem dX12_push_8 : decode cX12_push 8 = .ok (.lload_n 1, 1) := by decide +kernel
theorem dX12_push_9 : decode cX12_push 9 = .ok (.lastore, 1) := by decide +kernel
theorem dX12_push_10 : decode cX12_push 10 = .ok (.aload_n 0, 1) := by decide +kernel
theorem dX12_push_11 : decode cX12_push 11 = .ok (.dup, 1) := by decide +kernel
theorem dX12_push_12 : decode cX12_push 12 = .ok (.getfield 303, 3) := by decide +kernel
theorem dX12_push_15 : decode cX12_push 15 = .ok (.iconst 1, 1) := by decide +kernel
theorem dX12_push_16 : decode cX12_push 16 = .ok (.iadd, 1) := by decide +kernel
theorem dX12_push_17 : decode cX12_push 17 = .ok (.putfield 303, 3) := by decide +kernel
theorem dX12_push_20 : decode cX12_push 20 = .ok (.return_, 1) := by decide +kernel
theorem dX12_pop_0 : decode cX12_pop 0 = .ok (.aload_n 0, 1) := by decide +kernel
theorem dX12_pop_1 : decode cX12_pop 1 = .ok (.dup, 1) := by decide +kernel
theorem dX12_pop_2 : decode cX12_pop 2 = .ok (.getfield 303, 3) := by decide +kernel
theorem dX12_pop_5 : decode cX12_pop 5 = .ok (.iconst 1, 1) := by decide +kernel
theorem dX12_pop_6 : decode cX12_pop 6 = .ok (.isub, 1) := by decide +kernel
theorem dX12_pop_7 : decode cX12_pop 7 = .ok (.putfield 303, 3) := by decide +kernel
theorem dX12_pop_10 : decode cX12_pop 10 = .ok (.aload_n 0, 1) := by decide +kernel
theorem dX12_pop_11 : decode cX12_pop 11 = .ok (.getfield 41, 3) := by decide +kernel
theorem dX12_pop_14 : decode cX12_pop 14 = .ok (.aload_n 0, 1) := by decide +kernel
theorem dX12_pop_15 : decode cX12_pop 15 = .ok (.getfield 303, 3) := by decide +kernel
theorem dX12_pop_18 : decode cX12_pop 18 = .ok (.laload, 1) := by decide +kernel
theorem dX12_pop_19 : decode cX12_pop 19 = .ok (.lreturn, 1) := by decide +kernel
theorem dX12_one_0 : decode cX12_one 0 = .ok (.iload_n 0, 1) := by decide +kernel
theorem dX12_one_1 : decode cX12_one 1 = .ok (.tableswitch 149 2 12 #[59, 63, 67, 71, 85, 97, 109, 121, 133, 149, 145], 59) := by decide +kernel
theorem dX12_one_60 : decode cX12_one 60 = .ok (.lload_n 1, 1) := by decide +kernel
theorem dX12_one_61 : decode cX12_one 61 = .ok (.lload_n 3, 1) := by decide +kernel
theorem dX12_one_62 : decode cX12_one 62 = .ok (.ladd, 1) := by decide +kernel
theorem dX12_one_63 : decode cX12_one 63 = .ok (.lreturn, 1) := by decide +kernel
theorem dX12_one_64 : decode cX12_one 64 = .ok (.lload_n 1, 1) := by decide +kernel
theorem dX12_one_65 : decode cX12_one 65 = .ok (.lload_n 3, 1) := by decide +kernel
theorem dX12_one_66 : decode cX12_one 66 = .ok (.lsub, 1) := by decide +kernel
theorem dX12_one_67 : decode cX12_one 67 = .ok (.lreturn, 1) := by decide +kernel
theorem dX12_one_68 : decode cX12_one 68 = .ok (.lload_n 1, 1) := by decide +kernel
theorem dX12_one_69 : decode cX12_one 69 = .ok (.lload_n 3, 1) := by decide +kernel
theorem dX12_one_70 : decode cX12_one 70 = .ok (.lmul, 1) := by decide +kernel
theorem dX12_one_71 : decode cX12_one 71 = .ok (.lreturn, 1) := by decide +kernel
theorem dX12_one_72 : decode cX12_one 72 = .ok (.lload_n 3, 1) := by decide +kernel
theorem dX12_one_73 : decode cX12_one 73 = .ok (.lconst 0, 1) := by decide +kernel
theorem dX12_one_74 : decode cX12_one 74 = .ok (.lcmp, 1) := by decide +kernel
theorem dX12_one_75 : decode cX12_one 75 = .ok (.ifCond .ne 7, 3) := by decide +kernel
theorem dX12_one_78 : decode cX12_one 78 = .ok (.lconst 0, 1) := by decide +kernel
theorem dX12_one_79 : decode cX12_one 79 = .ok (.goto 6, 3) := by decide +kernel
theorem dX12_one_82 : decode cX12_one 82 = .ok (.lload_n 1, 1) := by decide +kernel
theorem dX12_one_83 : decode cX12_one 83 = .ok (.lload_n 3, 1) := by decide +kernel
theorem dX12_one_84 : decode cX12_one 84 = .ok (.ldiv, 1) := by decide +kernel
theorem dX12_one_85 : decode cX12_one 85 = .ok (.lreturn, 1) := by decide +kernel
theorem dX12_one_86 : decode cX12_one 86 = .ok (.lload_n 1, 1) := by decide +kernel
theorem dX12_one_87 : decode cX12_one 87 = .ok (.lload_n 3, 1) := by decide +kernel
theorem dX12_one_88 : decode cX12_one 88 = .ok (.lcmp, 1) := by decide +kernel
theorem dX12_one_89 : decode cX12_one 89 = .ok (.ifCond .ge 7, 3) := by decide +kernel
theorem dX12_one_92 : decode cX12_one 92 = .ok (.lconst 1, 1) := by decide +kernel
theorem dX12_one_93 : decode cX12_one 93 = .ok (.goto 4, 3) := by decide +kernel
theorem dX12_one_96 : decode cX12_one 96 = .ok (.lconst 0, 1) := by decide +kernel
theorem dX12_one_97 : decode cX12_one 97 = .ok (.lreturn, 1) := by decide +kernel
theorem dX12_one_98 : decode cX12_one 98 = .ok (.lload_n 1, 1) := by decide +kernel
theorem dX12_one_99 : decode cX12_one 99 = .ok (.lload_n 3, 1) := by decide +kernel
theorem dX12_one_100 : decode cX12_one 100 = .ok (.lcmp, 1) := by decide +kernel
theorem dX12_one_101 : decode cX12_one 101 = .ok (.ifCond .gt 7, 3) := by decide +kernel
theorem dX12_one_104 : decode cX12_one 104 = .ok (.lconst 1, 1) := by decide +kernel
theorem dX12_one_105 : decode cX12_one 105 = .ok (.goto 4, 3) := by decide +kernel
theorem dX12_one_108 : decode cX12_one 108 = .ok (.lconst 0, 1) := by decide +kernel
theorem dX12_one_109 : decode cX12_one 109 = .ok (.lreturn, 1) := by decide +kernel
theorem dX12_one_110 : decode cX12_one 110 = .ok (.lload_n 1, 1) := by decide +kernel
theorem dX12_one_111 : decode cX12_one 111 = .ok (.lload_n 3, 1) := by decide +kernel
theorem dX12_one_112 : decode cX12_one 112 = .ok (.lcmp, 1) := by decide +kernel
theorem dX12_one_113 : decode cX12_one 113 = .ok (.ifCond .ne 7, 3) := by decide +kernel
theorem dX12_one_116 : decode cX12_one 116 = .ok (.lconst 1, 1) := by decide +kernel
theorem dX12_one_117 : decode cX12_one 117 = .ok (.goto 4, 3) := by decide +kernel
theorem dX12_one_120 : decode cX12_one 120 = .ok (.lconst 0, 1) := by decide +kernel
theorem dX12_one_121 : decode cX12_one 121 = .ok (.lreturn, 1) := by decide +kernel
theorem dX12_one_122 : decode cX12_one 122 = .ok (.lload_n 1, 1) := by decide +kernel
theorem dX12_one_123 : decode cX12_one 123 = .ok (.lload_n 3, 1) := by decide +kernel
theorem dX12_one_124 : decode cX12_one 124 = .ok (.lcmp, 1) := by decide +kernel
theorem dX12_one_125 : decode cX12_one 125 = .ok (.ifCond .lt 7, 3) := by decide +kernel
theorem dX12_one_128 : decode cX12_one 128 = .ok (.lconst 1, 1) := by decide +kernel
theorem dX12_one_129 : decode cX12_one 129 = .ok (.goto 4, 3) := by decide +kernel
theorem dX12_one_132 : decode cX12_one 132 = .ok (.lconst 0, 1) := by decide +kernel
theorem dX12_one_133 : decode cX12_one 133 = .ok (.lreturn, 1) := by decide +kernel
theorem dX12_one_134 : decode cX12_one 134 = .ok (.lload_n 1, 1) := by decide +kernel
theorem dX12_one_135 : decode cX12_one 135 = .ok (.lload_n 3, 1) := by decide +kernel
theorem dX12_one_136 : decode cX12_one 136 = .ok (.lcmp, 1) := by decide +kernel
theorem dX12_one_137 : decode cX12_one 137 = .ok (.ifCond .le 7, 3) := by decide +kernel
theorem dX12_one_140 : decode cX12_one 140 = .ok (.lconst 1, 1) := by decide +kernel
theorem dX12_one_141 : decode cX12_one 141 = .ok (.goto 4, 3) := by decide +kernel
theorem dX12_one_144 : decode cX12_one 144 = .ok (.lconst 0, 1) := by decide +kernel
theorem dX12_one_145 : decode cX12_one 145 = .ok (.lreturn, 1) := by decide +kernel
theorem dX12_one_146 : decode cX12_one 146 = .ok (.lload_n 1, 1) := by decide +kernel
theorem dX12_one_147 : decode cX12_one 147 = .ok (.lload_n 3, 1) := by decide +kernel
theorem dX12_one_148 : decode cX12_one 148 = .ok (.land, 1) := by decide +kernel
theorem dX12_one_149 : decode cX12_one 149 = .ok (.lreturn, 1) := by decide +kernel
theorem dX12_one_150 : decode cX12_one 150 = .ok (.lload_n 1, 1) := by decide +kernel
theorem dX12_one_151 : decode cX12_one 151 = .ok (.lload_n 3, 1) := by decide +kernel
theorem dX12_one_152 : decode cX12_one 152 = .ok (.lor, 1) := by decide +kernel
theorem dX12_one_153 : decode cX12_one 153 = .ok (.lreturn, 1) := by decide +kernel
theorem dX12_reckons_0 : decode cX12_reckons 0 = .ok (.aload_n 0, 1) := by decide +kernel
theorem dX12_reckons_1 : decode cX12_reckons 1 = .ok (.iconst 0, 1) := by decide +kernel
theorem dX12_reckons_2 : decode cX12_reckons 2 = .ok (.putfield 303, 3) := by decide +kernel
theorem dX12_reckons_5 : decode cX12_reckons 5 = .ok (.iload_n 2, 1) := by decide +kernel
theorem dX12_reckons_6 : decode cX12_reckons 6 = .ok (.istore 4, 2) := by decide +kernel
theorem dX12_reckons_8 : decode cX12_reckons 8 = .ok (.iload 4, 2) := by decide +kernel
theorem dX12_reckons_10 : decode cX12_reckons 10 = .ok (.iload_n 3, 1) := by decide +kernel
theorem dX12_reckons_11 : decode cX12_reckons 11 = .ok (.if_icmp .ge 124, 3) := by decide +kernel
theorem dX12_reckons_14 : decode cX12_reckons 14 = .ok (.aload_n 0, 1) := by decide +kernel
theorem dX12_reckons_15 : decode cX12_reckons 15 = .ok (.getfield 13, 3) := by decide +kernel
theorem dX12_reckons_18 : decode cX12_reckons 18 = .ok (.sipush 400, 3) := by decide +kernel
theorem dX12_reckons_21 : decode cX12_reckons 21 = .ok (.iload_n 1, 1) := by decide +kernel
theorem dX12_reckons_22 : decode cX12_reckons 22 = .ok (.imul, 1) := by decide +kernel
theorem dX12_reckons_23 : decode cX12_reckons 23 = .ok (.iload 4, 2) := by decide +kernel
theorem dX12_reckons_25 : decode cX12_reckons 25 = .ok (.iadd, 1) := by decide +kernel
theorem dX12_reckons_26 : decode cX12_reckons 26 = .ok (.iaload, 1) := by decide +kernel
theorem dX12_reckons_27 : decode cX12_reckons 27 = .ok (.bipush 15, 2) := by decide +kernel
theorem dX12_reckons_29 : decode cX12_reckons 29 = .ok (.iand, 1) := by decide +kernel
theorem dX12_reckons_30 : decode cX12_reckons 30 = .ok (.istore 5, 2) := by decide +kernel
theorem dX12_reckons_32 : decode cX12_reckons 32 = .ok (.aload_n 0, 1) := by decide +kernel
theorem dX12_reckons_33 : decode cX12_reckons 33 = .ok (.getfield 13, 3) := by decide +kernel
theorem dX12_reckons_36 : decode cX12_reckons 36 = .ok (.sipush 400, 3) := by decide +kernel
theorem dX12_reckons_39 : decode cX12_reckons 39 = .ok (.iload_n 1, 1) := by decide +kernel
theorem dX12_reckons_40 : decode cX12_reckons 40 = .ok (.imul, 1) := by decide +kernel
theorem dX12_reckons_41 : decode cX12_reckons 41 = .ok (.iload 4, 2) := by decide +kernel
theorem dX12_reckons_43 : decode cX12_reckons 43 = .ok (.iadd, 1) := by decide +kernel
theorem dX12_reckons_44 : decode cX12_reckons 44 = .ok (.iaload, 1) := by decide +kernel
theorem dX12_reckons_45 : decode cX12_reckons 45 = .ok (.iconst 4, 1) := by decide +kernel
theorem dX12_reckons_46 : decode cX12_reckons 46 = .ok (.ishr, 1) := by decide +kernel
theorem dX12_reckons_47 : decode cX12_reckons 47 = .ok (.istore 6, 2) := by decide +kernel
theorem dX12_reckons_49 : decode cX12_reckons 49 = .ok (.iload 5, 2) := by decide +kernel
theorem dX12_reckons_51 : decode cX12_reckons 51 = .ok (.ifCond .ne 13, 3) := by decide +kernel
theorem dX12_reckons_54 : decode cX12_reckons 54 = .ok (.aload_n 0, 1) := by decide +kernel
theorem dX12_reckons_55 : decode cX12_reckons 55 = .ok (.iload 6, 2) := by decide +kernel
theorem dX12_reckons_57 : decode cX12_reckons 57 = .ok (.i2l, 1) := by decide +kernel
theorem dX12_reckons_58 : decode cX12_reckons 58 = .ok (.invokevirtual 306, 3) := by decide +kernel
theorem dX12_reckons_61 : decode cX12_reckons 61 = .ok (.goto 68, 3) := by decide +kernel
theorem dX12_reckons_64 : decode cX12_reckons 64 = .ok (.iload 5, 2) := by decide +kernel
theorem dX12_reckons_66 : decode cX12_reckons 66 = .ok (.iconst 1, 1) := by decide +kernel
theorem dX12_reckons_67 : decode cX12_reckons 67 = .ok (.if_icmp .ne 17, 3) := by decide +kernel
theorem dX12_reckons_70 : decode cX12_reckons 70 = .ok (.aload_n 0, 1) := by decide +kernel
theorem dX12_reckons_71 : decode cX12_reckons 71 = .ok (.aload_n 0, 1) := by decide +kernel
theorem dX12_reckons_72 : decode cX12_reckons 72 = .ok (.getfield 45, 3) := by decide +kernel
theorem dX12_reckons_75 : decode cX12_reckons 75 = .ok (.iload 6, 2) := by decide +kernel
theorem dX12_reckons_77 : decode cX12_reckons 77 = .ok (.laload, 1) := by decide +kernel
theorem dX12_reckons_78 : decode cX12_reckons 78 = .ok (.invokevirtual 306, 3) := by decide +kernel
theorem dX12_reckons_81 : decode cX12_reckons 81 = .ok (.goto 48, 3) := by decide +kernel
theorem dX12_reckons_84 : decode cX12_reckons 84 = .ok (.iload 5, 2) := by decide +kernel
theorem dX12_reckons_86 : decode cX12_reckons 86 = .ok (.bipush 11, 2) := by decide +kernel
theorem dX12_reckons_88 : decode cX12_reckons 88 = .ok (.if_icmp .ne 16, 3) := by decide +kernel
theorem dX12_reckons_91 : decode cX12_reckons 91 = .ok (.aload_n 0, 1) := by decide +kernel
theorem dX12_reckons_92 : decode cX12_reckons 92 = .ok (.lconst 1, 1) := by decide +kernel
theorem dX12_reckons_93 : decode cX12_reckons 93 = .ok (.aload_n 0, 1) := by decide +kernel
theorem dX12_reckons_94 : decode cX12_reckons 94 = .ok (.invokevirtual 310, 3) := by decide +kernel
theorem dX12_reckons_97 : decode cX12_reckons 97 = .ok (.lsub, 1) := by decide +kernel
theorem dX12_reckons_98 : decode cX12_reckons 98 = .ok (.invokevirtual 306, 3) := by decide +kernel
theorem dX12_reckons_101 : decode cX12_reckons 101 = .ok (.goto 28, 3) := by decide +kernel
theorem dX12_reckons_104 : decode cX12_reckons 104 = .ok (.aload_n 0, 1) := by decide +kernel
theorem dX12_reckons_105 : decode cX12_reckons 105 = .ok (.invokevirtual 310, 3) := by decide +kernel
theorem dX12_reckons_108 : decode cX12_reckons 108 = .ok (.lstore 7, 2) := by decide +kernel
theorem dX12_reckons_110 : decode cX12_reckons 110 = .ok (.aload_n 0, 1) := by decide +kernel
theorem dX12_reckons_111 : decode cX12_reckons 111 = .ok (.invokevirtual 310, 3) := by decide +kernel
theorem dX12_reckons_114 : decode cX12_reckons 114 = .ok (.lstore 9, 2) := by decide +kernel
theorem dX12_reckons_116 : decode cX12_reckons 116 = .ok (.aload_n 0, 1) := by decide +kernel
theorem dX12_reckons_117 : decode cX12_reckons 117 = .ok (.iload 5, 2) := by decide +kernel
theorem dX12_reckons_119 : decode cX12_reckons 119 = .ok (.lload 9, 2) := by decide +kernel
theorem dX12_reckons_121 : decode cX12_reckons 121 = .ok (.lload 7, 2) := by decide +kernel
theorem dX12_reckons_123 : decode cX12_reckons 123 = .ok (.invokestatic 314, 3) := by decide +kernel
theorem dX12_reckons_126 : decode cX12_reckons 126 = .ok (.invokevirtual 306, 3) := by decide +kernel
theorem dX12_reckons_129 : decode cX12_reckons 129 = .ok (.iinc 4 1, 3) := by decide +kernel
theorem dX12_reckons_132 : decode cX12_reckons 132 = .ok (.goto (-124), 3) := by decide +kernel
theorem dX12_reckons_135 : decode cX12_reckons 135 = .ok (.aload_n 0, 1) := by decide +kernel
theorem dX12_reckons_136 : decode cX12_reckons 136 = .ok (.invokevirtual 310, 3) := by decide +kernel
theorem dX12_reckons_139 : decode cX12_reckons 139 = .ok (.lreturn, 1) := by decide +kernel
theorem dX12_isRoom_0 : decode cX12_isRoom 0 = .ok (.iload_n 1, 1) := by decide +kernel
theorem dX12_isRoom_1 : decode cX12_isRoom 1 = .ok (.ifCond .lt 17, 3) := by decide +kernel
theorem dX12_isRoom_4 : decode cX12_isRoom 4 = .ok (.iload_n 1, 1) := by decide +kernel
theorem dX12_isRoom_5 : decode cX12_isRoom 5 = .ok (.aload_n 0, 1) := by decide +kernel
theorem dX12_isRoom_6 : decode cX12_isRoom 6 = .ok (.getfield 48, 3) := by decide +kernel
theorem dX12_isRoom_9 : decode cX12_isRoom 9 = .ok (.iconst 0, 1) := by decide +kernel
theorem dX12_isRoom_10 : decode cX12_isRoom 10 = .ok (.iaload, 1) := by decide +kernel
theorem dX12_isRoom_11 : decode cX12_isRoom 11 = .ok (.if_icmp .ge 7, 3) := by decide +kernel
theorem dX12_isRoom_14 : decode cX12_isRoom 14 = .ok (.iconst 1, 1) := by decide +kernel
theorem dX12_isRoom_15 : decode cX12_isRoom 15 = .ok (.goto 4, 3) := by decide +kernel
theorem dX12_isRoom_18 : decode cX12_isRoom 18 = .ok (.iconst 0, 1) := by decide +kernel
theorem dX12_isRoom_19 : decode cX12_isRoom 19 = .ok (.ireturn, 1) := by decide +kernel
theorem dX12_isWay_0 : decode cX12_isWay 0 = .ok (.iload_n 1, 1) := by decide +kernel
theorem dX12_isWay_1 : decode cX12_isWay 1 = .ok (.ifCond .lt 17, 3) := by decide +kernel
theorem dX12_isWay_4 : decode cX12_isWay 4 = .ok (.iload_n 1, 1) := by decide +kernel
theorem dX12_isWay_5 : decode cX12_isWay 5 = .ok (.aload_n 0, 1) := by decide +kernel
theorem dX12_isWay_6 : decode cX12_isWay 6 = .ok (.getfield 48, 3) := by decide +kernel
theorem dX12_isWay_9 : decode cX12_isWay 9 = .ok (.iconst 1, 1) := by decide +kernel
theorem dX12_isWay_10 : decode cX12_isWay 10 = .ok (.iaload, 1) := by decide +kernel
theorem dX12_isWay_11 : decode cX12_isWay 11 = .ok (.if_icmp .ge 7, 3) := by decide +kernel
theorem dX12_isWay_14 : decode cX12_isWay 14 = .ok (.iconst 1, 1) := by decide +kernel
theorem dX12_isWay_15 : decode cX12_isWay 15 = .ok (.goto 4, 3) := by decide +kernel
theorem dX12_isWay_18 : decode cX12_isWay 18 = .ok (.iconst 0, 1) := by decide +kernel
theorem dX12_isWay_19 : decode cX12_isWay 19 = .ok (.ireturn, 1) := by decide +kernel
theorem dX12_isPerson_0 : decode cX12_isPerson 0 = .ok (.iload_n 1, 1) := by decide +kernel
theorem dX12_isPerson_1 : decode cX12_isPerson 1 = .ok (.ifCond .lt 17, 3) := by decide +kernel
theorem dX12_isPerson_4 : decode cX12_isPerson 4 = .ok (.iload_n 1, 1) := by decide +kernel
theorem dX12_isPerson_5 : decode cX12_isPerson 5 = .ok (.aload_n 0, 1) := by decide +kernel
theorem dX12_isPerson_6 : decode cX12_isPerson 6 = .ok (.getfield 48, 3) := by decide +kernel
theorem dX12_isPerson_9 : decode cX12_isPerson 9 = .ok (.iconst 2, 1) := by decide +kernel
theorem dX12_isPerson_10 : decode cX12_isPerson 10 = .ok (.iaload, 1) := by decide +kernel
theorem dX12_isPerson_11 : decode cX12_isPerson 11 = .ok (.if_icmp .ge 7, 3) := by decide +kernel
theorem dX12_isPerson_14 : decode cX12_isPerson 14 = .ok (.iconst 1, 1) := by decide +kernel
theorem dX12_isPerson_15 : decode cX12_isPerson 15 = .ok (.goto 4, 3) := by decide +kernel
theorem dX12_isPerson_18 : decode cX12_isPerson 18 = .ok (.iconst 0, 1) := by decide +kernel
theorem dX12_isPerson_19 : decode cX12_isPerson 19 = .ok (.ireturn, 1) := by decide +kernel
theorem dX12_isMinute_0 : decode cX12_isMinute 0 = .ok (.iload_n 0, 1) := by decide +kernel
theorem dX12_isMinute_1 : decode cX12_isMinute 1 = .ok (.ifCond .lt 14, 3) := by decide +kernel
theorem dX12_isMinute_4 : decode cX12_isMinute 4 = .ok (.iload_n 0, 1) := by decide +kernel
theorem dX12_isMinute_5 : decode cX12_isMinute 5 = .ok (.sipush 1439, 3) := by decide +kernel
theorem dX12_isMinute_8 : decode cX12_isMinute 8 = .ok (.if_icmp .gt 7, 3) := by decide +kernel
theorem dX12_isMinute_11 : decode cX12_isMinute 11 = .ok (.iconst 1, 1) := by decide +kernel
theorem dX12_isMinute_12 : decode cX12_isMinute 12 = .ok (.goto 4, 3) := by decide +kernel
theorem dX12_isMinute_15 : decode cX12_isMinute 15 = .ok (.iconst 0, 1) := by decide +kernel
theorem dX12_isMinute_16 : decode cX12_isMinute 16 = .ok (.ireturn, 1) := by decide +kernel
theorem dX12_wayOf_0 : decode cX12_wayOf 0 = .ok (.aload_n 0, 1) := by decide +kernel
theorem dX12_wayOf_1 : decode cX12_wayOf 1 = .ok (.getfield 48, 3) := by decide +kernel
theorem dX12_wayOf_4 : decode cX12_wayOf 4 = .ok (.bipush 28, 2) := by decide +kernel
theorem dX12_wayOf_6 : decode cX12_wayOf 6 = .ok (.bipush 6, 2) := by decide +kernel
theorem dX12_wayOf_8 : decode cX12_wayOf 8 = .ok (.iload_n 1, 1) := by decide +kernel
theorem dX12_wayOf_9 : decode cX12_wayOf 9 = .ok (.imul, 1) := by decide +kernel
theorem dX12_wayOf_10 : decode cX12_wayOf 10 = .ok (.iadd, 1) := by decide +kernel
theorem dX12_wayOf_11 : decode cX12_wayOf 11 = .ok (.iload_n 2, 1) := by decide +kernel
theorem dX12_wayOf_12 : decode cX12_wayOf 12 = .ok (.iadd, 1) := by decide +kernel
theorem dX12_wayOf_13 : decode cX12_wayOf 13 = .ok (.iaload, 1) := by decide +kernel
theorem dX12_wayOf_14 : decode cX12_wayOf 14 = .ok (.ireturn, 1) := by decide +kernel
theorem dX12_personOf_0 : decode cX12_personOf 0 = .ok (.aload_n 0, 1) := by decide +kernel
theorem dX12_personOf_1 : decode cX12_personOf 1 = .ok (.getfield 48, 3) := by decide +kernel
theorem dX12_personOf_4 : decode cX12_personOf 4 = .ok (.sipush 172, 3) := by decide +kernel
theorem dX12_personOf_7 : decode cX12_personOf 7 = .ok (.iconst 5, 1) := by decide +kernel
theorem dX12_personOf_8 : decode cX12_personOf 8 = .ok (.iload_n 1, 1) := by decide +kernel
theorem dX12_personOf_9 : decode cX12_personOf 9 = .ok (.imul, 1) := by decide +kernel
theorem dX12_personOf_10 : decode cX12_personOf 10 = .ok (.iadd, 1) := by decide +kernel
theorem dX12_personOf_11 : decode cX12_personOf 11 = .ok (.iload_n 2, 1) := by decide +kernel
