theorem dX7_readSum_27 : decode cX7_readSum 27 = .ok (.aload_n 0, 1) := by decide +kernel
theorem dX7_readSum_28 : decode cX7_readSum 28 = .ok (.getfield 15, 3) := by decide +kernel
theorem dX7_readSum_31 : decode cX7_readSum 31 = .ok (.iload_n 2, 1) := by decide +kernel
theorem dX7_readSum_32 : decode cX7_readSum 32 = .ok (.invokevirtual 92, 3) := by decide +kernel
theorem dX7_readSum_35 : decode cX7_readSum 35 = .ok (.pop, 1) := by decide +kernel
theorem dX7_readSum_36 : decode cX7_readSum 36 = .ok (.aload_n 0, 1) := by decide +kernel
theorem dX7_readSum_37 : decode cX7_readSum 37 = .ok (.invokevirtual 131, 3) := by decide +kernel
theorem dX7_readSum_40 : decode cX7_readSum 40 = .ok (.istore 4, 2) := by decide +kernel
theorem dX7_readSum_42 : decode cX7_readSum 42 = .ok (.iload 4, 2) := by decide +kernel
theorem dX7_readSum_44 : decode cX7_readSum 44 = .ok (.bipush 12, 2) := by decide +kernel
theorem dX7_readSum_46 : decode cX7_readSum 46 = .ok (.if_icmp .eq 10, 3) := by decide +kernel
theorem dX7_readSum_49 : decode cX7_readSum 49 = .ok (.iload 4, 2) := by decide +kernel
theorem dX7_readSum_51 : decode cX7_readSum 51 = .ok (.bipush 13, 2) := by decide +kernel
theorem dX7_readSum_53 : decode cX7_readSum 53 = .ok (.if_icmp .ne 8, 3) := by decide +kernel
theorem dX7_readSum_56 : decode cX7_readSum 56 = .ok (.iload 4, 2) := by decide +kernel
theorem dX7_readSum_58 : decode cX7_readSum 58 = .ok (.goto 4, 3) := by decide +kernel
theorem dX7_readSum_61 : decode cX7_readSum 61 = .ok (.iconst (-1), 1) := by decide +kernel
theorem dX7_readSum_62 : decode cX7_readSum 62 = .ok (.istore_n 2, 1) := by decide +kernel
theorem dX7_readSum_63 : decode cX7_readSum 63 = .ok (.iload_n 2, 1) := by decide +kernel
theorem dX7_readSum_64 : decode cX7_readSum 64 = .ok (.iconst (-1), 1) := by decide +kernel
theorem dX7_readSum_65 : decode cX7_readSum 65 = .ok (.if_icmp .ne 20, 3) := by decide +kernel
theorem dX7_readSum_68 : decode cX7_readSum 68 = .ok (.iload_n 1, 1) := by decide +kernel
theorem dX7_readSum_69 : decode cX7_readSum 69 = .ok (.iconst (-1), 1) := by decide +kernel
theorem dX7_readSum_70 : decode cX7_readSum 70 = .ok (.if_icmp .eq 12, 3) := by decide +kernel
theorem dX7_readSum_73 : decode cX7_readSum 73 = .ok (.aload_n 0, 1) := by decide +kernel
theorem dX7_readSum_74 : decode cX7_readSum 74 = .ok (.getfield 15, 3) := by decide +kernel
theorem dX7_readSum_77 : decode cX7_readSum 77 = .ok (.iload_n 1, 1) := by decide +kernel
theorem dX7_readSum_78 : decode cX7_readSum 78 = .ok (.invokevirtual 92, 3) := by decide +kernel
theorem dX7_readSum_81 : decode cX7_readSum 81 = .ok (.pop, 1) := by decide +kernel
theorem dX7_readSum_82 : decode cX7_readSum 82 = .ok (.iload 4, 2) := by decide +kernel
theorem dX7_readSum_84 : decode cX7_readSum 84 = .ok (.istore_n 1, 1) := by decide +kernel
theorem dX7_readSum_85 : decode cX7_readSum 85 = .ok (.iload 4, 2) := by decide +kernel
theorem dX7_readSum_87 : decode cX7_readSum 87 = .ok (.iconst (-1), 1) := by decide +kernel
theorem dX7_readSum_88 : decode cX7_readSum 88 = .ok (.if_icmp .ne 5, 3) := by decide +kernel
theorem dX7_readSum_91 : decode cX7_readSum 91 = .ok (.iconst 1, 1) := by decide +kernel
theorem dX7_readSum_92 : decode cX7_readSum 92 = .ok (.ireturn, 1) := by decide +kernel
theorem dX7_readSum_93 : decode cX7_readSum 93 = .ok (.aload_n 0, 1) := by decide +kernel
theorem dX7_readSum_94 : decode cX7_readSum 94 = .ok (.getfield 9, 3) := by decide +kernel
theorem dX7_readSum_97 : decode cX7_readSum 97 = .ok (.invokevirtual 47, 3) := by decide +kernel
theorem dX7_readSum_100 : decode cX7_readSum 100 = .ok (.iinc 3 1, 3) := by decide +kernel
theorem dX7_readSum_103 : decode cX7_readSum 103 = .ok (.goto (-97), 3) := by decide +kernel
theorem dX7_readSum_106 : decode cX7_readSum 106 = .ok (.aload_n 0, 1) := by decide +kernel
theorem dX7_readSum_107 : decode cX7_readSum 107 = .ok (.getfield 9, 3) := by decide +kernel
theorem dX7_readSum_110 : decode cX7_readSum 110 = .ok (.iconst 0, 1) := by decide +kernel
theorem dX7_readSum_111 : decode cX7_readSum 111 = .ok (.invokevirtual 64, 3) := by decide +kernel
theorem dX7_readSum_114 : decode cX7_readSum 114 = .ok (.ireturn, 1) := by decide +kernel
theorem dX7_reckoning_0 : decode cX7_reckoning 0 = .ok (.aload_n 0, 1) := by decide +kernel
theorem dX7_reckoning_1 : decode cX7_reckoning 1 = .ok (.getfield 9, 3) := by decide +kernel
theorem dX7_reckoning_4 : decode cX7_reckoning 4 = .ok (.getfield 57, 3) := by decide +kernel
theorem dX7_reckoning_7 : decode cX7_reckoning 7 = .ok (.iconst 3, 1) := by decide +kernel
theorem dX7_reckoning_8 : decode cX7_reckoning 8 = .ok (.if_icmp .eq 5, 3) := by decide +kernel
theorem dX7_reckoning_11 : decode cX7_reckoning 11 = .ok (.iconst (-1), 1) := by decide +kernel
theorem dX7_reckoning_12 : decode cX7_reckoning 12 = .ok (.ireturn, 1) := by decide +kernel
theorem dX7_reckoning_13 : decode cX7_reckoning 13 = .ok (.aload_n 0, 1) := by decide +kernel
theorem dX7_reckoning_14 : decode cX7_reckoning 14 = .ok (.getfield 9, 3) := by decide +kernel
theorem dX7_reckoning_17 : decode cX7_reckoning 17 = .ok (.aload_n 0, 1) := by decide +kernel
theorem dX7_reckoning_18 : decode cX7_reckoning 18 = .ok (.getfield 9, 3) := by decide +kernel
theorem dX7_reckoning_21 : decode cX7_reckoning 21 = .ok (.getfield 121, 3) := by decide +kernel
theorem dX7_reckoning_24 : decode cX7_reckoning 24 = .ok (.invokevirtual 124, 3) := by decide +kernel
theorem dX7_reckoning_27 : decode cX7_reckoning 27 = .ok (.tableswitch 49 42 47 #[43, 37, 49, 40, 49, 46], 37) := by decide +kernel
theorem dX7_reckoning_64 : decode cX7_reckoning 64 = .ok (.bipush 10, 2) := by decide +kernel
theorem dX7_reckoning_66 : decode cX7_reckoning 66 = .ok (.ireturn, 1) := by decide +kernel
theorem dX7_reckoning_67 : decode cX7_reckoning 67 = .ok (.bipush 11, 2) := by decide +kernel
theorem dX7_reckoning_69 : decode cX7_reckoning 69 = .ok (.ireturn, 1) := by decide +kernel
theorem dX7_reckoning_70 : decode cX7_reckoning 70 = .ok (.bipush 12, 2) := by decide +kernel
theorem dX7_reckoning_72 : decode cX7_reckoning 72 = .ok (.ireturn, 1) := by decide +kernel
theorem dX7_reckoning_73 : decode cX7_reckoning 73 = .ok (.bipush 13, 2) := by decide +kernel
theorem dX7_reckoning_75 : decode cX7_reckoning 75 = .ok (.ireturn, 1) := by decide +kernel
theorem dX7_reckoning_76 : decode cX7_reckoning 76 = .ok (.iconst (-1), 1) := by decide +kernel
theorem dX7_reckoning_77 : decode cX7_reckoning 77 = .ok (.ireturn, 1) := by decide +kernel
theorem dX7_readValue_0 : decode cX7_readValue 0 = .ok (.aload_n 0, 1) := by decide +kernel
theorem dX7_readValue_1 : decode cX7_readValue 1 = .ok (.invokevirtual 134, 3) := by decide +kernel
theorem dX7_readValue_4 : decode cX7_readValue 4 = .ok (.istore_n 1, 1) := by decide +kernel
theorem dX7_readValue_5 : decode cX7_readValue 5 = .ok (.iload_n 1, 1) := by decide +kernel
theorem dX7_readValue_6 : decode cX7_readValue 6 = .ok (.iconst (-1), 1) := by decide +kernel
theorem dX7_readValue_7 : decode cX7_readValue 7 = .ok (.if_icmp .ne 29, 3) := by decide +kernel
theorem dX7_readValue_10 : decode cX7_readValue 10 = .ok (.aload_n 0, 1) := by decide +kernel
theorem dX7_readValue_11 : decode cX7_readValue 11 = .ok (.getfield 9, 3) := by decide +kernel
theorem dX7_readValue_14 : decode cX7_readValue 14 = .ok (.iconst 0, 1) := by decide +kernel
theorem dX7_readValue_15 : decode cX7_readValue 15 = .ok (.ldc 137, 2) := by decide +kernel
theorem dX7_readValue_17 : decode cX7_readValue 17 = .ok (.invokevirtual 79, 3) := by decide +kernel
theorem dX7_readValue_20 : decode cX7_readValue 20 = .ok (.ifCond .ne 5, 3) := by decide +kernel
theorem dX7_readValue_23 : decode cX7_readValue 23 = .ok (.iconst 0, 1) := by decide +kernel
theorem dX7_readValue_24 : decode cX7_readValue 24 = .ok (.ireturn, 1) := by decide +kernel
theorem dX7_readValue_25 : decode cX7_readValue 25 = .ok (.bipush 100, 2) := by decide +kernel
theorem dX7_readValue_27 : decode cX7_readValue 27 = .ok (.aload_n 0, 1) := by decide +kernel
theorem dX7_readValue_28 : decode cX7_readValue 28 = .ok (.getfield 9, 3) := by decide +kernel
theorem dX7_readValue_31 : decode cX7_readValue 31 = .ok (.getfield 138, 3) := by decide +kernel
theorem dX7_readValue_34 : decode cX7_readValue 34 = .ok (.iadd, 1) := by decide +kernel
theorem dX7_readValue_35 : decode cX7_readValue 35 = .ok (.istore_n 1, 1) := by decide +kernel
theorem dX7_readValue_36 : decode cX7_readValue 36 = .ok (.aload_n 0, 1) := by decide +kernel
theorem dX7_readValue_37 : decode cX7_readValue 37 = .ok (.invokevirtual 116, 3) := by decide +kernel
theorem dX7_readValue_40 : decode cX7_readValue 40 = .ok (.ifCond .ne 5, 3) := by decide +kernel
theorem dX7_readValue_43 : decode cX7_readValue 43 = .ok (.iconst 0, 1) := by decide +kernel
theorem dX7_readValue_44 : decode cX7_readValue 44 = .ok (.ireturn, 1) := by decide +kernel
theorem dX7_readValue_45 : decode cX7_readValue 45 = .ok (.aload_n 0, 1) := by decide +kernel
theorem dX7_readValue_46 : decode cX7_readValue 46 = .ok (.getfield 9, 3) := by decide +kernel
theorem dX7_readValue_49 : decode cX7_readValue 49 = .ok (.invokevirtual 47, 3) := by decide +kernel
theorem dX7_readValue_52 : decode cX7_readValue 52 = .ok (.aload_n 0, 1) := by decide +kernel
theorem dX7_readValue_53 : decode cX7_readValue 53 = .ok (.getfield 15, 3) := by decide +kernel
theorem dX7_readValue_56 : decode cX7_readValue 56 = .ok (.iload_n 1, 1) := by decide +kernel
theorem dX7_readValue_57 : decode cX7_readValue 57 = .ok (.invokevirtual 92, 3) := by decide +kernel
theorem dX7_readValue_60 : decode cX7_readValue 60 = .ok (.ireturn, 1) := by decide +kernel
theorem dX7_valueWord_0 : decode cX7_valueWord 0 = .ok (.aload_n 0, 1) := by decide +kernel
theorem dX7_valueWord_1 : decode cX7_valueWord 1 = .ok (.getfield 9, 3) := by decide +kernel
theorem dX7_valueWord_4 : decode cX7_valueWord 4 = .ok (.ldc 141, 2) := by decide +kernel
theorem dX7_valueWord_6 : decode cX7_valueWord 6 = .ok (.invokevirtual 43, 3) := by decide +kernel
theorem dX7_valueWord_9 : decode cX7_valueWord 9 = .ok (.ifCond .eq 5, 3) := by decide +kernel
theorem dX7_valueWord_12 : decode cX7_valueWord 12 = .ok (.iconst 0, 1) := by decide +kernel
theorem dX7_valueWord_13 : decode cX7_valueWord 13 = .ok (.ireturn, 1) := by decide +kernel
theorem dX7_valueWord_14 : decode cX7_valueWord 14 = .ok (.aload_n 0, 1) := by decide +kernel
theorem dX7_valueWord_15 : decode cX7_valueWord 15 = .ok (.getfield 9, 3) := by decide +kernel
theorem dX7_valueWord_18 : decode cX7_valueWord 18 = .ok (.ldc 143, 2) := by decide +kernel
theorem dX7_valueWord_20 : decode cX7_valueWord 20 = .ok (.invokevirtual 43, 3) := by decide +kernel
theorem dX7_valueWord_23 : decode cX7_valueWord 23 = .ok (.ifCond .eq 5, 3) := by decide +kernel
theorem dX7_valueWord_26 : decode cX7_valueWord 26 = .ok (.iconst 1, 1) := by decide +kernel
theorem dX7_valueWord_27 : decode cX7_valueWord 27 = .ok (.ireturn, 1) := by decide +kernel
theorem dX7_valueWord_28 : decode cX7_valueWord 28 = .ok (.aload_n 0, 1) := by decide +kernel
theorem dX7_valueWord_29 : decode cX7_valueWord 29 = .ok (.getfield 9, 3) := by decide +kernel
theorem dX7_valueWord_32 : decode cX7_valueWord 32 = .ok (.ldc 145, 2) := by decide +kernel
theorem dX7_valueWord_34 : decode cX7_valueWord 34 = .ok (.invokevirtual 43, 3) := by decide +kernel
theorem dX7_valueWord_37 : decode cX7_valueWord 37 = .ok (.ifCond .eq 5, 3) := by decide +kernel
theorem dX7_valueWord_40 : decode cX7_valueWord 40 = .ok (.iconst 2, 1) := by decide +kernel
theorem dX7_valueWord_41 : decode cX7_valueWord 41 = .ok (.ireturn, 1) := by decide +kernel
theorem dX7_valueWord_42 : decode cX7_valueWord 42 = .ok (.aload_n 0, 1) := by decide +kernel
theorem dX7_valueWord_43 : decode cX7_valueWord 43 = .ok (.getfield 9, 3) := by decide +kernel
theorem dX7_valueWord_46 : decode cX7_valueWord 46 = .ok (.ldc 147, 2) := by decide +kernel
theorem dX7_valueWord_48 : decode cX7_valueWord 48 = .ok (.invokevirtual 43, 3) := by decide +kernel
theorem dX7_valueWord_51 : decode cX7_valueWord 51 = .ok (.ifCond .eq 5, 3) := by decide +kernel
theorem dX7_valueWord_54 : decode cX7_valueWord 54 = .ok (.iconst 3, 1) := by decide +kernel
theorem dX7_valueWord_55 : decode cX7_valueWord 55 = .ok (.ireturn, 1) := by decide +kernel
theorem dX7_valueWord_56 : decode cX7_valueWord 56 = .ok (.aload_n 0, 1) := by decide +kernel
theorem dX7_valueWord_57 : decode cX7_valueWord 57 = .ok (.getfield 9, 3) := by decide +kernel
theorem dX7_valueWord_60 : decode cX7_valueWord 60 = .ok (.ldc 149, 2) := by decide +kernel
theorem dX7_valueWord_62 : decode cX7_valueWord 62 = .ok (.invokevirtual 43, 3) := by decide +kernel
theorem dX7_valueWord_65 : decode cX7_valueWord 65 = .ok (.ifCond .eq 5, 3) := by decide +kernel
theorem dX7_valueWord_68 : decode cX7_valueWord 68 = .ok (.iconst 4, 1) := by decide +kernel
theorem dX7_valueWord_69 : decode cX7_valueWord 69 = .ok (.ireturn, 1) := by decide +kernel
theorem dX7_valueWord_70 : decode cX7_valueWord 70 = .ok (.aload_n 0, 1) := by decide +kernel
theorem dX7_valueWord_71 : decode cX7_valueWord 71 = .ok (.getfield 9, 3) := by decide +kernel
theorem dX7_valueWord_74 : decode cX7_valueWord 74 = .ok (.ldc 151, 2) := by decide +kernel
theorem dX7_valueWord_76 : decode cX7_valueWord 76 = .ok (.invokevirtual 43, 3) := by decide +kernel
theorem dX7_valueWord_79 : decode cX7_valueWord 79 = .ok (.ifCond .eq 5, 3) := by decide +kernel
theorem dX7_valueWord_82 : decode cX7_valueWord 82 = .ok (.iconst 5, 1) := by decide +kernel
theorem dX7_valueWord_83 : decode cX7_valueWord 83 = .ok (.ireturn, 1) := by decide +kernel
theorem dX7_valueWord_84 : decode cX7_valueWord 84 = .ok (.aload_n 0, 1) := by decide +kernel
theorem dX7_valueWord_85 : decode cX7_valueWord 85 = .ok (.getfield 9, 3) := by decide +kernel
theorem dX7_valueWord_88 : decode cX7_valueWord 88 = .ok (.ldc 153, 2) := by decide +kernel
theorem dX7_valueWord_90 : decode cX7_valueWord 90 = .ok (.invokevirtual 43, 3) := by decide +kernel
theorem dX7_valueWord_93 : decode cX7_valueWord 93 = .ok (.ifCond .eq 6, 3) := by decide +kernel
theorem dX7_valueWord_96 : decode cX7_valueWord 96 = .ok (.bipush 6, 2) := by decide +kernel
theorem dX7_valueWord_98 : decode cX7_valueWord 98 = .ok (.ireturn, 1) := by decide +kernel
theorem dX7_valueWord_99 : decode cX7_valueWord 99 = .ok (.aload_n 0, 1) := by decide +kernel
theorem dX7_valueWord_100 : decode cX7_valueWord 100 = .ok (.getfield 9, 3) := by decide +kernel
theorem dX7_valueWord_103 : decode cX7_valueWord 103 = .ok (.ldc 155, 2) := by decide +kernel
theorem dX7_valueWord_105 : decode cX7_valueWord 105 = .ok (.invokevirtual 43, 3) := by decide +kernel
theorem dX7_valueWord_108 : decode cX7_valueWord 108 = .ok (.ifCond .eq 8, 3) := by decide +kernel
theorem dX7_valueWord_111 : decode cX7_valueWord 111 = .ok (.bipush 7, 2) := by decide +kernel
theorem dX7_valueWord_113 : decode cX7_valueWord 113 = .ok (.goto 4, 3) := by decide +kernel
theorem dX7_valueWord_116 : decode cX7_valueWord 116 = .ok (.iconst (-1), 1) := by decide +kernel
theorem dX7_valueWord_117 : decode cX7_valueWord 117 = .ok (.ireturn, 1) := by decide +kernel
theorem dX7_countPart_0 : decode cX7_countPart 0 = .ok (.aload_n 0, 1) := by decide +kernel
theorem dX7_countPart_1 : decode cX7_countPart 1 = .ok (.dup, 1) := by decide +kernel
theorem dX7_countPart_2 : decode cX7_countPart 2 = .ok (.getfield 157, 3) := by decide +kernel
theorem dX7_countPart_5 : decode cX7_countPart 5 = .ok (.iconst 1, 1) := by decide +kernel
theorem dX7_countPart_6 : decode cX7_countPart 6 = .ok (.iadd, 1) := by decide +kernel
theorem dX7_countPart_7 : decode cX7_countPart 7 = .ok (.putfield 157, 3) := by decide +kernel
theorem dX7_countPart_10 : decode cX7_countPart 10 = .ok (.aload_n 0, 1) := by decide +kernel
theorem dX7_countPart_11 : decode cX7_countPart 11 = .ok (.getfield 157, 3) := by decide +kernel
theorem dX7_countPart_14 : decode cX7_countPart 14 = .ok (.bipush 60, 2) := by decide +kernel
theorem dX7_countPart_16 : decode cX7_countPart 16 = .ok (.if_icmp .le 14, 3) := by decide +kernel
theorem dX7_countPart_19 : decode cX7_countPart 19 = .ok (.aload_n 0, 1) := by decide +kernel
theorem dX7_countPart_20 : decode cX7_countPart 20 = .ok (.getfield 9, 3) := by decide +kernel
theorem dX7_countPart_23 : decode cX7_countPart 23 = .ok (.iconst 3, 1) := by decide +kernel
theorem dX7_countPart_24 : decode cX7_countPart 24 = .ok (.invokevirtual 64, 3) := by decide +kernel
theorem dX7_countPart_27 : decode cX7_countPart 27 = .ok (.ifCond .eq 7, 3) := by decide +kernel
theorem dX7_countPart_30 : decode cX7_countPart 30 = .ok (.iconst 1, 1) := by decide +kernel
theorem dX7_countPart_31 : decode cX7_countPart 31 = .ok (.goto 4, 3) := by decide +kernel
theorem dX7_countPart_34 : decode cX7_countPart 34 = .ok (.iconst 0, 1) := by decide +kernel
theorem dX7_countPart_35 : decode cX7_countPart 35 = .ok (.ireturn, 1) := by decide +kernel
theorem dX8_init_0 : decode cX8_init 0 = .ok (.aload_n 0, 1) := by decide +kernel
theorem dX8_init_1 : decode cX8_init 1 = .ok (.invokespecial 1, 3) := by decide +kernel
theorem dX8_init_4 : decode cX8_init 4 = .ok (.aload_n 0, 1) := by decide +kernel
theorem dX8_init_5 : decode cX8_init 5 = .ok (.new 7, 3) := by decide +kernel
theorem dX8_init_8 : decode cX8_init 8 = .ok (.dup, 1) := by decide +kernel
theorem dX8_init_9 : decode cX8_init 9 = .ok (.invokespecial 9, 3) := by decide +kernel
theorem dX8_init_12 : decode cX8_init 12 = .ok (.putfield 10, 3) := by decide +kernel
theorem dX8_init_15 : decode cX8_init 15 = .ok (.aload_n 0, 1) := by decide +kernel
theorem dX8_init_16 : decode cX8_init 16 = .ok (.new 16, 3) := by decide +kernel
theorem dX8_init_19 : decode cX8_init 19 = .ok (.dup, 1) := by decide +kernel
theorem dX8_init_20 : decode cX8_init 20 = .ok (.invokespecial 18, 3) := by decide +kernel
theorem dX8_init_23 : decode cX8_init 23 = .ok (.putfield 19, 3) := by decide +kernel
theorem dX8_init_26 : decode cX8_init 26 = .ok (.aload_n 0, 1) := by decide +kernel
theorem dX8_init_27 : decode cX8_init 27 = .ok (.new 23, 3) := by decide +kernel
theorem dX8_init_30 : decode cX8_init 30 = .ok (.dup, 1) := by decide +kernel
theorem dX8_init_31 : decode cX8_init 31 = .ok (.invokespecial 25, 3) := by decide +kernel
theorem dX8_init_34 : decode cX8_init 34 = .ok (.putfield 26, 3) := by decide +kernel
theorem dX8_init_37 : decode cX8_init 37 = .ok (.return_, 1) := by decide +kernel
theorem dX8_copyFrom_0 : decode cX8_copyFrom 0 = .ok (.aload_n 0, 1) := by decide +kernel
theorem dX8_copyFrom_1 : decode cX8_copyFrom 1 = .ok (.getfield 10, 3) := by decide +kernel
theorem dX8_copyFrom_4 : decode cX8_copyFrom 4 = .ok (.aload_n 1, 1) := by decide +kernel
theorem dX8_copyFrom_5 : decode cX8_copyFrom 5 = .ok (.getfield 10, 3) := by decide +kernel
theorem dX8_copyFrom_8 : decode cX8_copyFrom 8 = .ok (.invokevirtual 30, 3) := by decide +kernel
theorem dX8_copyFrom_11 : decode cX8_copyFrom 11 = .ok (.aload_n 0, 1) := by decide +kernel
theorem dX8_copyFrom_12 : decode cX8_copyFrom 12 = .ok (.getfield 19, 3) := by decide +kernel
theorem dX8_copyFrom_15 : decode cX8_copyFrom 15 = .ok (.aload_n 1, 1) := by decide +kernel
theorem dX8_copyFrom_16 : decode cX8_copyFrom 16 = .ok (.getfield 19, 3) := by decide +kernel
theorem dX8_copyFrom_19 : decode cX8_copyFrom 19 = .ok (.invokevirtual 34, 3) := by decide +kernel
theorem dX8_copyFrom_22 : decode cX8_copyFrom 22 = .ok (.aload_n 0, 1) := by decide +kernel
theorem dX8_copyFrom_23 : decode cX8_copyFrom 23 = .ok (.getfield 26, 3) := by decide +kernel
theorem dX8_copyFrom_26 : decode cX8_copyFrom 26 = .ok (.aload_n 1, 1) := by decide +kernel
theorem dX8_copyFrom_27 : decode cX8_copyFrom 27 = .ok (.getfield 26, 3) := by decide +kernel
theorem dX8_copyFrom_30 : decode cX8_copyFrom 30 = .ok (.invokevirtual 37, 3) := by decide +kernel
theorem dX8_copyFrom_33 : decode cX8_copyFrom 33 = .ok (.return_, 1) := by decide +kernel
theorem dX8_moveInto_0 : decode cX8_moveInto 0 = .ok (.aload_n 0, 1) := by decide +kernel
theorem dX8_moveInto_1 : decode cX8_moveInto 1 = .ok (.getfield 10, 3) := by decide +kernel
theorem dX8_moveInto_4 : decode cX8_moveInto 4 = .ok (.aload_n 1, 1) := by decide +kernel
theorem dX8_moveInto_5 : decode cX8_moveInto 5 = .ok (.invokevirtual 30, 3) := by decide +kernel
theorem dX8_moveInto_8 : decode cX8_moveInto 8 = .ok (.aload_n 0, 1) := by decide +kernel
theorem dX8_moveInto_9 : decode cX8_moveInto 9 = .ok (.getfield 19, 3) := by decide +kernel
theorem dX8_moveInto_12 : decode cX8_moveInto 12 = .ok (.aload_n 0, 1) := by decide +kernel
theorem dX8_moveInto_13 : decode cX8_moveInto 13 = .ok (.getfield 10, 3) := by decide +kernel
theorem dX8_moveInto_16 : decode cX8_moveInto 16 = .ok (.invokevirtual 40, 3) := by decide +kernel
theorem dX8_moveInto_19 : decode cX8_moveInto 19 = .ok (.aload_n 0, 1) := by decide +kernel
theorem dX8_moveInto_20 : decode cX8_moveInto 20 = .ok (.getfield 26, 3) := by decide +kernel
theorem dX8_moveInto_23 : decode cX8_moveInto 23 = .ok (.iconst 0, 1) := by decide +kernel
theorem dX8_moveInto_24 : decode cX8_moveInto 24 = .ok (.putfield 43, 3) := by decide +kernel
theorem dX8_moveInto_27 : decode cX8_moveInto 27 = .ok (.aload_n 0, 1) := by decide +kernel
theorem dX8_moveInto_28 : decode cX8_moveInto 28 = .ok (.getfield 26, 3) := by decide +kernel
theorem dX8_moveInto_31 : decode cX8_moveInto 31 = .ok (.iconst 0, 1) := by decide +kernel
theorem dX8_moveInto_32 : decode cX8_moveInto 32 = .ok (.putfield 47, 3) := by decide +kernel
theorem dX8_moveInto_35 : decode cX8_moveInto 35 = .ok (.return_, 1) := by decide +kernel
theorem dX9_init_0 : decode cX9_init 0 = .ok (.aload_n 0, 1) := by decide +kernel
theorem dX9_init_1 : decode cX9_init 1 = .ok (.invokespecial 3, 3) := by decide +kernel
theorem dX9_init_4 : decode cX9_init 4 = .ok (.aload_n 0, 1) := by decide +kernel
theorem dX9_init_5 : decode cX9_init 5 = .ok (.sipush 400, 3) := by decide +kernel
theorem dX9_init_8 : decode cX9_init 8 = .ok (.newarray .int, 2) := by decide +kernel
theorem dX9_init_10 : decode cX9_init 10 = .ok (.putfield 9, 3) := by decide +kernel
theorem dX9_init_13 : decode cX9_init 13 = .ok (.return_, 1) := by decide +kernel
theorem dX9_append_0 : decode cX9_append 0 = .ok (.bipush 24, 2) := by decide +kernel
theorem dX9_append_2 : decode cX9_append 2 = .ok (.istore_n 2, 1) := by decide +kernel
theorem dX9_append_3 : decode cX9_append 3 = .ok (.iload_n 2, 1) := by decide +kernel
theorem dX9_append_4 : decode cX9_append 4 = .ok (.ifCond .lt 47, 3) := by decide +kernel
theorem dX9_append_7 : decode cX9_append 7 = .ok (.aload_n 0, 1) := by decide +kernel
theorem dX9_append_8 : decode cX9_append 8 = .ok (.getfield 15, 3) := by decide +kernel
theorem dX9_append_11 : decode cX9_append 11 = .ok (.aload_n 0, 1) := by decide +kernel
theorem dX9_append_12 : decode cX9_append 12 = .ok (.getfield 9, 3) := by decide +kernel
theorem dX9_append_15 : decode cX9_append 15 = .ok (.arraylength, 1) := by decide +kernel
theorem dX9_append_16 : decode cX9_append 16 = .ok (.if_icmp .ge 35, 3) := by decide +kernel
theorem dX9_append_19 : decode cX9_append 19 = .ok (.aload_n 0, 1) := by decide +kernel
theorem dX9_append_20 : decode cX9_append 20 = .ok (.getfield 9, 3) := by decide +kernel
theorem dX9_append_23 : decode cX9_append 23 = .ok (.aload_n 0, 1) := by decide +kernel
theorem dX9_append_24 : decode cX9_append 24 = .ok (.getfield 15, 3) := by decide +kernel
theorem dX9_append_27 : decode cX9_append 27 = .ok (.iload_n 1, 1) := by decide +kernel
theorem dX9_append_28 : decode cX9_append 28 = .ok (.iload_n 2, 1) := by decide +kernel
theorem dX9_append_29 : decode cX9_append 29 = .ok (.ishr, 1) := by decide +kernel
theorem dX9_append_30 : decode cX9_append 30 = .ok (.sipush 255, 3) := by decide +kernel
theorem dX9_append_33 : decode cX9_append 33 = .ok (.iand, 1) := by decide +kernel
theorem dX9_append_34 : decode cX9_append 34 = .ok (.iastore, 1) := by decide +kernel
theorem dX9_append_35 : decode cX9_append 35 = .ok (.aload_n 0, 1) := by decide +kernel
theorem dX9_append_36 : decode cX9_append 36 = .ok (.dup, 1) := by decide +kernel
theorem dX9_append_37 : decode cX9_append 37 = .ok (.getfield 15, 3) := by decide +kernel
theorem dX9_append_40 : decode cX9_append 40 = .ok (.iconst 1, 1) := by decide +kernel
theorem dX9_append_41 : decode cX9_append 41 = .ok (.iadd, 1) := by decide +kernel
theorem dX9_append_42 : decode cX9_append 42 = .ok (.putfield 15, 3) := by decide +kernel
theorem dX9_append_45 : decode cX9_append 45 = .ok (.iinc 2 (-8), 3) := by decide +kernel
theorem dX9_append_48 : decode cX9_append 48 = .ok (.goto (-45), 3) := by decide +kernel
theorem dX9_append_51 : decode cX9_append 51 = .ok (.return_, 1) := by decide +kernel
theorem dX9_begin_0 : decode cX9_begin 0 = .ok (.aload_n 0, 1) := by decide +kernel
theorem dX9_begin_1 : decode cX9_begin 1 = .ok (.iconst 0, 1) := by decide +kernel
theorem dX9_begin_2 : decode cX9_begin 2 = .ok (.putfield 19, 3) := by decide +kernel
theorem dX9_begin_5 : decode cX9_begin 5 = .ok (.aload_n 0, 1) := by decide +kernel
theorem dX9_begin_6 : decode cX9_begin 6 = .ok (.iconst 0, 1) := by decide +kernel
theorem dX9_begin_7 : decode cX9_begin 7 = .ok (.putfield 22, 3) := by decide +kernel
theorem dX9_begin_10 : decode cX9_begin 10 = .ok (.aload_n 0, 1) := by decide +kernel
theorem dX9_begin_11 : decode cX9_begin 11 = .ok (.invokevirtual 25, 3) := by decide +kernel
theorem dX9_begin_14 : decode cX9_begin 14 = .ok (.return_, 1) := by decide +kernel
theorem dX9_advance_0 : decode cX9_advance 0 = .ok (.aload_n 0, 1) := by decide +kernel
theorem dX9_advance_1 : decode cX9_advance 1 = .ok (.getfield 22, 3) := by decide +kernel
theorem dX9_advance_4 : decode cX9_advance 4 = .ok (.istore_n 1, 1) := by decide +kernel
theorem dX9_advance_5 : decode cX9_advance 5 = .ok (.iload_n 1, 1) := by decide +kernel
theorem dX9_advance_6 : decode cX9_advance 6 = .ok (.aload_n 0, 1) := by decide +kernel
theorem dX9_advance_7 : decode cX9_advance 7 = .ok (.getfield 15, 3) := by decide +kernel
theorem dX9_advance_10 : decode cX9_advance 10 = .ok (.if_icmp .ge 19, 3) := by decide +kernel
theorem dX9_advance_13 : decode cX9_advance 13 = .ok (.aload_n 0, 1) := by decide +kernel
theorem dX9_advance_14 : decode cX9_advance 14 = .ok (.iload_n 1, 1) := by decide +kernel
theorem dX9_advance_15 : decode cX9_advance 15 = .ok (.invokevirtual 28, 3) := by decide +kernel
theorem dX9_advance_18 : decode cX9_advance 18 = .ok (.bipush 32, 2) := by decide +kernel
theorem dX9_advance_20 : decode cX9_advance 20 = .ok (.if_icmp .ne 9, 3) := by decide +kernel
theorem dX9_advance_23 : decode cX9_advance 23 = .ok (.iinc 1 1, 3) := by decide +kernel
theorem dX9_advance_26 : decode cX9_advance 26 = .ok (.goto (-21), 3) := by decide +kernel
theorem dX9_advance_29 : decode cX9_advance 29 = .ok (.aload_n 0, 1) := by decide +kernel
theorem dX9_advance_30 : decode cX9_advance 30 = .ok (.iload_n 1, 1) := by decide +kernel
theorem dX9_advance_31 : decode cX9_advance 31 = .ok (.putfield 32, 3) := by decide +kernel
theorem dX9_advance_34 : decode cX9_advance 34 = .ok (.iload_n 1, 1) := by decide +kernel
theorem dX9_advance_35 : decode cX9_advance 35 = .ok (.aload_n 0, 1) := by decide +kernel
theorem dX9_advance_36 : decode cX9_advance 36 = .ok (.getfield 15, 3) := by decide +kernel
theorem dX9_advance_39 : decode cX9_advance 39 = .ok (.if_icmp .lt 11, 3) := by decide +kernel
theorem dX9_advance_42 : decode cX9_advance 42 = .ok (.aload_n 0, 1) := by decide +kernel
theorem dX9_advance_43 : decode cX9_advance 43 = .ok (.iconst 0, 1) := by decide +kernel
theorem dX9_advance_44 : decode cX9_advance 44 = .ok (.putfield 35, 3) := by decide +kernel
theorem dX9_advance_47 : decode cX9_advance 47 = .ok (.goto 124, 3) := by decide +kernel
theorem dX9_advance_50 : decode cX9_advance 50 = .ok (.aload_n 0, 1) := by decide +kernel
theorem dX9_advance_51 : decode cX9_advance 51 = .ok (.iload_n 1, 1) := by decide +kernel
theorem dX9_advance_52 : decode cX9_advance 52 = .ok (.invokevirtual 28, 3) := by decide +kernel
theorem dX9_advance_55 : decode cX9_advance 55 = .ok (.invokestatic 38, 3) := by decide +kernel
theorem dX9_advance_58 : decode cX9_advance 58 = .ok (.ifCond .eq 33, 3) := by decide +kernel
theorem dX9_advance_61 : decode cX9_advance 61 = .ok (.aload_n 0, 1) := by decide +kernel
theorem dX9_advance_62 : decode cX9_advance 62 = .ok (.iconst 1, 1) := by decide +kernel
theorem dX9_advance_63 : decode cX9_advance 63 = .ok (.putfield 35, 3) := by decide +kernel
theorem dX9_advance_66 : decode cX9_advance 66 = .ok (.aload_n 0, 1) := by decide +kernel
theorem dX9_advance_67 : decode cX9_advance 67 = .ok (.iload_n 1, 1) := by decide +kernel
theorem dX9_advance_68 : decode cX9_advance 68 = .ok (.invokevirtual 28, 3) := by decide +kernel
theorem dX9_advance_71 : decode cX9_advance 71 = .ok (.invokestatic 38, 3) := by decide +kernel
theorem dX9_advance_74 : decode cX9_advance 74 = .ok (.ifCond .eq 97, 3) := by decide +kernel
theorem dX9_advance_77 : decode cX9_advance 77 = .ok (.iload_n 1, 1) := by decide +kernel
theorem dX9_advance_78 : decode cX9_advance 78 = .ok (.aload_n 0, 1) := by decide +kernel
theorem dX9_advance_79 : decode cX9_advance 79 = .ok (.getfield 15, 3) := by decide +kernel
theorem dX9_advance_82 : decode cX9_advance 82 = .ok (.if_icmp .ge 89, 3) := by decide +kernel
theorem dX9_advance_85 : decode cX9_advance 85 = .ok (.iinc 1 1, 3) := by decide +kernel
theorem dX9_advance_88 : decode cX9_advance 88 = .ok (.goto (-22), 3) := by decide +kernel
theorem dX9_advance_91 : decode cX9_advance 91 = .ok (.aload_n 0, 1) := by decide +kernel
theorem dX9_advance_92 : decode cX9_advance 92 = .ok (.iload_n 1, 1) := by decide +kernel
theorem dX9_advance_93 : decode cX9_advance 93 = .ok (.invokevirtual 28, 3) := by decide +kernel
theorem dX9_advance_96 : decode cX9_advance 96 = .ok (.invokestatic 42, 3) := by decide +kernel
theorem dX9_advance_99 : decode cX9_advance 99 = .ok (.ifCond .eq 17, 3) := by decide +kernel
theorem dX9_advance_102 : decode cX9_advance 102 = .ok (.aload_n 0, 1) := by decide +kernel
theorem dX9_advance_103 : decode cX9_advance 103 = .ok (.iconst 2, 1) := by decide +kernel
theorem dX9_advance_104 : decode cX9_advance 104 = .ok (.putfield 35, 3) := by decide +kernel
theorem dX9_advance_107 : decode cX9_advance 107 = .ok (.aload_n 0, 1) := by decide +kernel
theorem dX9_advance_108 : decode cX9_advance 108 = .ok (.iload_n 1, 1) := by decide +kernel
theorem dX9_advance_109 : decode cX9_advance 109 = .ok (.invokevirtual 45, 3) := by decide +kernel
theorem dX9_advance_112 : decode cX9_advance 112 = .ok (.istore_n 1, 1) := by decide +kernel
theorem dX9_advance_113 : decode cX9_advance 113 = .ok (.goto 58, 3) := by decide +kernel
theorem dX9_advance_116 : decode cX9_advance 116 = .ok (.aload_n 0, 1) := by decide +kernel
theorem dX9_advance_117 : decode cX9_advance 117 = .ok (.iconst 3, 1) := by decide +kernel
theorem dX9_advance_118 : decode cX9_advance 118 = .ok (.putfield 35, 3) := by decide +kernel
theorem dX9_advance_121 : decode cX9_advance 121 = .ok (.aload_n 0, 1) := by decide +kernel
theorem dX9_advance_122 : decode cX9_advance 122 = .ok (.iload_n 1, 1) := by decide +kernel
theorem dX9_advance_123 : decode cX9_advance 123 = .ok (.invokevirtual 28, 3) := by decide +kernel
theorem dX9_advance_126 : decode cX9_advance 126 = .ok (.bipush 60, 2) := by decide +kernel
theorem dX9_advance_128 : decode cX9_advance 128 = .ok (.if_icmp .eq 13, 3) := by decide +kernel
theorem dX9_advance_131 : decode cX9_advance 131 = .ok (.aload_n 0, 1) := by decide +kernel
theorem dX9_advance_132 : decode cX9_advance 132 = .ok (.iload_n 1, 1) := by decide +kernel
theorem dX9_advance_133 : decode cX9_advance 133 = .ok (.invokevirtual 28, 3) := by decide +kernel
theorem dX9_advance_136 : decode cX9_advance 136 = .ok (.bipush 62, 2) := by decide +kernel
theorem dX9_advance_138 : decode cX9_advance 138 = .ok (.if_icmp .ne 7, 3) := by decide +kernel
theorem dX9_advance_141 : decode cX9_advance 141 = .ok (.iconst 1, 1) := by decide +kernel
theorem dX9_advance_142 : decode cX9_advance 142 = .ok (.goto 4, 3) := by decide +kernel
theorem dX9_advance_145 : decode cX9_advance 145 = .ok (.iconst 0, 1) := by decide +kernel
theorem dX9_advance_146 : decode cX9_advance 146 = .ok (.istore_n 2, 1) := by decide +kernel
theorem dX9_advance_147 : decode cX9_advance 147 = .ok (.iload_n 1, 1) := by decide +kernel
theorem dX9_advance_148 : decode cX9_advance 148 = .ok (.iload_n 2, 1) := by decide +kernel
theorem dX9_advance_149 : decode cX9_advance 149 = .ok (.ifCond .eq 19, 3) := by decide +kernel
theorem dX9_advance_152 : decode cX9_advance 152 = .ok (.aload_n 0, 1) := by decide +kernel
theorem dX9_advance_153 : decode cX9_advance 153 = .ok (.iload_n 1, 1) := by decide +kernel
theorem dX9_advance_154 : decode cX9_advance 154 = .ok (.iconst 1, 1) := by decide +kernel
theorem dX9_advance_155 : decode cX9_advance 155 = .ok (.iadd, 1) := by decide +kernel
theorem dX9_advance_156 : decode cX9_advance 156 = .ok (.invokevirtual 28, 3) := by decide +kernel
theorem dX9_advance_159 : decode cX9_advance 159 = .ok (.bipush 61, 2) := by decide +kernel
theorem dX9_advance_161 : decode cX9_advance 161 = .ok (.if_icmp .ne 7, 3) := by decide +kernel
theorem dX9_advance_164 : decode cX9_advance 164 = .ok (.iconst 2, 1) := by decide +kernel
theorem dX9_advance_165 : decode cX9_advance 165 = .ok (.goto 4, 3) := by decide +kernel
theorem dX9_advance_168 : decode cX9_advance 168 = .ok (.iconst 1, 1) := by decide +kernel
theorem dX9_advance_169 : decode cX9_advance 169 = .ok (.iadd, 1) := by decide +kernel
theorem dX9_advance_170 : decode cX9_advance 170 = .ok (.istore_n 1, 1) := by decide +kernel
theorem dX9_advance_171 : decode cX9_advance 171 = .ok (.aload_n 0, 1) := by decide +kernel
theorem dX9_advance_172 : decode cX9_advance 172 = .ok (.iload_n 1, 1) := by decide +kernel
theorem dX9_advance_173 : decode cX9_advance 173 = .ok (.putfield 22, 3) := by decide +kernel
theorem dX9_advance_176 : decode cX9_advance 176 = .ok (.return_, 1) := by decide +kernel
theorem dX9_behindDigits_0 : decode cX9_behindDigits 0 = .ok (.iload_n 1, 1) := by decide +kernel
theorem dX9_behindDigits_1 : decode cX9_behindDigits 1 = .ok (.istore_n 2, 1) := by decide +kernel
theorem dX9_behindDigits_2 : decode cX9_behindDigits 2 = .ok (.aload_n 0, 1) := by decide +kernel
theorem dX9_behindDigits_3 : decode cX9_behindDigits 3 = .ok (.iconst 0, 1) := by decide +kernel
theorem dX9_behindDigits_4 : decode cX9_behindDigits 4 = .ok (.putfield 48, 3) := by decide +kernel
theorem dX9_behindDigits_7 : decode cX9_behindDigits 7 = .ok (.aload_n 0, 1) := by decide +kernel
theorem dX9_behindDigits_8 : decode cX9_behindDigits 8 = .ok (.iconst 0, 1) := by decide +kernel
theorem dX9_behindDigits_9 : decode cX9_behindDigits 9 = .ok (.putfield 51, 3) := by decide +kernel
theorem dX9_behindDigits_12 : decode cX9_behindDigits 12 = .ok (.iload_n 2, 1) := by decide +kernel
theorem dX9_behindDigits_13 : decode cX9_behindDigits 13 = .ok (.ifCond .lt 87, 3) := by decide +kernel
theorem dX9_behindDigits_16 : decode cX9_behindDigits 16 = .ok (.iload_n 2, 1) := by decide +kernel
theorem dX9_behindDigits_17 : decode cX9_behindDigits 17 = .ok (.aload_n 0, 1) := by decide +kernel
theorem dX9_behindDigits_18 : decode cX9_behindDigits 18 = .ok (.getfield 15, 3) := by decide +kernel
theorem dX9_behindDigits_21 : decode cX9_behindDigits 21 = .ok (.if_icmp .ge 79, 3) := by decide +kernel
theorem dX9_behindDigits_24 : decode cX9_behindDigits 24 = .ok (.iload_n 2, 1) := by decide +kernel
theorem dX9_behindDigits_25 : decode cX9_behindDigits 25 = .ok (.aload_n 0, 1) := by decide +kernel
theorem dX9_behindDigits_26 : decode cX9_behindDigits 26 = .ok (.getfield 9, 3) := by decide +kernel
theorem dX9_behindDigits_29 : decode cX9_behindDigits 29 = .ok (.arraylength, 1) := by decide +kernel
theorem dX9_behindDigits_30 : decode cX9_behindDigits 30 = .ok (.if_icmp .ge 70, 3) := by decide +kernel
theorem dX9_behindDigits_33 : decode cX9_behindDigits 33 = .ok (.aload_n 0, 1) := by decide +kernel
theorem dX9_behindDigits_34 : decode cX9_behindDigits 34 = .ok (.getfield 9, 3) := by decide +kernel
theorem dX9_behindDigits_37 : decode cX9_behindDigits 37 = .ok (.iload_n 2, 1) := by decide +kernel
theorem dX9_behindDigits_38 : decode cX9_behindDigits 38 = .ok (.iaload, 1) := by decide +kernel
theorem dX9_behindDigits_39 : decode cX9_behindDigits 39 = .ok (.bipush 48, 2) := by decide +kernel
theorem dX9_behindDigits_41 : decode cX9_behindDigits 41 = .ok (.if_icmp .lt 59, 3) := by decide +kernel
theorem dX9_behindDigits_44 : decode cX9_behindDigits 44 = .ok (.aload_n 0, 1) := by decide +kernel
theorem dX9_behindDigits_45 : decode cX9_behindDigits 45 = .ok (.getfield 9, 3) := by decide +kernel
theorem dX9_behindDigits_48 : decode cX9_behindDigits 48 = .ok (.iload_n 2, 1) := by decide +kernel
theorem dX9_behindDigits_49 : decode cX9_behindDigits 49 = .ok (.iaload, 1) := by decide +kernel
theorem dX9_behindDigits_50 : decode cX9_behindDigits 50 = .ok (.bipush 57, 2) := by decide +kernel
theorem dX9_behindDigits_52 : decode cX9_behindDigits 52 = .ok (.if_icmp .gt 48, 3) := by decide +kernel
theorem dX9_behindDigits_55 : decode cX9_behindDigits 55 = .ok (.aload_n 0, 1) := by decide +kernel
theorem dX9_behindDigits_56 : decode cX9_behindDigits 56 = .ok (.dup, 1) := by decide +kernel
theorem dX9_behindDigits_57 : decode cX9_behindDigits 57 = .ok (.getfield 48, 3) := by decide +kernel
theorem dX9_behindDigits_60 : decode cX9_behindDigits 60 = .ok (.iconst 1, 1) := by decide +kernel
theorem dX9_behindDigits_61 : decode cX9_behindDigits 61 = .ok (.iadd, 1) := by decide +kernel
theorem dX9_behindDigits_62 : decode cX9_behindDigits 62 = .ok (.putfield 48, 3) := by decide +kernel
theorem dX9_behindDigits_65 : decode cX9_behindDigits 65 = .ok (.aload_n 0, 1) := by decide +kernel
theorem dX9_behindDigits_66 : decode cX9_behindDigits 66 = .ok (.getfield 48, 3) := by decide +kernel
theorem dX9_behindDigits_69 : decode cX9_behindDigits 69 = .ok (.iconst 5, 1) := by decide +kernel
theorem dX9_behindDigits_70 : decode cX9_behindDigits 70 = .ok (.if_icmp .gt 24, 3) := by decide +kernel
theorem dX9_behindDigits_73 : decode cX9_behindDigits 73 = .ok (.aload_n 0, 1) := by decide +kernel
theorem dX9_behindDigits_74 : decode cX9_behindDigits 74 = .ok (.aload_n 0, 1) := by decide +kernel
theorem dX9_behindDigits_75 : decode cX9_behindDigits 75 = .ok (.getfield 51, 3) := by decide +kernel
theorem dX9_behindDigits_78 : decode cX9_behindDigits 78 = .ok (.bipush 10, 2) := by decide +kernel
theorem dX9_behindDigits_80 : decode cX9_behindDigits 80 = .ok (.imul, 1) := by decide +kernel
theorem dX9_behindDigits_81 : decode cX9_behindDigits 81 = .ok (.aload_n 0, 1) := by decide +kernel
theorem dX9_behindDigits_82 : decode cX9_behindDigits 82 = .ok (.getfield 9, 3) := by decide +kernel
theorem dX9_behindDigits_85 : decode cX9_behindDigits 85 = .ok (.iload_n 2, 1) := by decide +kernel
theorem dX9_behindDigits_86 : decode cX9_behindDigits 86 = .ok (.iaload, 1) := by decide +kernel
theorem dX9_behindDigits_87 : decode cX9_behindDigits 87 = .ok (.iadd, 1) := by decide +kernel
theorem dX9_behindDigits_88 : decode cX9_behindDigits 88 = .ok (.bipush 48, 2) := by decide +kernel
theorem dX9_behindDigits_90 : decode cX9_behindDigits 90 = .ok (.isub, 1) := by decide +kernel
theorem dX9_behindDigits_91 : decode cX9_behindDigits 91 = .ok (.putfield 51, 3) := by decide +kernel
theorem dX9_behindDigits_94 : decode cX9_behindDigits 94 = .ok (.iinc 2 1, 3) := by decide +kernel
theorem dX9_behindDigits_97 : decode cX9_behindDigits 97 = .ok (.goto (-85), 3) := by decide +kernel
theorem dX9_behindDigits_100 : decode cX9_behindDigits 100 = .ok (.iload_n 2, 1) := by decide +kernel
theorem dX9_behindDigits_101 : decode cX9_behindDigits 101 = .ok (.ireturn, 1) := by decide +kernel
theorem dX9_byteAt_0 : decode cX9_byteAt 0 = .ok (.iload_n 1, 1) := by decide +kernel
theorem dX9_byteAt_1 : decode cX9_byteAt 1 = .ok (.ifCond .lt 29, 3) := by decide +kernel
theorem dX9_byteAt_4 : decode cX9_byteAt 4 = .ok (.iload_n 1, 1) := by decide +kernel
theorem dX9_byteAt_5 : decode cX9_byteAt 5 = .ok (.aload_n 0, 1) := by decide +kernel
theorem dX9_byteAt_6 : decode cX9_byteAt 6 = .ok (.getfield 15, 3) := by decide +kernel
theorem dX9_byteAt_9 : decode cX9_byteAt 9 = .ok (.if_icmp .ge 21, 3) := by decide +kernel
theorem dX9_byteAt_12 : decode cX9_byteAt 12 = .ok (.iload_n 1, 1) := by decide +kernel
theorem dX9_byteAt_13 : decode cX9_byteAt 13 = .ok (.aload_n 0, 1) := by decide +kernel
theorem dX9_byteAt_14 : decode cX9_byteAt 14 = .ok (.getfield 9, 3) := by decide +kernel
theorem dX9_byteAt_17 : decode cX9_byteAt 17 = .ok (.arraylength, 1) := by decide +kernel
theorem dX9_byteAt_18 : decode cX9_byteAt 18 = .ok (.if_icmp .ge 12, 3) := by decide +kernel
theorem dX9_byteAt_21 : decode cX9_byteAt 21 = .ok (.aload_n 0, 1) := by decide +kernel
theorem dX9_byteAt_22 : decode cX9_byteAt 22 = .ok (.getfield 9, 3) := by decide +kernel
theorem dX9_byteAt_25 : decode cX9_byteAt 25 = .ok (.iload_n 1, 1) := by decide +kernel
theorem dX9_byteAt_26 : decode cX9_byteAt 26 = .ok (.iaload, 1) := by decide +kernel
theorem dX9_byteAt_27 : decode cX9_byteAt 27 = .ok (.goto 4, 3) := by decide +kernel
theorem dX9_byteAt_30 : decode cX9_byteAt 30 = .ok (.iconst (-1), 1) := by decide +kernel
theorem dX9_byteAt_31 : decode cX9_byteAt 31 = .ok (.ireturn, 1) := by decide +kernel
theorem dX9_isLetter_0 : decode cX9_isLetter 0 = .ok (.iload_n 0, 1) := by decide +kernel
theorem dX9_isLetter_1 : decode cX9_isLetter 1 = .ok (.bipush 97, 2) := by decide +kernel
theorem dX9_isLetter_3 : decode cX9_isLetter 3 = .ok (.if_icmp .lt 13, 3) := by decide +kernel
theorem dX9_isLetter_6 : decode cX9_isLetter 6 = .ok (.iload_n 0, 1) := by decide +kernel
theorem dX9_isLetter_7 : decode cX9_isLetter 7 = .ok (.bipush 122, 2) := by decide +kernel
theorem dX9_isLetter_9 : decode cX9_isLetter 9 = .ok (.if_icmp .gt 7, 3) := by decide +kernel
theorem dX9_isLetter_12 : decode cX9_isLetter 12 = .ok (.iconst 1, 1) := by decide +kernel
theorem dX9_isLetter_13 : decode cX9_isLetter 13 = .ok (.goto 4, 3) := by decide +kernel
theorem dX9_isLetter_16 : decode cX9_isLetter 16 = .ok (.iconst 0, 1) := by decide +kernel
theorem dX9_isLetter_17 : decode cX9_isLetter 17 = .ok (.ireturn, 1) := by decide +kernel
theorem dX9_isDigit_0 : decode cX9_isDigit 0 = .ok (.iload_n 0, 1) := by decide +kernel
theorem dX9_isDigit_1 : decode cX9_isDigit 1 = .ok (.bipush 48, 2) := by decide +kernel
theorem dX9_isDigit_3 : decode cX9_isDigit 3 = .ok (.if_icmp .lt 13, 3) := by decide +kernel
theorem dX9_isDigit_6 : decode cX9_isDigit 6 = .ok (.iload_n 0, 1) := by decide +kernel
theorem dX9_isDigit_7 : decode cX9_isDigit 7 = .ok (.bipush 57, 2) := by decide +kernel
theorem dX9_isDigit_9 : decode cX9_isDigit 9 = .ok (.if_icmp .gt 7, 3) := by decide +kernel
theorem dX9_isDigit_12 : decode cX9_isDigit 12 = .ok (.iconst 1, 1) := by decide +kernel
theorem dX9_isDigit_13 : decode cX9_isDigit 13 = .ok (.goto 4, 3) := by decide +kernel
theorem dX9_isDigit_16 : decode cX9_isDigit 16 = .ok (.iconst 0, 1) := by decide +kernel
theorem dX9_isDigit_17 : decode cX9_isDigit 17 = .ok (.ireturn, 1) := by decide +kernel
theorem dX9_isWord_0 : decode cX9_isWord 0 = .ok (.aload_n 0, 1) := by decide +kernel
theorem dX9_isWord_1 : decode cX9_isWord 1 = .ok (.getfield 35, 3) := by decide +kernel
theorem dX9_isWord_4 : decode cX9_isWord 4 = .ok (.iconst 1, 1) := by decide +kernel
theorem dX9_isWord_5 : decode cX9_isWord 5 = .ok (.if_icmp .ne 19, 3) := by decide +kernel
theorem dX9_isWord_8 : decode cX9_isWord 8 = .ok (.aload_n 0, 1) := by decide +kernel
theorem dX9_isWord_9 : decode cX9_isWord 9 = .ok (.getfield 22, 3) := by decide +kernel
theorem dX9_isWord_12 : decode cX9_isWord 12 = .ok (.aload_n 0, 1) := by decide +kernel
theorem dX9_isWord_13 : decode cX9_isWord 13 = .ok (.getfield 32, 3) := by decide +kernel
theorem dX9_isWord_16 : decode cX9_isWord 16 = .ok (.isub, 1) := by decide +kernel
theorem dX9_isWord_17 : decode cX9_isWord 17 = .ok (.aload_n 1, 1) := by decide +kernel
theorem dX9_isWord_18 : decode cX9_isWord 18 = .ok (.invokevirtual 54, 3) := by decide +kernel
theorem dX9_isWord_21 : decode cX9_isWord 21 = .ok (.if_icmp .eq 5, 3) := by decide +kernel
theorem dX9_isWord_24 : decode cX9_isWord 24 = .ok (.iconst 0, 1) := by decide +kernel
theorem dX9_isWord_25 : decode cX9_isWord 25 = .ok (.ireturn, 1) := by decide +kernel
theorem dX9_isWord_26 : decode cX9_isWord 26 = .ok (.iconst 0, 1) := by decide +kernel
theorem dX9_isWord_27 : decode cX9_isWord 27 = .ok (.istore_n 2, 1) := by decide +kernel
theorem dX9_isWord_28 : decode cX9_isWord 28 = .ok (.iload_n 2, 1) := by decide +kernel
theorem dX9_isWord_29 : decode cX9_isWord 29 = .ok (.aload_n 1, 1) := by decide +kernel
theorem dX9_isWord_30 : decode cX9_isWord 30 = .ok (.invokevirtual 54, 3) := by decide +kernel
theorem dX9_isWord_33 : decode cX9_isWord 33 = .ok (.if_icmp .ge 45, 3) := by decide +kernel
theorem dX9_isWord_36 : decode cX9_isWord 36 = .ok (.aload_n 0, 1) := by decide +kernel
theorem dX9_isWord_37 : decode cX9_isWord 37 = .ok (.getfield 32, 3) := by decide +kernel
theorem dX9_isWord_40 : decode cX9_isWord 40 = .ok (.iload_n 2, 1) := by decide +kernel
theorem dX9_isWord_41 : decode cX9_isWord 41 = .ok (.iadd, 1) := by decide +kernel
theorem dX9_isWord_42 : decode cX9_isWord 42 = .ok (.istore_n 3, 1) := by decide +kernel
theorem dX9_isWord_43 : decode cX9_isWord 43 = .ok (.iload_n 3, 1) := by decide +kernel
theorem dX9_isWord_44 : decode cX9_isWord 44 = .ok (.ifCond .lt 26, 3) := by decide +kernel
theorem dX9_isWord_47 : decode cX9_isWord 47 = .ok (.iload_n 3, 1) := by decide +kernel
theorem dX9_isWord_48 : decode cX9_isWord 48 = .ok (.aload_n 0, 1) := by decide +kernel
theorem dX9_isWord_49 : decode cX9_isWord 49 = .ok (.getfield 9, 3) := by decide +kernel
theorem dX9_isWord_52 : decode cX9_isWord 52 = .ok (.arraylength, 1) := by decide +kernel
theorem dX9_isWord_53 : decode cX9_isWord 53 = .ok (.if_icmp .ge 17, 3) := by decide +kernel
theorem dX9_isWord_56 : decode cX9_isWord 56 = .ok (.aload_n 0, 1) := by decide +kernel
theorem dX9_isWord_57 : decode cX9_isWord 57 = .ok (.getfield 9, 3) := by decide +kernel
theorem dX9_isWord_60 : decode cX9_isWord 60 = .ok (.iload_n 3, 1) := by decide +kernel
theorem dX9_isWord_61 : decode cX9_isWord 61 = .ok (.iaload, 1) := by decide +kernel
theorem dX9_isWord_62 : decode cX9_isWord 62 = .ok (.aload_n 1, 1) := by decide +kernel
theorem dX9_isWord_63 : decode cX9_isWord 63 = .ok (.iload_n 2, 1) := by decide +kernel
theorem dX9_isWord_64 : decode cX9_isWord 64 = .ok (.invokevirtual 59, 3) := by decide +kernel
theorem dX9_isWord_67 : decode cX9_isWord 67 = .ok (.if_icmp .eq 5, 3) := by decide +kernel
theorem dX9_isWord_70 : decode cX9_isWord 70 = .ok (.iconst 0, 1) := by decide +kernel
theorem dX9_isWord_71 : decode cX9_isWord 71 = .ok (.ireturn, 1) := by decide +kernel
theorem dX9_isWord_72 : decode cX9_isWord 72 = .ok (.iinc 2 1, 3) := by decide +kernel
theorem dX9_isWord_75 : decode cX9_isWord 75 = .ok (.goto (-47), 3) := by decide +kernel
theorem dX9_isWord_78 : decode cX9_isWord 78 = .ok (.iconst 1, 1) := by decide +kernel
theorem dX9_isWord_79 : decode cX9_isWord 79 = .ok (.ireturn, 1) := by decide +kernel
theorem dX9_isSign_0 : decode cX9_isSign 0 = .ok (.aload_n 0, 1) := by decide +kernel
theorem dX9_isSign_1 : decode cX9_isSign 1 = .ok (.getfield 35, 3) := by decide +kernel
theorem dX9_isSign_4 : decode cX9_isSign 4 = .ok (.iconst 3, 1) := by decide +kernel
theorem dX9_isSign_5 : decode cX9_isSign 5 = .ok (.if_icmp .ne 32, 3) := by decide +kernel
theorem dX9_isSign_8 : decode cX9_isSign 8 = .ok (.aload_n 0, 1) := by decide +kernel
theorem dX9_isSign_9 : decode cX9_isSign 9 = .ok (.getfield 22, 3) := by decide +kernel
theorem dX9_isSign_12 : decode cX9_isSign 12 = .ok (.aload_n 0, 1) := by decide +kernel
theorem dX9_isSign_13 : decode cX9_isSign 13 = .ok (.getfield 32, 3) := by decide +kernel
theorem dX9_isSign_16 : decode cX9_isSign 16 = .ok (.isub, 1) := by decide +kernel
theorem dX9_isSign_17 : decode cX9_isSign 17 = .ok (.iconst 1, 1) := by decide +kernel
theorem dX9_isSign_18 : decode cX9_isSign 18 = .ok (.if_icmp .ne 19, 3) := by decide +kernel
theorem dX9_isSign_21 : decode cX9_isSign 21 = .ok (.aload_n 0, 1) := by decide +kernel
theorem dX9_isSign_22 : decode cX9_isSign 22 = .ok (.aload_n 0, 1) := by decide +kernel
theorem dX9_isSign_23 : decode cX9_isSign 23 = .ok (.getfield 32, 3) := by decide +kernel
theorem dX9_isSign_26 : decode cX9_isSign 26 = .ok (.invokevirtual 28, 3) := by decide +kernel
theorem dX9_isSign_29 : decode cX9_isSign 29 = .ok (.iload_n 1, 1) := by decide +kernel
theorem dX9_isSign_30 : decode cX9_isSign 30 = .ok (.if_icmp .ne 7, 3) := by decide +kernel
theorem dX9_isSign_33 : decode cX9_isSign 33 = .ok (.iconst 1, 1) := by decide +kernel
theorem dX9_isSign_34 : decode cX9_isSign 34 = .ok (.goto 4, 3) := by decide +kernel
theorem dX9_isSign_37 : decode cX9_isSign 37 = .ok (.iconst 0, 1) := by decide +kernel
theorem dX9_isSign_38 : decode cX9_isSign 38 = .ok (.ireturn, 1) := by decide +kernel
theorem dX9_refuse_0 : decode cX9_refuse 0 = .ok (.aload_n 0, 1) := by decide +kernel
theorem dX9_refuse_1 : decode cX9_refuse 1 = .ok (.iconst 1, 1) := by decide +kernel
theorem dX9_refuse_2 : decode cX9_refuse 2 = .ok (.bipush 8, 2) := by decide +kernel
theorem dX9_refuse_4 : decode cX9_refuse 4 = .ok (.aload_n 0, 1) := by decide +kernel
theorem dX9_refuse_5 : decode cX9_refuse 5 = .ok (.getfield 32, 3) := by decide +kernel
theorem dX9_refuse_8 : decode cX9_refuse 8 = .ok (.imul, 1) := by decide +kernel
theorem dX9_refuse_9 : decode cX9_refuse 9 = .ok (.iadd, 1) := by decide +kernel
theorem dX9_refuse_10 : decode cX9_refuse 10 = .ok (.iload_n 1, 1) := by decide +kernel
theorem dX9_refuse_11 : decode cX9_refuse 11 = .ok (.iadd, 1) := by decide +kernel
theorem dX9_refuse_12 : decode cX9_refuse 12 = .ok (.putfield 19, 3) := by decide +kernel
theorem dX9_refuse_15 : decode cX9_refuse 15 = .ok (.iconst 0, 1) := by decide +kernel
theorem dX9_refuse_16 : decode cX9_refuse 16 = .ok (.ireturn, 1) := by decide +kernel
theorem dX9_isNumber_0 : decode cX9_isNumber 0 = .ok (.aload_n 0, 1) := by decide +kernel
theorem dX9_isNumber_1 : decode cX9_isNumber 1 = .ok (.getfield 35, 3) := by decide +kernel
theorem dX9_isNumber_4 : decode cX9_isNumber 4 = .ok (.iconst 2, 1) := by decide +kernel
theorem dX9_isNumber_5 : decode cX9_isNumber 5 = .ok (.if_icmp .eq 9, 3) := by decide +kernel
theorem dX9_isNumber_8 : decode cX9_isNumber 8 = .ok (.aload_n 0, 1) := by decide +kernel
theorem dX9_isNumber_9 : decode cX9_isNumber 9 = .ok (.iconst 0, 1) := by decide +kernel
theorem dX9_isNumber_10 : decode cX9_isNumber 10 = .ok (.invokevirtual 63, 3) := by decide +kernel
theorem dX9_isNumber_13 : decode cX9_isNumber 13 = .ok (.ireturn, 1) := by decide +kernel
theorem dX9_isNumber_14 : decode cX9_isNumber 14 = .ok (.aload_n 0, 1) := by decide +kernel
theorem dX9_isNumber_15 : decode cX9_isNumber 15 = .ok (.getfield 48, 3) := by decide +kernel
theorem dX9_isNumber_18 : decode cX9_isNumber 18 = .ok (.iconst 5, 1) := by decide +kernel
theorem dX9_isNumber_19 : decode cX9_isNumber 19 = .ok (.if_icmp .gt 23, 3) := by decide +kernel
theorem dX9_isNumber_22 : decode cX9_isNumber 22 = .ok (.aload_n 0, 1) := by decide +kernel
theorem dX9_isNumber_23 : decode cX9_isNumber 23 = .ok (.getfield 51, 3) := by decide +kernel
theorem dX9_isNumber_26 : decode cX9_isNumber 26 = .ok (.iload_n 1, 1) := by decide +kernel
theorem dX9_isNumber_27 : decode cX9_isNumber 27 = .ok (.if_icmp .lt 15, 3) := by decide +kernel
theorem dX9_isNumber_30 : decode cX9_isNumber 30 = .ok (.aload_n 0, 1) := by decide +kernel
theorem dX9_isNumber_31 : decode cX9_isNumber 31 = .ok (.getfield 51, 3) := by decide +kernel
theorem dX9_isNumber_34 : decode cX9_isNumber 34 = .ok (.iload_n 2, 1) := by decide +kernel
theorem dX9_isNumber_35 : decode cX9_isNumber 35 = .ok (.if_icmp .gt 7, 3) := by decide +kernel
theorem dX9_isNumber_38 : decode cX9_isNumber 38 = .ok (.iconst 1, 1) := by decide +kernel
theorem dX9_isNumber_39 : decode cX9_isNumber 39 = .ok (.goto 4, 3) := by decide +kernel
theorem dX9_isNumber_42 : decode cX9_isNumber 42 = .ok (.iconst 0, 1) := by decide +kernel
theorem dX9_isNumber_43 : decode cX9_isNumber 43 = .ok (.istore_n 3, 1) := by decide +kernel
theorem dX9_isNumber_44 : decode cX9_isNumber 44 = .ok (.iload_n 3, 1) := by decide +kernel
theorem dX9_isNumber_45 : decode cX9_isNumber 45 = .ok (.ifCond .ne 11, 3) := by decide +kernel
theorem dX9_isNumber_48 : decode cX9_isNumber 48 = .ok (.aload_n 0, 1) := by decide +kernel
theorem dX9_isNumber_49 : decode cX9_isNumber 49 = .ok (.iconst 1, 1) := by decide +kernel
theorem dX9_isNumber_50 : decode cX9_isNumber 50 = .ok (.invokevirtual 63, 3) := by decide +kernel
theorem dX9_isNumber_53 : decode cX9_isNumber 53 = .ok (.ifCond .eq 7, 3) := by decide +kernel
theorem dX9_isNumber_56 : decode cX9_isNumber 56 = .ok (.iconst 1, 1) := by decide +kernel
theorem dX9_isNumber_57 : decode cX9_isNumber 57 = .ok (.goto 4, 3) := by decide +kernel
theorem dX9_isNumber_60 : decode cX9_isNumber 60 = .ok (.iconst 0, 1) := by decide +kernel
theorem dX9_isNumber_61 : decode cX9_isNumber 61 = .ok (.ireturn, 1) := by decide +kernel
theorem dX9_passSign_0 : decode cX9_passSign 0 = .ok (.aload_n 0, 1) := by decide +kernel
theorem dX9_passSign_1 : decode cX9_passSign 1 = .ok (.iload_n 1, 1) := by decide +kernel
theorem dX9_passSign_2 : decode cX9_passSign 2 = .ok (.invokevirtual 66, 3) := by decide +kernel
theorem dX9_passSign_5 : decode cX9_passSign 5 = .ok (.ifCond .ne 9, 3) := by decide +kernel
theorem dX9_passSign_8 : decode cX9_passSign 8 = .ok (.aload_n 0, 1) := by decide +kernel
theorem dX9_passSign_9 : decode cX9_passSign 9 = .ok (.iconst 0, 1) := by decide +kernel
theorem dX9_passSign_10 : decode cX9_passSign 10 = .ok (.invokevirtual 63, 3) := by decide +kernel
theorem dX9_passSign_13 : decode cX9_passSign 13 = .ok (.ireturn, 1) := by decide +kernel
theorem dX9_passSign_14 : decode cX9_passSign 14 = .ok (.aload_n 0, 1) := by decide +kernel
theorem dX9_passSign_15 : decode cX9_passSign 15 = .ok (.invokevirtual 25, 3) := by decide +kernel
theorem dX9_passSign_18 : decode cX9_passSign 18 = .ok (.iconst 1, 1) := by decide +kernel
theorem dX9_passSign_19 : decode cX9_passSign 19 = .ok (.ireturn, 1) := by decide +kernel
theorem dX9_take_0 : decode cX9_take 0 = .ok (.aload_n 0, 1) := by decide +kernel
theorem dX9_take_1 : decode cX9_take 1 = .ok (.getfield 51, 3) := by decide +kernel
theorem dX9_take_4 : decode cX9_take 4 = .ok (.istore_n 1, 1) := by decide +kernel
theorem dX9_take_5 : decode cX9_take 5 = .ok (.aload_n 0, 1) := by decide +kernel
theorem dX9_take_6 : decode cX9_take 6 = .ok (.invokevirtual 25, 3) := by decide +kernel
theorem dX9_take_9 : decode cX9_take 9 = .ok (.iload_n 1, 1) := by decide +kernel
theorem dX9_take_10 : decode cX9_take 10 = .ok (.ireturn, 1) := by decide +kernel
theorem dX10_init_0 : decode cX10_init 0 = .ok (.aload_n 0, 1) := by decide +kernel
theorem dX10_init_1 : decode cX10_init 1 = .ok (.invokespecial 3, 3) := by decide +kernel
theorem dX10_init_4 : decode cX10_init 4 = .ok (.aload_n 0, 1) := by decide +kernel
theorem dX10_init_5 : decode cX10_init 5 = .ok (.bipush 16, 2) := by decide +kernel
theorem dX10_init_7 : decode cX10_init 7 = .ok (.newarray .int, 2) := by decide +kernel
theorem dX10_init_9 : decode cX10_init 9 = .ok (.putfield 9, 3) := by decide +kernel
theorem dX10_init_12 : decode cX10_init 12 = .ok (.return_, 1) := by decide +kernel
theorem dX10_begin_0 : decode cX10_begin 0 = .ok (.aload_n 0, 1) := by decide +kernel
theorem dX10_begin_1 : decode cX10_begin 1 = .ok (.getfield 9, 3) := by decide +kernel
theorem dX10_begin_4 : decode cX10_begin 4 = .ok (.iconst (-1), 1) := by decide +kernel
theorem dX10_begin_5 : decode cX10_begin 5 = .ok (.invokestatic 15, 3) := by decide +kernel
theorem dX10_begin_8 : decode cX10_begin 8 = .ok (.iload_n 3, 1) := by decide +kernel
theorem dX10_begin_9 : decode cX10_begin 9 = .ok (.ifCond .lt 17, 3) := by decide +kernel
theorem dX10_begin_12 : decode cX10_begin 12 = .ok (.iload_n 3, 1) := by decide +kernel
theorem dX10_begin_13 : decode cX10_begin 13 = .ok (.aload_n 2, 1) := by decide +kernel
theorem dX10_begin_14 : decode cX10_begin 14 = .ok (.getfield 21, 3) := by decide +kernel
theorem dX10_begin_17 : decode cX10_begin 17 = .ok (.if_icmp .ge 9, 3) := by decide +kernel
theorem dX10_begin_20 : decode cX10_begin 20 = .ok (.iload_n 3, 1) := by decide +kernel
theorem dX10_begin_21 : decode cX10_begin 21 = .ok (.bipush 12, 2) := by decide +kernel
theorem dX10_begin_23 : decode cX10_begin 23 = .ok (.if_icmp .lt 12, 3) := by decide +kernel
theorem dX10_begin_26 : decode cX10_begin 26 = .ok (.aload_n 0, 1) := by decide +kernel
theorem dX10_begin_27 : decode cX10_begin 27 = .ok (.aload_n 0, 1) := by decide +kernel
theorem dX10_begin_28 : decode cX10_begin 28 = .ok (.getfield 27, 3) := by decide +kernel
theorem dX10_begin_31 : decode cX10_begin 31 = .ok (.putfield 30, 3) := by decide +kernel
theorem dX10_begin_34 : decode cX10_begin 34 = .ok (.return_, 1) := by decide +kernel
theorem dX10_begin_35 : decode cX10_begin 35 = .ok (.aload_n 0, 1) := by decide +kernel
theorem dX10_begin_36 : decode cX10_begin 36 = .ok (.aload_n 2, 1) := by decide +kernel
theorem dX10_begin_37 : decode cX10_begin 37 = .ok (.getfield 33, 3) := by decide +kernel
theorem dX10_begin_40 : decode cX10_begin 40 = .ok (.iload_n 3, 1) := by decide +kernel
theorem dX10_begin_41 : decode cX10_begin 41 = .ok (.iaload, 1) := by decide +kernel
theorem dX10_begin_42 : decode cX10_begin 42 = .ok (.putfield 27, 3) := by decide +kernel
theorem dX10_begin_45 : decode cX10_begin 45 = .ok (.aload_n 0, 1) := by decide +kernel
theorem dX10_begin_46 : decode cX10_begin 46 = .ok (.aload_n 2, 1) := by decide +kernel
theorem dX10_begin_47 : decode cX10_begin 47 = .ok (.getfield 36, 3) := by decide +kernel
theorem dX10_begin_50 : decode cX10_begin 50 = .ok (.iload_n 3, 1) := by decide +kernel
theorem dX10_begin_51 : decode cX10_begin 51 = .ok (.iaload, 1) := by decide +kernel
theorem dX10_begin_52 : decode cX10_begin 52 = .ok (.putfield 39, 3) := by decide +kernel
theorem dX10_begin_55 : decode cX10_begin 55 = .ok (.aload_n 0, 1) := by decide +kernel
theorem dX10_begin_56 : decode cX10_begin 56 = .ok (.aload_n 2, 1) := by decide +kernel
theorem dX10_begin_57 : decode cX10_begin 57 = .ok (.getfield 42, 3) := by decide +kernel
theorem dX10_begin_60 : decode cX10_begin 60 = .ok (.iload_n 3, 1) := by decide +kernel
theorem dX10_begin_61 : decode cX10_begin 61 = .ok (.iaload, 1) := by decide +kernel
theorem dX10_begin_62 : decode cX10_begin 62 = .ok (.putfield 30, 3) := by decide +kernel
theorem dX10_begin_65 : decode cX10_begin 65 = .ok (.aload_n 0, 1) := by decide +kernel
theorem dX10_begin_66 : decode cX10_begin 66 = .ok (.aload_n 0, 1) := by decide +kernel
theorem dX10_begin_67 : decode cX10_begin 67 = .ok (.getfield 30, 3) := by decide +kernel
theorem dX10_begin_70 : decode cX10_begin 70 = .ok (.aload_n 2, 1) := by decide +kernel
theorem dX10_begin_71 : decode cX10_begin 71 = .ok (.getfield 45, 3) := by decide +kernel
theorem dX10_begin_74 : decode cX10_begin 74 = .ok (.iload_n 3, 1) := by decide +kernel
theorem dX10_begin_75 : decode cX10_begin 75 = .ok (.iaload, 1) := by decide +kernel
theorem dX10_begin_76 : decode cX10_begin 76 = .ok (.invokevirtual 48, 3) := by decide +kernel
theorem dX10_begin_79 : decode cX10_begin 79 = .ok (.pop, 1) := by decide +kernel
theorem dX10_begin_80 : decode cX10_begin 80 = .ok (.iconst 1, 1) := by decide +kernel
theorem dX10_begin_81 : decode cX10_begin 81 = .ok (.istore 4, 2) := by decide +kernel
theorem dX10_begin_83 : decode cX10_begin 83 = .ok (.iconst 0, 1) := by decide +kernel
theorem dX10_begin_84 : decode cX10_begin 84 = .ok (.istore 5, 2) := by decide +kernel
theorem dX10_begin_86 : decode cX10_begin 86 = .ok (.iload 5, 2) := by decide +kernel
theorem dX10_begin_88 : decode cX10_begin 88 = .ok (.bipush 16, 2) := by decide +kernel
theorem dX10_begin_90 : decode cX10_begin 90 = .ok (.if_icmp .gt 80, 3) := by decide +kernel
theorem dX10_begin_93 : decode cX10_begin 93 = .ok (.iload 4, 2) := by decide +kernel
theorem dX10_begin_95 : decode cX10_begin 95 = .ok (.ifCond .eq 75, 3) := by decide +kernel
theorem dX10_begin_98 : decode cX10_begin 98 = .ok (.iconst 0, 1) := by decide +kernel
theorem dX10_begin_99 : decode cX10_begin 99 = .ok (.istore 4, 2) := by decide +kernel
theorem dX10_begin_101 : decode cX10_begin 101 = .ok (.iconst 0, 1) := by decide +kernel
theorem dX10_begin_102 : decode cX10_begin 102 = .ok (.istore 6, 2) := by decide +kernel
theorem dX10_begin_104 : decode cX10_begin 104 = .ok (.iload 6, 2) := by decide +kernel
theorem dX10_begin_106 : decode cX10_begin 106 = .ok (.aload_n 1, 1) := by decide +kernel
theorem dX10_begin_107 : decode cX10_begin 107 = .ok (.getfield 52, 3) := by decide +kernel
theorem dX10_begin_110 : decode cX10_begin 110 = .ok (.if_icmp .ge 54, 3) := by decide +kernel
theorem dX10_begin_113 : decode cX10_begin 113 = .ok (.iload 6, 2) := by decide +kernel
theorem dX10_begin_115 : decode cX10_begin 115 = .ok (.bipush 24, 2) := by decide +kernel
theorem dX10_begin_117 : decode cX10_begin 117 = .ok (.if_icmp .ge 47, 3) := by decide +kernel
theorem dX10_begin_120 : decode cX10_begin 120 = .ok (.iload 4, 2) := by decide +kernel
theorem dX10_begin_122 : decode cX10_begin 122 = .ok (.aload_n 0, 1) := by decide +kernel
theorem dX10_begin_123 : decode cX10_begin 123 = .ok (.aload_n 1, 1) := by decide +kernel
theorem dX10_begin_124 : decode cX10_begin 124 = .ok (.iload 6, 2) := by decide +kernel
theorem dX10_begin_126 : decode cX10_begin 126 = .ok (.aload_n 1, 1) := by decide +kernel
theorem dX10_begin_127 : decode cX10_begin 127 = .ok (.getfield 57, 3) := by decide +kernel
theorem dX10_begin_130 : decode cX10_begin 130 = .ok (.iload 6, 2) := by decide +kernel
theorem dX10_begin_132 : decode cX10_begin 132 = .ok (.iaload, 1) := by decide +kernel
theorem dX10_begin_133 : decode cX10_begin 133 = .ok (.invokevirtual 60, 3) := by decide +kernel
theorem dX10_begin_136 : decode cX10_begin 136 = .ok (.ior, 1) := by decide +kernel
theorem dX10_begin_137 : decode cX10_begin 137 = .ok (.istore 4, 2) := by decide +kernel
theorem dX10_begin_139 : decode cX10_begin 139 = .ok (.iload 4, 2) := by decide +kernel
theorem dX10_begin_141 : decode cX10_begin 141 = .ok (.aload_n 0, 1) := by decide +kernel
theorem dX10_begin_142 : decode cX10_begin 142 = .ok (.aload_n 1, 1) := by decide +kernel
theorem dX10_begin_143 : decode cX10_begin 143 = .ok (.iload 6, 2) := by decide +kernel
theorem dX10_begin_145 : decode cX10_begin 145 = .ok (.aload_n 1, 1) := by decide +kernel
theorem dX10_begin_146 : decode cX10_begin 146 = .ok (.getfield 64, 3) := by decide +kernel
theorem dX10_begin_149 : decode cX10_begin 149 = .ok (.iload 6, 2) := by decide +kernel
theorem dX10_begin_151 : decode cX10_begin 151 = .ok (.iaload, 1) := by decide +kernel
theorem dX10_begin_152 : decode cX10_begin 152 = .ok (.invokevirtual 60, 3) := by decide +kernel
theorem dX10_begin_155 : decode cX10_begin 155 = .ok (.ior, 1) := by decide +kernel
theorem dX10_begin_156 : decode cX10_begin 156 = .ok (.istore 4, 2) := by decide +kernel
theorem dX10_begin_158 : decode cX10_begin 158 = .ok (.iinc 6 1, 3) := by decide +kernel
theorem dX10_begin_161 : decode cX10_begin 161 = .ok (.goto (-57), 3) := by decide +kernel
theorem dX10_begin_164 : decode cX10_begin 164 = .ok (.iinc 5 1, 3) := by decide +kernel
theorem dX10_begin_167 : decode cX10_begin 167 = .ok (.goto (-81), 3) := by decide +kernel
theorem dX10_begin_170 : decode cX10_begin 170 = .ok (.return_, 1) := by decide +kernel
theorem dX10_put_0 : decode cX10_put 0 = .ok (.iload_n 1, 1) := by decide +kernel
theorem dX10_put_1 : decode cX10_put 1 = .ok (.ifCond .lt 22, 3) := by decide +kernel
theorem dX10_put_4 : decode cX10_put 4 = .ok (.iload_n 1, 1) := by decide +kernel
theorem dX10_put_5 : decode cX10_put 5 = .ok (.aload_n 0, 1) := by decide +kernel
theorem dX10_put_6 : decode cX10_put 6 = .ok (.getfield 9, 3) := by decide +kernel
theorem dX10_put_9 : decode cX10_put 9 = .ok (.arraylength, 1) := by decide +kernel
theorem dX10_put_10 : decode cX10_put 10 = .ok (.if_icmp .ge 13, 3) := by decide +kernel
theorem dX10_put_13 : decode cX10_put 13 = .ok (.iload_n 2, 1) := by decide +kernel
theorem dX10_put_14 : decode cX10_put 14 = .ok (.aload_n 0, 1) := by decide +kernel
theorem dX10_put_15 : decode cX10_put 15 = .ok (.getfield 9, 3) := by decide +kernel
theorem dX10_put_18 : decode cX10_put 18 = .ok (.iload_n 1, 1) := by decide +kernel
theorem dX10_put_19 : decode cX10_put 19 = .ok (.iaload, 1) := by decide +kernel
theorem dX10_put_20 : decode cX10_put 20 = .ok (.if_icmp .gt 5, 3) := by decide +kernel
theorem dX10_put_23 : decode cX10_put 23 = .ok (.iconst 0, 1) := by decide +kernel
theorem dX10_put_24 : decode cX10_put 24 = .ok (.ireturn, 1) := by decide +kernel
theorem dX10_put_25 : decode cX10_put 25 = .ok (.aload_n 0, 1) := by decide +kernel
theorem dX10_put_26 : decode cX10_put 26 = .ok (.getfield 9, 3) := by decide +kernel
theorem dX10_put_29 : decode cX10_put 29 = .ok (.iload_n 1, 1) := by decide +kernel
theorem dX10_put_30 : decode cX10_put 30 = .ok (.iload_n 2, 1) := by decide +kernel
theorem dX10_put_31 : decode cX10_put 31 = .ok (.iastore, 1) := by decide +kernel
theorem dX10_put_32 : decode cX10_put 32 = .ok (.iconst 1, 1) := by decide +kernel
theorem dX10_put_33 : decode cX10_put 33 = .ok (.ireturn, 1) := by decide +kernel
theorem dX10_latestAt_0 : decode cX10_latestAt 0 = .ok (.iload_n 1, 1) := by decide +kernel
theorem dX10_latestAt_1 : decode cX10_latestAt 1 = .ok (.ifCond .lt 21, 3) := by decide +kernel
theorem dX10_latestAt_4 : decode cX10_latestAt 4 = .ok (.iload_n 1, 1) := by decide +kernel
theorem dX10_latestAt_5 : decode cX10_latestAt 5 = .ok (.aload_n 0, 1) := by decide +kernel
theorem dX10_latestAt_6 : decode cX10_latestAt 6 = .ok (.getfield 9, 3) := by decide +kernel
theorem dX10_latestAt_9 : decode cX10_latestAt 9 = .ok (.arraylength, 1) := by decide +kernel
theorem dX10_latestAt_10 : decode cX10_latestAt 10 = .ok (.if_icmp .ge 12, 3) := by decide +kernel
theorem dX10_latestAt_13 : decode cX10_latestAt 13 = .ok (.aload_n 0, 1) := by decide +kernel
theorem dX10_latestAt_14 : decode cX10_latestAt 14 = .ok (.getfield 9, 3) := by decide +kernel
theorem dX10_latestAt_17 : decode cX10_latestAt 17 = .ok (.iload_n 1, 1) := by decide +kernel
theorem dX10_latestAt_18 : decode cX10_latestAt 18 = .ok (.iaload, 1) := by decide +kernel
theorem dX10_latestAt_19 : decode cX10_latestAt 19 = .ok (.goto 4, 3) := by decide +kernel
theorem dX10_latestAt_22 : decode cX10_latestAt 22 = .ok (.iconst (-1), 1) := by decide +kernel
theorem dX10_latestAt_23 : decode cX10_latestAt 23 = .ok (.ireturn, 1) := by decide +kernel
theorem dX10_goBack_0 : decode cX10_goBack 0 = .ok (.aload_n 1, 1) := by decide +kernel
theorem dX10_goBack_1 : decode cX10_goBack 1 = .ok (.iload_n 2, 1) := by decide +kernel
theorem dX10_goBack_2 : decode cX10_goBack 2 = .ok (.iload_n 3, 1) := by decide +kernel
theorem dX10_goBack_3 : decode cX10_goBack 3 = .ok (.invokevirtual 67, 3) := by decide +kernel
theorem dX10_goBack_6 : decode cX10_goBack 6 = .ok (.istore 4, 2) := by decide +kernel
theorem dX10_goBack_8 : decode cX10_goBack 8 = .ok (.iload 4, 2) := by decide +kernel
theorem dX10_goBack_10 : decode cX10_goBack 10 = .ok (.iconst (-1), 1) := by decide +kernel
theorem dX10_goBack_11 : decode cX10_goBack 11 = .ok (.if_icmp .eq 13, 3) := by decide +kernel
theorem dX10_goBack_14 : decode cX10_goBack 14 = .ok (.aload_n 0, 1) := by decide +kernel
theorem dX10_goBack_15 : decode cX10_goBack 15 = .ok (.iload 4, 2) := by decide +kernel
theorem dX10_goBack_17 : decode cX10_goBack 17 = .ok (.invokevirtual 71, 3) := by decide +kernel
theorem dX10_goBack_20 : decode cX10_goBack 20 = .ok (.iconst (-1), 1) := by decide +kernel
theorem dX10_goBack_21 : decode cX10_goBack 21 = .ok (.if_icmp .ne 5, 3) := by decide +kernel
theorem dX10_goBack_24 : decode cX10_goBack 24 = .ok (.iconst 0, 1) := by decide +kernel
theorem dX10_goBack_25 : decode cX10_goBack 25 = .ok (.ireturn, 1) := by decide +kernel
theorem dX10_goBack_26 : decode cX10_goBack 26 = .ok (.aload_n 0, 1) := by decide +kernel
theorem dX10_goBack_27 : decode cX10_goBack 27 = .ok (.iload 4, 2) := by decide +kernel
theorem dX10_goBack_29 : decode cX10_goBack 29 = .ok (.invokevirtual 71, 3) := by decide +kernel
theorem dX10_goBack_32 : decode cX10_goBack 32 = .ok (.aload_n 1, 1) := by decide +kernel
theorem dX10_goBack_33 : decode cX10_goBack 33 = .ok (.getfield 75, 3) := by decide +kernel
theorem dX10_goBack_36 : decode cX10_goBack 36 = .ok (.iload_n 2, 1) := by decide +kernel
theorem dX10_goBack_37 : decode cX10_goBack 37 = .ok (.iaload, 1) := by decide +kernel
theorem dX10_goBack_38 : decode cX10_goBack 38 = .ok (.isub, 1) := by decide +kernel
theorem dX10_goBack_39 : decode cX10_goBack 39 = .ok (.istore 5, 2) := by decide +kernel
theorem dX10_goBack_41 : decode cX10_goBack 41 = .ok (.aload_n 1, 1) := by decide +kernel
theorem dX10_goBack_42 : decode cX10_goBack 42 = .ok (.getfield 78, 3) := by decide +kernel
theorem dX10_goBack_45 : decode cX10_goBack 45 = .ok (.iload_n 2, 1) := by decide +kernel
theorem dX10_goBack_46 : decode cX10_goBack 46 = .ok (.iaload, 1) := by decide +kernel
theorem dX10_goBack_47 : decode cX10_goBack 47 = .ok (.iconst (-1), 1) := by decide +kernel
theorem dX10_goBack_48 : decode cX10_goBack 48 = .ok (.if_icmp .eq 31, 3) := by decide +kernel
theorem dX10_goBack_51 : decode cX10_goBack 51 = .ok (.iload 5, 2) := by decide +kernel
theorem dX10_goBack_53 : decode cX10_goBack 53 = .ok (.aload_n 1, 1) := by decide +kernel
theorem dX10_goBack_54 : decode cX10_goBack 54 = .ok (.getfield 78, 3) := by decide +kernel
theorem dX10_goBack_57 : decode cX10_goBack 57 = .ok (.iload_n 2, 1) := by decide +kernel
theorem dX10_goBack_58 : decode cX10_goBack 58 = .ok (.iaload, 1) := by decide +kernel
theorem dX10_goBack_59 : decode cX10_goBack 59 = .ok (.if_icmp .ge 7, 3) := by decide +kernel
theorem dX10_goBack_62 : decode cX10_goBack 62 = .ok (.iconst (-1), 1) := by decide +kernel
theorem dX10_goBack_63 : decode cX10_goBack 63 = .ok (.goto 14, 3) := by decide +kernel
theorem dX10_goBack_66 : decode cX10_goBack 66 = .ok (.iload 5, 2) := by decide +kernel
theorem dX10_goBack_68 : decode cX10_goBack 68 = .ok (.aload_n 1, 1) := by decide +kernel
theorem dX10_goBack_69 : decode cX10_goBack 69 = .ok (.getfield 81, 3) := by decide +kernel
theorem dX10_goBack_72 : decode cX10_goBack 72 = .ok (.iload_n 2, 1) := by decide +kernel
theorem dX10_goBack_73 : decode cX10_goBack 73 = .ok (.iaload, 1) := by decide +kernel
theorem dX10_goBack_74 : decode cX10_goBack 74 = .ok (.invokestatic 84, 3) := by decide +kernel
theorem dX10_goBack_77 : decode cX10_goBack 77 = .ok (.istore 5, 2) := by decide +kernel
theorem dX10_goBack_79 : decode cX10_goBack 79 = .ok (.aload_n 0, 1) := by decide +kernel
theorem dX10_goBack_80 : decode cX10_goBack 80 = .ok (.iload_n 3, 1) := by decide +kernel
theorem dX10_goBack_81 : decode cX10_goBack 81 = .ok (.iload 5, 2) := by decide +kernel
theorem dX10_goBack_83 : decode cX10_goBack 83 = .ok (.invokevirtual 48, 3) := by decide +kernel
theorem dX10_goBack_86 : decode cX10_goBack 86 = .ok (.ireturn, 1) := by decide +kernel
theorem dX10_step_0 : decode cX10_step 0 = .ok (.aload_n 0, 1) := by decide +kernel
theorem dX10_step_1 : decode cX10_step 1 = .ok (.getfield 27, 3) := by decide +kernel
theorem dX10_step_4 : decode cX10_step 4 = .ok (.aload_n 0, 1) := by decide +kernel
theorem dX10_step_5 : decode cX10_step 5 = .ok (.getfield 30, 3) := by decide +kernel
theorem dX10_step_8 : decode cX10_step 8 = .ok (.if_icmp .ne 5, 3) := by decide +kernel
theorem dX10_step_11 : decode cX10_step 11 = .ok (.iconst 0, 1) := by decide +kernel
theorem dX10_step_12 : decode cX10_step 12 = .ok (.ireturn, 1) := by decide +kernel
theorem dX10_step_13 : decode cX10_step 13 = .ok (.iconst 0, 1) := by decide +kernel
theorem dX10_step_14 : decode cX10_step 14 = .ok (.istore_n 2, 1) := by decide +kernel
theorem dX10_step_15 : decode cX10_step 15 = .ok (.iload_n 2, 1) := by decide +kernel
theorem dX10_step_16 : decode cX10_step 16 = .ok (.aload_n 1, 1) := by decide +kernel
theorem dX10_step_17 : decode cX10_step 17 = .ok (.getfield 52, 3) := by decide +kernel
theorem dX10_step_20 : decode cX10_step 20 = .ok (.if_icmp .ge 95, 3) := by decide +kernel
theorem dX10_step_23 : decode cX10_step 23 = .ok (.iload_n 2, 1) := by decide +kernel
theorem dX10_step_24 : decode cX10_step 24 = .ok (.bipush 24, 2) := by decide +kernel
theorem dX10_step_26 : decode cX10_step 26 = .ok (.if_icmp .ge 89, 3) := by decide +kernel
theorem dX10_step_29 : decode cX10_step 29 = .ok (.aload_n 1, 1) := by decide +kernel
theorem dX10_step_30 : decode cX10_step 30 = .ok (.iload_n 2, 1) := by decide +kernel
theorem dX10_step_31 : decode cX10_step 31 = .ok (.aload_n 0, 1) := by decide +kernel
theorem dX10_step_32 : decode cX10_step 32 = .ok (.getfield 27, 3) := by decide +kernel
theorem dX10_step_35 : decode cX10_step 35 = .ok (.invokevirtual 67, 3) := by decide +kernel
theorem dX10_step_38 : decode cX10_step 38 = .ok (.istore_n 3, 1) := by decide +kernel
theorem dX10_step_39 : decode cX10_step 39 = .ok (.aload_n 1, 1) := by decide +kernel
theorem dX10_step_40 : decode cX10_step 40 = .ok (.iload_n 2, 1) := by decide +kernel
theorem dX10_step_41 : decode cX10_step 41 = .ok (.aload_n 0, 1) := by decide +kernel
theorem dX10_step_42 : decode cX10_step 42 = .ok (.getfield 39, 3) := by decide +kernel
theorem dX10_step_45 : decode cX10_step 45 = .ok (.invokevirtual 89, 3) := by decide +kernel
theorem dX10_step_48 : decode cX10_step 48 = .ok (.istore 4, 2) := by decide +kernel
theorem dX10_step_50 : decode cX10_step 50 = .ok (.iload_n 3, 1) := by decide +kernel
theorem dX10_step_51 : decode cX10_step 51 = .ok (.iconst (-1), 1) := by decide +kernel
theorem dX10_step_52 : decode cX10_step 52 = .ok (.if_icmp .eq 57, 3) := by decide +kernel
theorem dX10_step_55 : decode cX10_step 55 = .ok (.iload 4, 2) := by decide +kernel
theorem dX10_step_57 : decode cX10_step 57 = .ok (.iconst (-1), 1) := by decide +kernel
theorem dX10_step_58 : decode cX10_step 58 = .ok (.if_icmp .eq 51, 3) := by decide +kernel
theorem dX10_step_61 : decode cX10_step 61 = .ok (.iload 4, 2) := by decide +kernel
theorem dX10_step_63 : decode cX10_step 63 = .ok (.aload_n 1, 1) := by decide +kernel
theorem dX10_step_64 : decode cX10_step 64 = .ok (.getfield 75, 3) := by decide +kernel
theorem dX10_step_67 : decode cX10_step 67 = .ok (.iload_n 2, 1) := by decide +kernel
theorem dX10_step_68 : decode cX10_step 68 = .ok (.iaload, 1) := by decide +kernel
theorem dX10_step_69 : decode cX10_step 69 = .ok (.iadd, 1) := by decide +kernel
theorem dX10_step_70 : decode cX10_step 70 = .ok (.aload_n 0, 1) := by decide +kernel
theorem dX10_step_71 : decode cX10_step 71 = .ok (.iload_n 3, 1) := by decide +kernel
theorem dX10_step_72 : decode cX10_step 72 = .ok (.invokevirtual 71, 3) := by decide +kernel
theorem dX10_step_75 : decode cX10_step 75 = .ok (.if_icmp .gt 34, 3) := by decide +kernel
theorem dX10_step_78 : decode cX10_step 78 = .ok (.aload_n 0, 1) := by decide +kernel
theorem dX10_step_79 : decode cX10_step 79 = .ok (.iload_n 2, 1) := by decide +kernel
theorem dX10_step_80 : decode cX10_step 80 = .ok (.putfield 92, 3) := by decide +kernel
theorem dX10_step_83 : decode cX10_step 83 = .ok (.aload_n 0, 1) := by decide +kernel
theorem dX10_step_84 : decode cX10_step 84 = .ok (.iload 4, 2) := by decide +kernel
theorem dX10_step_86 : decode cX10_step 86 = .ok (.putfield 95, 3) := by decide +kernel
theorem dX10_step_89 : decode cX10_step 89 = .ok (.aload_n 0, 1) := by decide +kernel
theorem dX10_step_90 : decode cX10_step 90 = .ok (.iload_n 3, 1) := by decide +kernel
theorem dX10_step_91 : decode cX10_step 91 = .ok (.putfield 27, 3) := by decide +kernel
theorem dX10_step_94 : decode cX10_step 94 = .ok (.aload_n 0, 1) := by decide +kernel
theorem dX10_step_95 : decode cX10_step 95 = .ok (.iload 4, 2) := by decide +kernel
theorem dX10_step_97 : decode cX10_step 97 = .ok (.aload_n 1, 1) := by decide +kernel
theorem dX10_step_98 : decode cX10_step 98 = .ok (.getfield 75, 3) := by decide +kernel
theorem dX10_step_101 : decode cX10_step 101 = .ok (.iload_n 2, 1) := by decide +kernel
theorem dX10_step_102 : decode cX10_step 102 = .ok (.iaload, 1) := by decide +kernel
theorem dX10_step_103 : decode cX10_step 103 = .ok (.iadd, 1) := by decide +kernel
theorem dX10_step_104 : decode cX10_step 104 = .ok (.putfield 39, 3) := by decide +kernel
theorem dX10_step_107 : decode cX10_step 107 = .ok (.iconst 1, 1) := by decide +kernel
theorem dX10_step_108 : decode cX10_step 108 = .ok (.ireturn, 1) := by decide +kernel
theorem dX10_step_109 : decode cX10_step 109 = .ok (.iinc 2 1, 3) := by decide +kernel
theorem dX10_step_112 : decode cX10_step 112 = .ok (.goto (-97), 3) := by decide +kernel
theorem dX10_step_115 : decode cX10_step 115 = .ok (.iconst 0, 1) := by decide +kernel
theorem dX10_step_116 : decode cX10_step 116 = .ok (.ireturn, 1) := by decide +kernel
theorem dX11_init_0 : decode cX11_init 0 = .ok (.aload_n 0, 1) := by decide +kernel
theorem dX11_init_1 : decode cX11_init 1 = .ok (.invokespecial 1, 3) := by decide +kernel
theorem dX11_init_4 : decode cX11_init 4 = .ok (.aload_n 0, 1) := by decide +kernel
theorem dX11_init_5 : decode cX11_init 5 = .ok (.new 7, 3) := by decide +kernel
theorem dX11_init_8 : decode cX11_init 8 = .ok (.dup, 1) := by decide +kernel
theorem dX11_init_9 : decode cX11_init 9 = .ok (.invokespecial 9, 3) := by decide +kernel
theorem dX11_init_12 : decode cX11_init 12 = .ok (.putfield 10, 3) := by decide +kernel
theorem dX11_init_15 : decode cX11_init 15 = .ok (.aload_n 0, 1) := by decide +kernel
theorem dX11_init_16 : decode cX11_init 16 = .ok (.new 16, 3) := by decide +kernel
theorem dX11_init_19 : decode cX11_init 19 = .ok (.dup, 1) := by decide +kernel
theorem dX11_init_20 : decode cX11_init 20 = .ok (.invokespecial 18, 3) := by decide +kernel
theorem dX11_init_23 : decode cX11_init 23 = .ok (.putfield 19, 3) := by decide +kernel
theorem dX11_init_26 : decode cX11_init 26 = .ok (.aload_n 0, 1) := by decide +kernel
theorem dX11_init_27 : decode cX11_init 27 = .ok (.bipush 6, 2) := by decide +kernel
theorem dX11_init_29 : decode cX11_init 29 = .ok (.anewarray 23, 3) := by decide +kernel
theorem dX11_init_32 : decode cX11_init 32 = .ok (.putfield 25, 3) := by decide +kernel
theorem dX11_init_35 : decode cX11_init 35 = .ok (.aload_n 0, 1) := by decide +kernel
theorem dX11_init_36 : decode cX11_init 36 = .ok (.new 29, 3) := by decide +kernel
theorem dX11_init_39 : decode cX11_init 39 = .ok (.dup, 1) := by decide +kernel
theorem dX11_init_40 : decode cX11_init 40 = .ok (.invokespecial 31, 3) := by decide +kernel
theorem dX11_init_43 : decode cX11_init 43 = .ok (.putfield 32, 3) := by decide +kernel
theorem dX11_init_46 : decode cX11_init 46 = .ok (.aload_n 0, 1) := by decide +kernel
theorem dX11_init_47 : decode cX11_init 47 = .ok (.iconst 4, 1) := by decide +kernel
theorem dX11_init_48 : decode cX11_init 48 = .ok (.anewarray 29, 3) := by decide +kernel
theorem dX11_init_51 : decode cX11_init 51 = .ok (.putfield 36, 3) := by decide +kernel
theorem dX11_init_54 : decode cX11_init 54 = .ok (.aload_n 0, 1) := by decide +kernel
theorem dX11_init_55 : decode cX11_init 55 = .ok (.new 40, 3) := by decide +kernel
theorem dX11_init_58 : decode cX11_init 58 = .ok (.dup, 1) := by decide +kernel
theorem dX11_init_59 : decode cX11_init 59 = .ok (.invokespecial 42, 3) := by decide +kernel
theorem dX11_init_62 : decode cX11_init 62 = .ok (.putfield 43, 3) := by decide +kernel
theorem dX11_init_65 : decode cX11_init 65 = .ok (.aload_n 0, 1) := by decide +kernel
theorem dX11_init_66 : decode cX11_init 66 = .ok (.new 47, 3) := by decide +kernel
theorem dX11_init_69 : decode cX11_init 69 = .ok (.dup, 1) := by decide +kernel
theorem dX11_init_70 : decode cX11_init 70 = .ok (.invokespecial 49, 3) := by decide +kernel
theorem dX11_init_73 : decode cX11_init 73 = .ok (.putfield 50, 3) := by decide +kernel
theorem dX11_init_76 : decode cX11_init 76 = .ok (.aload_n 0, 1) := by decide +kernel
theorem dX11_init_77 : decode cX11_init 77 = .ok (.new 47, 3) := by decide +kernel
theorem dX11_init_80 : decode cX11_init 80 = .ok (.dup, 1) := by decide +kernel
theorem dX11_init_81 : decode cX11_init 81 = .ok (.invokespecial 49, 3) := by decide +kernel
theorem dX11_init_84 : decode cX11_init 84 = .ok (.putfield 54, 3) := by decide +kernel
theorem dX11_init_87 : decode cX11_init 87 = .ok (.aload_n 0, 1) := by decide +kernel
theorem dX11_init_88 : decode cX11_init 88 = .ok (.new 57, 3) := by decide +kernel
theorem dX11_init_91 : decode cX11_init 91 = .ok (.dup, 1) := by decide +kernel
theorem dX11_init_92 : decode cX11_init 92 = .ok (.invokespecial 59, 3) := by decide +kernel
theorem dX11_init_95 : decode cX11_init 95 = .ok (.putfield 60, 3) := by decide +kernel
theorem dX11_init_98 : decode cX11_init 98 = .ok (.aload_n 0, 1) := by decide +kernel
theorem dX11_init_99 : decode cX11_init 99 = .ok (.bipush 16, 2) := by decide +kernel
theorem dX11_init_101 : decode cX11_init 101 = .ok (.newarray .int, 2) := by decide +kernel
theorem dX11_init_103 : decode cX11_init 103 = .ok (.putfield 64, 3) := by decide +kernel
theorem dX11_init_106 : decode cX11_init 106 = .ok (.aload_n 0, 1) := by decide +kernel
theorem dX11_init_107 : decode cX11_init 107 = .ok (.bipush 16, 2) := by decide +kernel
theorem dX11_init_109 : decode cX11_init 109 = .ok (.newarray .int, 2) := by decide +kernel
theorem dX11_init_111 : decode cX11_init 111 = .ok (.putfield 68, 3) := by decide +kernel
theorem dX11_init_114 : decode cX11_init 114 = .ok (.aload_n 0, 1) := by decide +kernel
theorem dX11_init_115 : decode cX11_init 115 = .ok (.bipush 16, 2) := by decide +kernel
theorem dX11_init_117 : decode cX11_init 117 = .ok (.newarray .int, 2) := by decide +kernel
theorem dX11_init_119 : decode cX11_init 119 = .ok (.putfield 71, 3) := by decide +kernel
theorem dX11_init_122 : decode cX11_init 122 = .ok (.aload_n 0, 1) := by decide +kernel
theorem dX11_init_123 : decode cX11_init 123 = .ok (.bipush 16, 2) := by decide +kernel
theorem dX11_init_125 : decode cX11_init 125 = .ok (.newarray .int, 2) := by decide +kernel
theorem dX11_init_127 : decode cX11_init 127 = .ok (.putfield 74, 3) := by decide +kernel
theorem dX11_init_130 : decode cX11_init 130 = .ok (.aload_n 0, 1) := by decide +kernel
theorem dX11_init_131 : decode cX11_init 131 = .ok (.bipush 20, 2) := by decide +kernel
theorem dX11_init_133 : decode cX11_init 133 = .ok (.newarray .int, 2) := by decide +kernel
theorem dX11_init_135 : decode cX11_init 135 = .ok (.putfield 77, 3) := by decide +kernel
theorem dX11_init_138 : decode cX11_init 138 = .ok (.aload_n 0, 1) := by decide +kernel
theorem dX11_init_139 : decode cX11_init 139 = .ok (.bipush 64, 2) := by decide +kernel
theorem dX11_init_141 : decode cX11_init 141 = .ok (.newarray .int, 2) := by decide +kernel
theorem dX11_init_143 : decode cX11_init 143 = .ok (.putfield 80, 3) := by decide +kernel
theorem dX11_init_146 : decode cX11_init 146 = .ok (.return_, 1) := by decide +kernel
theorem dX11_feed_0 : decode cX11_feed 0 = .ok (.aload_n 0, 1) := by decide +kernel
theorem dX11_feed_1 : decode cX11_feed 1 = .ok (.getfield 10, 3) := by decide +kernel
theorem dX11_feed_4 : decode cX11_feed 4 = .ok (.getfield 83, 3) := by decide +kernel
theorem dX11_feed_7 : decode cX11_feed 7 = .ok (.bipush 20, 2) := by decide +kernel
theorem dX11_feed_9 : decode cX11_feed 9 = .ok (.iadd, 1) := by decide +kernel
theorem dX11_feed_10 : decode cX11_feed 10 = .ok (.sipush 400, 3) := by decide +kernel
theorem dX11_feed_13 : decode cX11_feed 13 = .ok (.if_icmp .le 5, 3) := by decide +kernel
theorem dX11_feed_16 : decode cX11_feed 16 = .ok (.iconst (-1), 1) := by decide +kernel
theorem dX11_feed_17 : decode cX11_feed 17 = .ok (.ireturn, 1) := by decide +kernel
theorem dX11_feed_18 : decode cX11_feed 18 = .ok (.aload_n 0, 1) := by decide +kernel
theorem dX11_feed_19 : decode cX11_feed 19 = .ok (.getfield 10, 3) := by decide +kernel
theorem dX11_feed_22 : decode cX11_feed 22 = .ok (.iload_n 1, 1) := by decide +kernel
theorem dX11_feed_23 : decode cX11_feed 23 = .ok (.invokevirtual 87, 3) := by decide +kernel
theorem dX11_feed_26 : decode cX11_feed 26 = .ok (.aload_n 0, 1) := by decide +kernel
theorem dX11_feed_27 : decode cX11_feed 27 = .ok (.getfield 10, 3) := by decide +kernel
theorem dX11_feed_30 : decode cX11_feed 30 = .ok (.iload_n 2, 1) := by decide +kernel
theorem dX11_feed_31 : decode cX11_feed 31 = .ok (.invokevirtual 87, 3) := by decide +kernel
theorem dX11_feed_34 : decode cX11_feed 34 = .ok (.aload_n 0, 1) := by decide +kernel
theorem dX11_feed_35 : decode cX11_feed 35 = .ok (.getfield 10, 3) := by decide +kernel
theorem dX11_feed_38 : decode cX11_feed 38 = .ok (.iload_n 3, 1) := by decide +kernel
theorem dX11_feed_39 : decode cX11_feed 39 = .ok (.invokevirtual 87, 3) := by decide +kernel
theorem dX11_feed_42 : decode cX11_feed 42 = .ok (.aload_n 0, 1) := by decide +kernel
theorem dX11_feed_43 : decode cX11_feed 43 = .ok (.getfield 10, 3) := by decide +kernel
theorem dX11_feed_46 : decode cX11_feed 46 = .ok (.iload 4, 2) := by decide +kernel
theorem dX11_feed_48 : decode cX11_feed 48 = .ok (.invokevirtual 87, 3) := by decide +kernel
theorem dX11_feed_51 : decode cX11_feed 51 = .ok (.aload_n 0, 1) := by decide +kernel
theorem dX11_feed_52 : decode cX11_feed 52 = .ok (.getfield 10, 3) := by decide +kernel
theorem dX11_feed_55 : decode cX11_feed 55 = .ok (.iload 5, 2) := by decide +kernel
theorem dX11_feed_57 : decode cX11_feed 57 = .ok (.invokevirtual 87, 3) := by decide +kernel
theorem dX11_feed_60 : decode cX11_feed 60 = .ok (.aload_n 0, 1) := by decide +kernel
theorem dX11_feed_61 : decode cX11_feed 61 = .ok (.getfield 10, 3) := by decide +kernel
theorem dX11_feed_64 : decode cX11_feed 64 = .ok (.getfield 83, 3) := by decide +kernel
theorem dX11_feed_67 : decode cX11_feed 67 = .ok (.ireturn, 1) := by decide +kernel
theorem dX11_end_0 : decode cX11_end 0 = .ok (.iload_n 1, 1) := by decide +kernel
theorem dX11_end_1 : decode cX11_end 1 = .ok (.ifCond .lt 14, 3) := by decide +kernel
theorem dX11_end_4 : decode cX11_end 4 = .ok (.iload_n 1, 1) := by decide +kernel
theorem dX11_end_5 : decode cX11_end 5 = .ok (.aload_n 0, 1) := by decide +kernel
theorem dX11_end_6 : decode cX11_end 6 = .ok (.getfield 10, 3) := by decide +kernel
theorem dX11_end_9 : decode cX11_end 9 = .ok (.getfield 83, 3) := by decide +kernel
theorem dX11_end_12 : decode cX11_end 12 = .ok (.if_icmp .le 5, 3) := by decide +kernel
theorem dX11_end_15 : decode cX11_end 15 = .ok (.iconst (-1), 1) := by decide +kernel
theorem dX11_end_16 : decode cX11_end 16 = .ok (.ireturn, 1) := by decide +kernel
theorem dX11_end_17 : decode cX11_end 17 = .ok (.aload_n 0, 1) := by decide +kernel
theorem dX11_end_18 : decode cX11_end 18 = .ok (.getfield 10, 3) := by decide +kernel
theorem dX11_end_21 : decode cX11_end 21 = .ok (.iload_n 1, 1) := by decide +kernel
theorem dX11_end_22 : decode cX11_end 22 = .ok (.putfield 83, 3) := by decide +kernel
theorem dX11_end_25 : decode cX11_end 25 = .ok (.iload_n 1, 1) := by decide +kernel
theorem dX11_end_26 : decode cX11_end 26 = .ok (.ireturn, 1) := by decide +kernel
theorem dX11_house_0 : decode cX11_house 0 = .ok (.new 91, 3) := by decide +kernel
theorem dX11_house_3 : decode cX11_house 3 = .ok (.dup, 1) := by decide +kernel
theorem dX11_house_4 : decode cX11_house 4 = .ok (.aload_n 0, 1) := by decide +kernel
theorem dX11_house_5 : decode cX11_house 5 = .ok (.getfield 10, 3) := by decide +kernel
theorem dX11_house_8 : decode cX11_house 8 = .ok (.aload_n 0, 1) := by decide +kernel
theorem dX11_house_9 : decode cX11_house 9 = .ok (.getfield 19, 3) := by decide +kernel
theorem dX11_house_12 : decode cX11_house 12 = .ok (.invokespecial 93, 3) := by decide +kernel
theorem dX11_house_15 : decode cX11_house 15 = .ok (.astore_n 1, 1) := by decide +kernel
theorem dX11_house_16 : decode cX11_house 16 = .ok (.aload_n 1, 1) := by decide +kernel
theorem dX11_house_17 : decode cX11_house 17 = .ok (.invokevirtual 96, 3) := by decide +kernel
theorem dX11_house_20 : decode cX11_house 20 = .ok (.istore_n 2, 1) := by decide +kernel
theorem dX11_house_21 : decode cX11_house 21 = .ok (.aload_n 0, 1) := by decide +kernel
theorem dX11_house_22 : decode cX11_house 22 = .ok (.getfield 10, 3) := by decide +kernel
theorem dX11_house_25 : decode cX11_house 25 = .ok (.iconst 0, 1) := by decide +kernel
theorem dX11_house_26 : decode cX11_house 26 = .ok (.putfield 83, 3) := by decide +kernel
theorem dX11_house_29 : decode cX11_house 29 = .ok (.iload_n 2, 1) := by decide +kernel
theorem dX11_house_30 : decode cX11_house 30 = .ok (.ifCond .ne 14, 3) := by decide +kernel
theorem dX11_house_33 : decode cX11_house 33 = .ok (.bipush (-2), 2) := by decide +kernel
theorem dX11_house_35 : decode cX11_house 35 = .ok (.aload_n 0, 1) := by decide +kernel
theorem dX11_house_36 : decode cX11_house 36 = .ok (.getfield 10, 3) := by decide +kernel
theorem dX11_house_39 : decode cX11_house 39 = .ok (.getfield 100, 3) := by decide +kernel
theorem dX11_house_42 : decode cX11_house 42 = .ok (.isub, 1) := by decide +kernel
theorem dX11_house_43 : decode cX11_house 43 = .ok (.ireturn, 1) := by decide +kernel
theorem dX11_house_44 : decode cX11_house 44 = .ok (.aload_n 0, 1) := by decide +kernel
theorem dX11_house_45 : decode cX11_house 45 = .ok (.getfield 32, 3) := by decide +kernel
theorem dX11_house_48 : decode cX11_house 48 = .ok (.aload_n 0, 1) := by decide +kernel
theorem dX11_house_49 : decode cX11_house 49 = .ok (.getfield 19, 3) := by decide +kernel
theorem dX11_house_52 : decode cX11_house 52 = .ok (.invokevirtual 103, 3) := by decide +kernel
theorem dX11_house_55 : decode cX11_house 55 = .ok (.aload_n 0, 1) := by decide +kernel
theorem dX11_house_56 : decode cX11_house 56 = .ok (.getfield 32, 3) := by decide +kernel
theorem dX11_house_59 : decode cX11_house 59 = .ok (.getfield 107, 3) := by decide +kernel
theorem dX11_house_62 : decode cX11_house 62 = .ok (.getfield 110, 3) := by decide +kernel
theorem dX11_house_65 : decode cX11_house 65 = .ok (.ireturn, 1) := by decide +kernel
theorem dX11_rule_0 : decode cX11_rule 0 = .ok (.aload_n 0, 1) := by decide +kernel
theorem dX11_rule_1 : decode cX11_rule 1 = .ok (.getfield 113, 3) := by decide +kernel
theorem dX11_rule_4 : decode cX11_rule 4 = .ok (.ifCond .lt 12, 3) := by decide +kernel
theorem dX11_rule_7 : decode cX11_rule 7 = .ok (.aload_n 0, 1) := by decide +kernel
theorem dX11_rule_8 : decode cX11_rule 8 = .ok (.getfield 113, 3) := by decide +kernel
theorem dX11_rule_11 : decode cX11_rule 11 = .ok (.bipush 6, 2) := by decide +kernel
theorem dX11_rule_13 : decode cX11_rule 13 = .ok (.if_icmp .lt 5, 3) := by decide +kernel
theorem dX11_rule_16 : decode cX11_rule 16 = .ok (.iconst (-1), 1) := by decide +kernel
theorem dX11_rule_17 : decode cX11_rule 17 = .ok (.ireturn, 1) := by decide +kernel
theorem dX11_rule_18 : decode cX11_rule 18 = .ok (.aload_n 0, 1) := by decide +kernel
theorem dX11_rule_19 : decode cX11_rule 19 = .ok (.getfield 25, 3) := by decide +kernel
theorem dX11_rule_22 : decode cX11_rule 22 = .ok (.aload_n 0, 1) := by decide +kernel
theorem dX11_rule_23 : decode cX11_rule 23 = .ok (.getfield 113, 3) := by decide +kernel
theorem dX11_rule_26 : decode cX11_rule 26 = .ok (.aaload, 1) := by decide +kernel
theorem dX11_rule_27 : decode cX11_rule 27 = .ok (.ifnonnull 19, 3) := by decide +kernel
theorem dX11_rule_30 : decode cX11_rule 30 = .ok (.aload_n 0, 1) := by decide +kernel
theorem dX11_rule_31 : decode cX11_rule 31 = .ok (.getfield 25, 3) := by decide +kernel
theorem dX11_rule_34 : decode cX11_rule 34 = .ok (.aload_n 0, 1) := by decide +kernel
theorem dX11_rule_35 : decode cX11_rule 35 = .ok (.getfield 113, 3) := by decide +kernel
theorem dX11_rule_38 : decode cX11_rule 38 = .ok (.new 23, 3) := by decide +kernel
theorem dX11_rule_41 : decode cX11_rule 41 = .ok (.dup, 1) := by decide +kernel
theorem dX11_rule_42 : decode cX11_rule 42 = .ok (.invokespecial 116, 3) := by decide +kernel
theorem dX11_rule_45 : decode cX11_rule 45 = .ok (.aastore, 1) := by decide +kernel
theorem dX11_rule_46 : decode cX11_rule 46 = .ok (.new 117, 3) := by decide +kernel
theorem dX11_rule_49 : decode cX11_rule 49 = .ok (.dup, 1) := by decide +kernel
theorem dX11_rule_50 : decode cX11_rule 50 = .ok (.aload_n 0, 1) := by decide +kernel
theorem dX11_rule_51 : decode cX11_rule 51 = .ok (.getfield 10, 3) := by decide +kernel
theorem dX11_rule_54 : decode cX11_rule 54 = .ok (.aload_n 0, 1) := by decide +kernel
theorem dX11_rule_55 : decode cX11_rule 55 = .ok (.getfield 25, 3) := by decide +kernel
theorem dX11_rule_58 : decode cX11_rule 58 = .ok (.aload_n 0, 1) := by decide +kernel
theorem dX11_rule_59 : decode cX11_rule 59 = .ok (.getfield 113, 3) := by decide +kernel
theorem dX11_rule_62 : decode cX11_rule 62 = .ok (.aaload, 1) := by decide +kernel
theorem dX11_rule_63 : decode cX11_rule 63 = .ok (.invokespecial 119, 3) := by decide +kernel
theorem dX11_rule_66 : decode cX11_rule 66 = .ok (.astore_n 1, 1) := by decide +kernel
theorem dX11_rule_67 : decode cX11_rule 67 = .ok (.aload_n 1, 1) := by decide +kernel
theorem dX11_rule_68 : decode cX11_rule 68 = .ok (.invokevirtual 122, 3) := by decide +kernel
theorem dX11_rule_71 : decode cX11_rule 71 = .ok (.istore_n 2, 1) := by decide +kernel
theorem dX11_rule_72 : decode cX11_rule 72 = .ok (.aload_n 0, 1) := by decide +kernel
theorem dX11_rule_73 : decode cX11_rule 73 = .ok (.getfield 10, 3) := by decide +kernel
theorem dX11_rule_76 : decode cX11_rule 76 = .ok (.iconst 0, 1) := by decide +kernel
theorem dX11_rule_77 : decode cX11_rule 77 = .ok (.putfield 83, 3) := by decide +kernel
theorem dX11_rule_80 : decode cX11_rule 80 = .ok (.iload_n 2, 1) := by decide +kernel
theorem dX11_rule_81 : decode cX11_rule 81 = .ok (.ifCond .ne 14, 3) := by decide +kernel
theorem dX11_rule_84 : decode cX11_rule 84 = .ok (.bipush (-2), 2) := by decide +kernel
theorem dX11_rule_86 : decode cX11_rule 86 = .ok (.aload_n 0, 1) := by decide +kernel
theorem dX11_rule_87 : decode cX11_rule 87 = .ok (.getfield 10, 3) := by decide +kernel
theorem dX11_rule_90 : decode cX11_rule 90 = .ok (.getfield 100, 3) := by decide +kernel
theorem dX11_rule_93 : decode cX11_rule 93 = .ok (.isub, 1) := by decide +kernel
theorem dX11_rule_94 : decode cX11_rule 94 = .ok (.ireturn, 1) := by decide +kernel
theorem dX11_rule_95 : decode cX11_rule 95 = .ok (.aload_n 0, 1) := by decide +kernel
theorem dX11_rule_96 : decode cX11_rule 96 = .ok (.dup, 1) := by decide +kernel
theorem dX11_rule_97 : decode cX11_rule 97 = .ok (.getfield 113, 3) := by decide +kernel
theorem dX11_rule_100 : decode cX11_rule 100 = .ok (.iconst 1, 1) := by decide +kernel
theorem dX11_rule_101 : decode cX11_rule 101 = .ok (.iadd, 1) := by decide +kernel
theorem dX11_rule_102 : decode cX11_rule 102 = .ok (.putfield 113, 3) := by decide +kernel
theorem dX11_rule_105 : decode cX11_rule 105 = .ok (.aload_n 0, 1) := by decide +kernel
theorem dX11_rule_106 : decode cX11_rule 106 = .ok (.getfield 113, 3) := by decide +kernel
theorem dX11_rule_109 : decode cX11_rule 109 = .ok (.iconst 1, 1) := by decide +kernel
theorem dX11_rule_110 : decode cX11_rule 110 = .ok (.isub, 1) := by decide +kernel
theorem dX11_rule_111 : decode cX11_rule 111 = .ok (.ireturn, 1) := by decide +kernel
theorem dX11_room_0 : decode cX11_room 0 = .ok (.aload_n 0, 1) := by decide +kernel
theorem dX11_room_1 : decode cX11_room 1 = .ok (.getfield 32, 3) := by decide +kernel
theorem dX11_room_4 : decode cX11_room 4 = .ok (.getfield 107, 3) := by decide +kernel
theorem dX11_room_7 : decode cX11_room 7 = .ok (.astore_n 3, 1) := by decide +kernel
theorem dX11_room_8 : decode cX11_room 8 = .ok (.aload_n 3, 1) := by decide +kernel
theorem dX11_room_9 : decode cX11_room 9 = .ok (.iload_n 1, 1) := by decide +kernel
theorem dX11_room_10 : decode cX11_room 10 = .ok (.invokevirtual 123, 3) := by decide +kernel
theorem dX11_room_13 : decode cX11_room 13 = .ok (.ifCond .ne 5, 3) := by decide +kernel
theorem dX11_room_16 : decode cX11_room 16 = .ok (.iconst (-1), 1) := by decide +kernel
theorem dX11_room_17 : decode cX11_room 17 = .ok (.ireturn, 1) := by decide +kernel
theorem dX11_room_18 : decode cX11_room 18 = .ok (.iload_n 2, 1) := by decide +kernel
theorem dX11_room_19 : decode cX11_room 19 = .ok (.tableswitch 59 0 2 #[25, 32, 45], 25) := by decide +kernel
theorem dX11_room_44 : decode cX11_room 44 = .ok (.aload_n 3, 1) := by decide +kernel
theorem dX11_room_45 : decode cX11_room 45 = .ok (.getfield 127, 3) := by decide +kernel
theorem dX11_room_48 : decode cX11_room 48 = .ok (.iload_n 1, 1) := by decide +kernel
theorem dX11_room_49 : decode cX11_room 49 = .ok (.iaload, 1) := by decide +kernel
theorem dX11_room_50 : decode cX11_room 50 = .ok (.ireturn, 1) := by decide +kernel
theorem dX11_room_51 : decode cX11_room 51 = .ok (.aload_n 0, 1) := by decide +kernel
theorem dX11_room_52 : decode cX11_room 52 = .ok (.getfield 32, 3) := by decide +kernel
theorem dX11_room_55 : decode cX11_room 55 = .ok (.getfield 130, 3) := by decide +kernel
theorem dX11_room_58 : decode cX11_room 58 = .ok (.aload_n 3, 1) := by decide +kernel
theorem dX11_room_59 : decode cX11_room 59 = .ok (.iload_n 1, 1) := by decide +kernel
theorem dX11_room_60 : decode cX11_room 60 = .ok (.invokevirtual 133, 3) := by decide +kernel
theorem dX11_room_63 : decode cX11_room 63 = .ok (.ireturn, 1) := by decide +kernel
theorem dX11_room_64 : decode cX11_room 64 = .ok (.aload_n 3, 1) := by decide +kernel
theorem dX11_room_65 : decode cX11_room 65 = .ok (.getfield 137, 3) := by decide +kernel
theorem dX11_room_68 : decode cX11_room 68 = .ok (.iload_n 1, 1) := by decide +kernel
theorem dX11_room_69 : decode cX11_room 69 = .ok (.if_icmp .ne 7, 3) := by decide +kernel
theorem dX11_room_72 : decode cX11_room 72 = .ok (.iconst 1, 1) := by decide +kernel
theorem dX11_room_73 : decode cX11_room 73 = .ok (.goto 4, 3) := by decide +kernel
theorem dX11_room_76 : decode cX11_room 76 = .ok (.iconst 0, 1) := by decide +kernel
theorem dX11_room_77 : decode cX11_room 77 = .ok (.ireturn, 1) := by decide +kernel
theorem dX11_room_78 : decode cX11_room 78 = .ok (.iconst (-1), 1) := by decide +kernel
theorem dX11_room_79 : decode cX11_room 79 = .ok (.ireturn, 1) := by decide +kernel
theorem dX11_way_0 : decode cX11_way 0 = .ok (.aload_n 0, 1) := by decide +kernel
theorem dX11_way_1 : decode cX11_way 1 = .ok (.getfield 32, 3) := by decide +kernel
theorem dX11_way_4 : decode cX11_way 4 = .ok (.getfield 107, 3) := by decide +kernel
theorem dX11_way_7 : decode cX11_way 7 = .ok (.astore_n 3, 1) := by decide +kernel
theorem dX11_way_8 : decode cX11_way 8 = .ok (.aload_n 3, 1) := by decide +kernel
theorem dX11_way_9 : decode cX11_way 9 = .ok (.iload_n 1, 1) := by decide +kernel
theorem dX11_way_10 : decode cX11_way 10 = .ok (.invokevirtual 140, 3) := by decide +kernel
theorem dX11_way_13 : decode cX11_way 13 = .ok (.ifCond .ne 6, 3) := by decide +kernel
theorem dX11_way_16 : decode cX11_way 16 = .ok (.bipush (-2), 2) := by decide +kernel
theorem dX11_way_18 : decode cX11_way 18 = .ok (.ireturn, 1) := by decide +kernel
theorem dX11_way_19 : decode cX11_way 19 = .ok (.iload_n 2, 1) := by decide +kernel
theorem dX11_way_20 : decode cX11_way 20 = .ok (.tableswitch 82 0 5 #[40, 47, 54, 61, 68, 75], 40) := by decide +kernel
theorem dX11_way_60 : decode cX11_way 60 = .ok (.aload_n 3, 1) := by decide +kernel
theorem dX11_way_61 : decode cX11_way 61 = .ok (.getfield 143, 3) := by decide +kernel
theorem dX11_way_64 : decode cX11_way 64 = .ok (.iload_n 1, 1) := by decide +kernel
theorem dX11_way_65 : decode cX11_way 65 = .ok (.iaload, 1) := by decide +kernel
theorem dX11_way_66 : decode cX11_way 66 = .ok (.ireturn, 1) := by decide +kernel
theorem dX11_way_67 : decode cX11_way 67 = .ok (.aload_n 3, 1) := by decide +kernel
theorem dX11_way_68 : decode cX11_way 68 = .ok (.getfield 146, 3) := by decide +kernel
theorem dX11_way_71 : decode cX11_way 71 = .ok (.iload_n 1, 1) := by decide +kernel
theorem dX11_way_72 : decode cX11_way 72 = .ok (.iaload, 1) := by decide +kernel
theorem dX11_way_73 : decode cX11_way 73 = .ok (.ireturn, 1) := by decide +kernel
theorem dX11_way_74 : decode cX11_way 74 = .ok (.aload_n 3, 1) := by decide +kernel
theorem dX11_way_75 : decode cX11_way 75 = .ok (.getfield 149, 3) := by decide +kernel
theorem dX11_way_78 : decode cX11_way 78 = .ok (.iload_n 1, 1) := by decide +kernel
theorem dX11_way_79 : decode cX11_way 79 = .ok (.iaload, 1) := by decide +kernel
theorem dX11_way_80 : decode cX11_way 80 = .ok (.ireturn, 1) := by decide +kernel
theorem dX11_way_81 : decode cX11_way 81 = .ok (.aload_n 3, 1) := by decide +kernel
theorem dX11_way_82 : decode cX11_way 82 = .ok (.getfield 152, 3) := by decide +kernel
theorem dX11_way_85 : decode cX11_way 85 = .ok (.iload_n 1, 1) := by decide +kernel
theorem dX11_way_86 : decode cX11_way 86 = .ok (.iaload, 1) := by decide +kernel
theorem dX11_way_87 : decode cX11_way 87 = .ok (.ireturn, 1) := by decide +kernel
theorem dX11_way_88 : decode cX11_way 88 = .ok (.aload_n 3, 1) := by decide +kernel
theorem dX11_way_89 : decode cX11_way 89 = .ok (.getfield 155, 3) := by decide +kernel
theorem dX11_way_92 : decode cX11_way 92 = .ok (.iload_n 1, 1) := by decide +kernel
theorem dX11_way_93 : decode cX11_way 93 = .ok (.iaload, 1) := by decide +kernel
theorem dX11_way_94 : decode cX11_way 94 = .ok (.ireturn, 1) := by decide +kernel
theorem dX11_way_95 : decode cX11_way 95 = .ok (.aload_n 3, 1) := by decide +kernel
theorem dX11_way_96 : decode cX11_way 96 = .ok (.getfield 158, 3) := by decide +kernel
theorem dX11_way_99 : decode cX11_way 99 = .ok (.iload_n 1, 1) := by decide +kernel
theorem dX11_way_100 : decode cX11_way 100 = .ok (.iaload, 1) := by decide +kernel
theorem dX11_way_101 : decode cX11_way 101 = .ok (.ireturn, 1) := by decide +kernel
theorem dX11_way_102 : decode cX11_way 102 = .ok (.bipush (-2), 2) := by decide +kernel
theorem dX11_way_104 : decode cX11_way 104 = .ok (.ireturn, 1) := by decide +kernel
theorem dX11_person_0 : decode cX11_person 0 = .ok (.aload_n 0, 1) := by decide +kernel
theorem dX11_person_1 : decode cX11_person 1 = .ok (.getfield 32, 3) := by decide +kernel
theorem dX11_person_4 : decode cX11_person 4 = .ok (.getfield 130, 3) := by decide +kernel
theorem dX11_person_7 : decode cX11_person 7 = .ok (.astore_n 3, 1) := by decide +kernel
theorem dX11_person_8 : decode cX11_person 8 = .ok (.aload_n 0, 1) := by decide +kernel
theorem dX11_person_9 : decode cX11_person 9 = .ok (.getfield 32, 3) := by decide +kernel
theorem dX11_person_12 : decode cX11_person 12 = .ok (.getfield 107, 3) := by decide +kernel
theorem dX11_person_15 : decode cX11_person 15 = .ok (.iload_n 1, 1) := by decide +kernel
theorem dX11_person_16 : decode cX11_person 16 = .ok (.invokevirtual 161, 3) := by decide +kernel
theorem dX11_person_19 : decode cX11_person 19 = .ok (.ifCond .ne 6, 3) := by decide +kernel
theorem dX11_person_22 : decode cX11_person 22 = .ok (.bipush (-2), 2) := by decide +kernel
theorem dX11_person_24 : decode cX11_person 24 = .ok (.ireturn, 1) := by decide +kernel
theorem dX11_person_25 : decode cX11_person 25 = .ok (.iload_n 2, 1) := by decide +kernel
theorem dX11_person_26 : decode cX11_person 26 = .ok (.tableswitch 75 0 4 #[34, 41, 54, 61, 68], 34) := by decide +kernel
theorem dX11_person_60 : decode cX11_person 60 = .ok (.aload_n 3, 1) := by decide +kernel
theorem dX11_person_61 : decode cX11_person 61 = .ok (.getfield 164, 3) := by decide +kernel
theorem dX11_person_64 : decode cX11_person 64 = .ok (.iload_n 1, 1) := by decide +kernel
theorem dX11_person_65 : decode cX11_person 65 = .ok (.iaload, 1) := by decide +kernel
theorem dX11_person_66 : decode cX11_person 66 = .ok (.ireturn, 1) := by decide +kernel
theorem dX11_person_67 : decode cX11_person 67 = .ok (.aload_n 0, 1) := by decide +kernel
theorem dX11_person_68 : decode cX11_person 68 = .ok (.getfield 32, 3) := by decide +kernel
theorem dX11_person_71 : decode cX11_person 71 = .ok (.getfield 107, 3) := by decide +kernel
theorem dX11_person_74 : decode cX11_person 74 = .ok (.getfield 167, 3) := by decide +kernel
theorem dX11_person_77 : decode cX11_person 77 = .ok (.iload_n 1, 1) := by decide +kernel
theorem dX11_person_78 : decode cX11_person 78 = .ok (.iaload, 1) := by decide +kernel
theorem dX11_person_79 : decode cX11_person 79 = .ok (.ireturn, 1) := by decide +kernel
theorem dX11_person_80 : decode cX11_person 80 = .ok (.aload_n 3, 1) := by decide +kernel
theorem dX11_person_81 : decode cX11_person 81 = .ok (.getfield 170, 3) := by decide +kernel
theorem dX11_person_84 : decode cX11_person 84 = .ok (.iload_n 1, 1) := by decide +kernel
theorem dX11_person_85 : decode cX11_person 85 = .ok (.iaload, 1) := by decide +kernel
theorem dX11_person_86 : decode cX11_person 86 = .ok (.ireturn, 1) := by decide +kernel
theorem dX11_person_87 : decode cX11_person 87 = .ok (.aload_n 3, 1) := by decide +kernel
theorem dX11_person_88 : decode cX11_person 88 = .ok (.getfield 173, 3) := by decide +kernel
theorem dX11_person_91 : decode cX11_person 91 = .ok (.iload_n 1, 1) := by decide +kernel
theorem dX11_person_92 : decode cX11_person 92 = .ok (.iaload, 1) := by decide +kernel
theorem dX11_person_93 : decode cX11_person 93 = .ok (.ireturn, 1) := by decide +kernel
theorem dX11_person_94 : decode cX11_person 94 = .ok (.aload_n 3, 1) := by decide +kernel
theorem dX11_person_95 : decode cX11_person 95 = .ok (.getfield 176, 3) := by decide +kernel
theorem dX11_person_98 : decode cX11_person 98 = .ok (.iload_n 1, 1) := by decide +kernel
theorem dX11_person_99 : decode cX11_person 99 = .ok (.iaload, 1) := by decide +kernel
theorem dX11_person_100 : decode cX11_person 100 = .ok (.ireturn, 1) := by decide +kernel
theorem dX11_person_101 : decode cX11_person 101 = .ok (.bipush (-2), 2) := by decide +kernel
theorem dX11_person_103 : decode cX11_person 103 = .ok (.ireturn, 1) := by decide +kernel
theorem dX11_go_0 : decode cX11_go 0 = .ok (.aload_n 0, 1) := by decide +kernel
theorem dX11_go_1 : decode cX11_go 1 = .ok (.getfield 32, 3) := by decide +kernel
theorem dX11_go_4 : decode cX11_go 4 = .ok (.getfield 107, 3) := by decide +kernel
theorem dX11_go_7 : decode cX11_go 7 = .ok (.astore_n 3, 1) := by decide +kernel
theorem dX11_go_8 : decode cX11_go 8 = .ok (.aload_n 0, 1) := by decide +kernel
theorem dX11_go_9 : decode cX11_go 9 = .ok (.getfield 32, 3) := by decide +kernel
theorem dX11_go_12 : decode cX11_go 12 = .ok (.getfield 130, 3) := by decide +kernel
theorem dX11_go_15 : decode cX11_go 15 = .ok (.astore 4, 2) := by decide +kernel
theorem dX11_go_17 : decode cX11_go 17 = .ok (.aload_n 3, 1) := by decide +kernel
theorem dX11_go_18 : decode cX11_go 18 = .ok (.iload_n 1, 1) := by decide +kernel
theorem dX11_go_19 : decode cX11_go 19 = .ok (.invokevirtual 161, 3) := by decide +kernel
theorem dX11_go_22 : decode cX11_go 22 = .ok (.ifCond .eq 25, 3) := by decide +kernel
theorem dX11_go_25 : decode cX11_go 25 = .ok (.aload 4, 2) := by decide +kernel
theorem dX11_go_27 : decode cX11_go 27 = .ok (.getfield 179, 3) := by decide +kernel
theorem dX11_go_30 : decode cX11_go 30 = .ok (.sipush 1439, 3) := by decide +kernel
theorem dX11_go_33 : decode cX11_go 33 = .ok (.if_icmp .gt 14, 3) := by decide +kernel
theorem dX11_go_36 : decode cX11_go 36 = .ok (.aload 4, 2) := by decide +kernel
theorem dX11_go_38 : decode cX11_go 38 = .ok (.getfield 164, 3) := by decide +kernel
theorem dX11_go_41 : decode cX11_go 41 = .ok (.iload_n 1, 1) := by decide +kernel
theorem dX11_go_42 : decode cX11_go 42 = .ok (.iaload, 1) := by decide +kernel
theorem dX11_go_43 : decode cX11_go 43 = .ok (.iconst (-1), 1) := by decide +kernel
theorem dX11_go_44 : decode cX11_go 44 = .ok (.if_icmp .ne 5, 3) := by decide +kernel
theorem dX11_go_47 : decode cX11_go 47 = .ok (.iconst 0, 1) := by decide +kernel
theorem dX11_go_48 : decode cX11_go 48 = .ok (.ireturn, 1) := by decide +kernel
theorem dX11_go_49 : decode cX11_go 49 = .ok (.iload_n 2, 1) := by decide +kernel
theorem dX11_go_50 : decode cX11_go 50 = .ok (.bipush 24, 2) := by decide +kernel
theorem dX11_go_52 : decode cX11_go 52 = .ok (.if_icmp .ne 13, 3) := by decide +kernel
theorem dX11_go_55 : decode cX11_go 55 = .ok (.aload 4, 2) := by decide +kernel
theorem dX11_go_57 : decode cX11_go 57 = .ok (.aload_n 3, 1) := by decide +kernel
theorem dX11_go_58 : decode cX11_go 58 = .ok (.iload_n 1, 1) := by decide +kernel
theorem dX11_go_59 : decode cX11_go 59 = .ok (.invokevirtual 182, 3) := by decide +kernel
theorem dX11_go_62 : decode cX11_go 62 = .ok (.goto 11, 3) := by decide +kernel
theorem dX11_go_65 : decode cX11_go 65 = .ok (.aload 4, 2) := by decide +kernel
theorem dX11_go_67 : decode cX11_go 67 = .ok (.aload_n 3, 1) := by decide +kernel
theorem dX11_go_68 : decode cX11_go 68 = .ok (.iload_n 1, 1) := by decide +kernel
theorem dX11_go_69 : decode cX11_go 69 = .ok (.iload_n 2, 1) := by decide +kernel
theorem dX11_go_70 : decode cX11_go 70 = .ok (.invokevirtual 186, 3) := by decide +kernel
theorem dX11_go_73 : decode cX11_go 73 = .ok (.ireturn, 1) := by decide +kernel
theorem dX11_tick_0 : decode cX11_tick 0 = .ok (.aload_n 0, 1) := by decide +kernel
theorem dX11_tick_1 : decode cX11_tick 1 = .ok (.iload_n 1, 1) := by decide +kernel
theorem dX11_tick_2 : decode cX11_tick 2 = .ok (.invokevirtual 190, 3) := by decide +kernel
theorem dX11_tick_5 : decode cX11_tick 5 = .ok (.astore_n 3, 1) := by decide +kernel
theorem dX11_tick_6 : decode cX11_tick 6 = .ok (.aload_n 0, 1) := by decide +kernel
theorem dX11_tick_7 : decode cX11_tick 7 = .ok (.getfield 32, 3) := by decide +kernel
theorem dX11_tick_10 : decode cX11_tick 10 = .ok (.getfield 130, 3) := by decide +kernel
theorem dX11_tick_13 : decode cX11_tick 13 = .ok (.astore 4, 2) := by decide +kernel
theorem dX11_tick_15 : decode cX11_tick 15 = .ok (.aload_n 3, 1) := by decide +kernel
theorem dX11_tick_16 : decode cX11_tick 16 = .ok (.ifnull 28, 3) := by decide +kernel
theorem dX11_tick_19 : decode cX11_tick 19 = .ok (.iload_n 2, 1) := by decide +kernel
theorem dX11_tick_20 : decode cX11_tick 20 = .ok (.iconst 1, 1) := by decide +kernel
theorem dX11_tick_21 : decode cX11_tick 21 = .ok (.if_icmp .lt 23, 3) := by decide +kernel
theorem dX11_tick_24 : decode cX11_tick 24 = .ok (.iload_n 2, 1) := by decide +kernel
theorem dX11_tick_25 : decode cX11_tick 25 = .ok (.sipush 1440, 3) := by decide +kernel
theorem dX11_tick_28 : decode cX11_tick 28 = .ok (.if_icmp .gt 16, 3) := by decide +kernel
theorem dX11_tick_31 : decode cX11_tick 31 = .ok (.iload_n 2, 1) := by decide +kernel
theorem dX11_tick_32 : decode cX11_tick 32 = .ok (.sipush 1440, 3) := by decide +kernel
theorem dX11_tick_35 : decode cX11_tick 35 = .ok (.aload 4, 2) := by decide +kernel
theorem dX11_tick_37 : decode cX11_tick 37 = .ok (.getfield 179, 3) := by decide +kernel
theorem dX11_tick_40 : decode cX11_tick 40 = .ok (.isub, 1) := by decide +kernel
theorem dX11_tick_41 : decode cX11_tick 41 = .ok (.if_icmp .le 5, 3) := by decide +kernel
theorem dX11_tick_44 : decode cX11_tick 44 = .ok (.iconst (-1), 1) := by decide +kernel
theorem dX11_tick_45 : decode cX11_tick 45 = .ok (.ireturn, 1) := by decide +kernel
theorem dX11_tick_46 : decode cX11_tick 46 = .ok (.aload 4, 2) := by decide +kernel
theorem dX11_tick_48 : decode cX11_tick 48 = .ok (.aload_n 0, 1) := by decide +kernel
theorem dX11_tick_49 : decode cX11_tick 49 = .ok (.getfield 32, 3) := by decide +kernel
theorem dX11_tick_52 : decode cX11_tick 52 = .ok (.getfield 107, 3) := by decide +kernel
theorem dX11_tick_55 : decode cX11_tick 55 = .ok (.aload_n 3, 1) := by decide +kernel
theorem dX11_tick_56 : decode cX11_tick 56 = .ok (.iload_n 2, 1) := by decide +kernel
theorem dX11_tick_57 : decode cX11_tick 57 = .ok (.invokevirtual 194, 3) := by decide +kernel
theorem dX11_tick_60 : decode cX11_tick 60 = .ok (.aload 4, 2) := by decide +kernel
theorem dX11_tick_62 : decode cX11_tick 62 = .ok (.getfield 179, 3) := by decide +kernel
theorem dX11_tick_65 : decode cX11_tick 65 = .ok (.ireturn, 1) := by decide +kernel
theorem dX11_ahead_0 : decode cX11_ahead 0 = .ok (.aload_n 0, 1) := by decide +kernel
theorem dX11_ahead_1 : decode cX11_ahead 1 = .ok (.iload_n 1, 1) := by decide +kernel
theorem dX11_ahead_2 : decode cX11_ahead 2 = .ok (.invokevirtual 190, 3) := by decide +kernel
theorem dX11_ahead_5 : decode cX11_ahead 5 = .ok (.astore_n 3, 1) := by decide +kernel
theorem dX11_ahead_6 : decode cX11_ahead 6 = .ok (.aload_n 3, 1) := by decide +kernel
theorem dX11_ahead_7 : decode cX11_ahead 7 = .ok (.ifnull 12, 3) := by decide +kernel
theorem dX11_ahead_10 : decode cX11_ahead 10 = .ok (.iload_n 2, 1) := by decide +kernel
theorem dX11_ahead_11 : decode cX11_ahead 11 = .ok (.ifCond .lt 8, 3) := by decide +kernel
theorem dX11_ahead_14 : decode cX11_ahead 14 = .ok (.iload_n 2, 1) := by decide +kernel
theorem dX11_ahead_15 : decode cX11_ahead 15 = .ok (.iconst 2, 1) := by decide +kernel
theorem dX11_ahead_16 : decode cX11_ahead 16 = .ok (.if_icmp .le 5, 3) := by decide +kernel
theorem dX11_ahead_19 : decode cX11_ahead 19 = .ok (.iconst (-1), 1) := by decide +kernel
theorem dX11_ahead_20 : decode cX11_ahead 20 = .ok (.ireturn, 1) := by decide +kernel
theorem dX11_ahead_21 : decode cX11_ahead 21 = .ok (.aload_n 0, 1) := by decide +kernel
theorem dX11_ahead_22 : decode cX11_ahead 22 = .ok (.getfield 43, 3) := by decide +kernel
theorem dX11_ahead_25 : decode cX11_ahead 25 = .ok (.aload_n 0, 1) := by decide +kernel
theorem dX11_ahead_26 : decode cX11_ahead 26 = .ok (.getfield 32, 3) := by decide +kernel
theorem dX11_ahead_29 : decode cX11_ahead 29 = .ok (.getfield 130, 3) := by decide +kernel
theorem dX11_ahead_32 : decode cX11_ahead 32 = .ok (.invokevirtual 198, 3) := by decide +kernel
theorem dX11_ahead_35 : decode cX11_ahead 35 = .ok (.aload_n 0, 1) := by decide +kernel
theorem dX11_ahead_36 : decode cX11_ahead 36 = .ok (.getfield 43, 3) := by decide +kernel
theorem dX11_ahead_39 : decode cX11_ahead 39 = .ok (.aload_n 0, 1) := by decide +kernel
theorem dX11_ahead_40 : decode cX11_ahead 40 = .ok (.getfield 32, 3) := by decide +kernel
theorem dX11_ahead_43 : decode cX11_ahead 43 = .ok (.getfield 107, 3) := by decide +kernel
theorem dX11_ahead_46 : decode cX11_ahead 46 = .ok (.aload_n 3, 1) := by decide +kernel
theorem dX11_ahead_47 : decode cX11_ahead 47 = .ok (.sipush 1440, 3) := by decide +kernel
theorem dX11_ahead_50 : decode cX11_ahead 50 = .ok (.aload_n 0, 1) := by decide +kernel
theorem dX11_ahead_51 : decode cX11_ahead 51 = .ok (.getfield 43, 3) := by decide +kernel
theorem dX11_ahead_54 : decode cX11_ahead 54 = .ok (.getfield 179, 3) := by decide +kernel
theorem dX11_ahead_57 : decode cX11_ahead 57 = .ok (.isub, 1) := by decide +kernel
theorem dX11_ahead_58 : decode cX11_ahead 58 = .ok (.invokevirtual 194, 3) := by decide +kernel
theorem dX11_ahead_61 : decode cX11_ahead 61 = .ok (.aload_n 0, 1) := by decide +kernel
theorem dX11_ahead_62 : decode cX11_ahead 62 = .ok (.getfield 43, 3) := by decide +kernel
theorem dX11_ahead_65 : decode cX11_ahead 65 = .ok (.aload_n 0, 1) := by decide +kernel
theorem dX11_ahead_66 : decode cX11_ahead 66 = .ok (.getfield 32, 3) := by decide +kernel
theorem dX11_ahead_69 : decode cX11_ahead 69 = .ok (.getfield 107, 3) := by decide +kernel
theorem dX11_ahead_72 : decode cX11_ahead 72 = .ok (.iload_n 2, 1) := by decide +kernel
theorem dX11_ahead_73 : decode cX11_ahead 73 = .ok (.invokevirtual 202, 3) := by decide +kernel
theorem dX11_ahead_76 : decode cX11_ahead 76 = .ok (.ireturn, 1) := by decide +kernel
theorem dX11_soonest_0 : decode cX11_soonest 0 = .ok (.aload_n 0, 1) := by decide +kernel
theorem dX11_soonest_1 : decode cX11_soonest 1 = .ok (.iload_n 1, 1) := by decide +kernel
theorem dX11_soonest_2 : decode cX11_soonest 2 = .ok (.iload_n 2, 1) := by decide +kernel
theorem dX11_soonest_3 : decode cX11_soonest 3 = .ok (.invokevirtual 205, 3) := by decide +kernel
theorem dX11_soonest_6 : decode cX11_soonest 6 = .ok (.ifCond .eq 17, 3) := by decide +kernel
theorem dX11_soonest_9 : decode cX11_soonest 9 = .ok (.aload_n 0, 1) := by decide +kernel
theorem dX11_soonest_10 : decode cX11_soonest 10 = .ok (.getfield 32, 3) := by decide +kernel
theorem dX11_soonest_13 : decode cX11_soonest 13 = .ok (.getfield 107, 3) := by decide +kernel
theorem dX11_soonest_16 : decode cX11_soonest 16 = .ok (.iload_n 3, 1) := by decide +kernel
theorem dX11_soonest_17 : decode cX11_soonest 17 = .ok (.invokevirtual 123, 3) := by decide +kernel
theorem dX11_soonest_20 : decode cX11_soonest 20 = .ok (.ifCond .ne 5, 3) := by decide +kernel
theorem dX11_soonest_23 : decode cX11_soonest 23 = .ok (.iconst (-1), 1) := by decide +kernel
theorem dX11_soonest_24 : decode cX11_soonest 24 = .ok (.ireturn, 1) := by decide +kernel
theorem dX11_soonest_25 : decode cX11_soonest 25 = .ok (.aload_n 0, 1) := by decide +kernel
theorem dX11_soonest_26 : decode cX11_soonest 26 = .ok (.getfield 50, 3) := by decide +kernel
theorem dX11_soonest_29 : decode cX11_soonest 29 = .ok (.aload_n 0, 1) := by decide +kernel
theorem dX11_soonest_30 : decode cX11_soonest 30 = .ok (.getfield 32, 3) := by decide +kernel
theorem dX11_soonest_33 : decode cX11_soonest 33 = .ok (.getfield 107, 3) := by decide +kernel
theorem dX11_soonest_36 : decode cX11_soonest 36 = .ok (.iload_n 1, 1) := by decide +kernel
theorem dX11_soonest_37 : decode cX11_soonest 37 = .ok (.iload_n 2, 1) := by decide +kernel
theorem dX11_soonest_38 : decode cX11_soonest 38 = .ok (.iload 4, 2) := by decide +kernel
theorem dX11_soonest_40 : decode cX11_soonest 40 = .ok (.invokevirtual 209, 3) := by decide +kernel
theorem dX11_soonest_43 : decode cX11_soonest 43 = .ok (.aload_n 0, 1) := by decide +kernel
theorem dX11_soonest_44 : decode cX11_soonest 44 = .ok (.getfield 50, 3) := by decide +kernel
theorem dX11_soonest_47 : decode cX11_soonest 47 = .ok (.iload_n 3, 1) := by decide +kernel
theorem dX11_soonest_48 : decode cX11_soonest 48 = .ok (.invokevirtual 212, 3) := by decide +kernel
theorem dX11_soonest_51 : decode cX11_soonest 51 = .ok (.invokestatic 216, 3) := by decide +kernel
theorem dX11_soonest_54 : decode cX11_soonest 54 = .ok (.ireturn, 1) := by decide +kernel
theorem dX11_still_0 : decode cX11_still 0 = .ok (.aload_n 0, 1) := by decide +kernel
theorem dX11_still_1 : decode cX11_still 1 = .ok (.iload_n 1, 1) := by decide +kernel
theorem dX11_still_2 : decode cX11_still 2 = .ok (.iload_n 2, 1) := by decide +kernel
theorem dX11_still_3 : decode cX11_still 3 = .ok (.invokevirtual 205, 3) := by decide +kernel
theorem dX11_still_6 : decode cX11_still 6 = .ok (.ifCond .ne 5, 3) := by decide +kernel
theorem dX11_still_9 : decode cX11_still 9 = .ok (.iconst (-1), 1) := by decide +kernel
theorem dX11_still_10 : decode cX11_still 10 = .ok (.ireturn, 1) := by decide +kernel
theorem dX11_still_11 : decode cX11_still 11 = .ok (.aload_n 0, 1) := by decide +kernel
theorem dX11_still_12 : decode cX11_still 12 = .ok (.getfield 50, 3) := by decide +kernel
theorem dX11_still_15 : decode cX11_still 15 = .ok (.aload_n 0, 1) := by decide +kernel
theorem dX11_still_16 : decode cX11_still 16 = .ok (.getfield 32, 3) := by decide +kernel
theorem dX11_still_19 : decode cX11_still 19 = .ok (.getfield 107, 3) := by decide +kernel
theorem dX11_still_22 : decode cX11_still 22 = .ok (.iload_n 1, 1) := by decide +kernel
theorem dX11_still_23 : decode cX11_still 23 = .ok (.iload_n 2, 1) := by decide +kernel
theorem dX11_still_24 : decode cX11_still 24 = .ok (.iload_n 3, 1) := by decide +kernel
theorem dX11_still_25 : decode cX11_still 25 = .ok (.invokevirtual 209, 3) := by decide +kernel
theorem dX11_still_28 : decode cX11_still 28 = .ok (.iconst 0, 1) := by decide +kernel
theorem dX11_still_29 : decode cX11_still 29 = .ok (.istore 4, 2) := by decide +kernel
theorem dX11_still_31 : decode cX11_still 31 = .ok (.iconst 0, 1) := by decide +kernel
theorem dX11_still_32 : decode cX11_still 32 = .ok (.istore 5, 2) := by decide +kernel
theorem dX11_still_34 : decode cX11_still 34 = .ok (.iload 5, 2) := by decide +kernel
theorem dX11_still_36 : decode cX11_still 36 = .ok (.aload_n 0, 1) := by decide +kernel
theorem dX11_still_37 : decode cX11_still 37 = .ok (.getfield 32, 3) := by decide +kernel
theorem dX11_still_40 : decode cX11_still 40 = .ok (.getfield 107, 3) := by decide +kernel
theorem dX11_still_43 : decode cX11_still 43 = .ok (.getfield 110, 3) := by decide +kernel
theorem dX11_still_46 : decode cX11_still 46 = .ok (.if_icmp .ge 33, 3) := by decide +kernel
theorem dX11_still_49 : decode cX11_still 49 = .ok (.aload_n 0, 1) := by decide +kernel
theorem dX11_still_50 : decode cX11_still 50 = .ok (.getfield 50, 3) := by decide +kernel
theorem dX11_still_53 : decode cX11_still 53 = .ok (.iload 5, 2) := by decide +kernel
theorem dX11_still_55 : decode cX11_still 55 = .ok (.invokevirtual 212, 3) := by decide +kernel
theorem dX11_still_58 : decode cX11_still 58 = .ok (.sipush 1439, 3) := by decide +kernel
theorem dX11_still_61 : decode cX11_still 61 = .ok (.if_icmp .gt 12, 3) := by decide +kernel
theorem dX11_still_64 : decode cX11_still 64 = .ok (.iload 4, 2) := by decide +kernel
theorem dX11_still_66 : decode cX11_still 66 = .ok (.iconst 1, 1) := by decide +kernel
theorem dX11_still_67 : decode cX11_still 67 = .ok (.iload 5, 2) := by decide +kernel
theorem dX11_still_69 : decode cX11_still 69 = .ok (.ishl, 1) := by decide +kernel
theorem dX11_still_70 : decode cX11_still 70 = .ok (.ior, 1) := by decide +kernel
theorem dX11_still_71 : decode cX11_still 71 = .ok (.istore 4, 2) := by decide +kernel
theorem dX11_still_73 : decode cX11_still 73 = .ok (.iinc 5 1, 3) := by decide +kernel
theorem dX11_still_76 : decode cX11_still 76 = .ok (.goto (-42), 3) := by decide +kernel
theorem dX11_still_79 : decode cX11_still 79 = .ok (.iload 4, 2) := by decide +kernel
theorem dX11_still_81 : decode cX11_still 81 = .ok (.ireturn, 1) := by decide +kernel
theorem dX11_downs_0 : decode cX11_downs 0 = .ok (.aload_n 0, 1) := by decide +kernel
theorem dX11_downs_1 : decode cX11_downs 1 = .ok (.getfield 32, 3) := by decide +kernel
theorem dX11_downs_4 : decode cX11_downs 4 = .ok (.getfield 107, 3) := by decide +kernel
theorem dX11_downs_7 : decode cX11_downs 7 = .ok (.astore 4, 2) := by decide +kernel
theorem dX11_downs_9 : decode cX11_downs 9 = .ok (.aload 4, 2) := by decide +kernel
theorem dX11_downs_11 : decode cX11_downs 11 = .ok (.iload_n 1, 1) := by decide +kernel
theorem dX11_downs_12 : decode cX11_downs 12 = .ok (.invokevirtual 123, 3) := by decide +kernel
theorem dX11_downs_15 : decode cX11_downs 15 = .ok (.ifCond .eq 21, 3) := by decide +kernel
theorem dX11_downs_18 : decode cX11_downs 18 = .ok (.aload 4, 2) := by decide +kernel
theorem dX11_downs_20 : decode cX11_downs 20 = .ok (.iload_n 2, 1) := by decide +kernel
theorem dX11_downs_21 : decode cX11_downs 21 = .ok (.invokevirtual 123, 3) := by decide +kernel
theorem dX11_downs_24 : decode cX11_downs 24 = .ok (.ifCond .eq 12, 3) := by decide +kernel
theorem dX11_downs_27 : decode cX11_downs 27 = .ok (.iload_n 3, 1) := by decide +kernel
theorem dX11_downs_28 : decode cX11_downs 28 = .ok (.ifCond .lt 8, 3) := by decide +kernel
theorem dX11_downs_31 : decode cX11_downs 31 = .ok (.iload_n 3, 1) := by decide +kernel
theorem dX11_downs_32 : decode cX11_downs 32 = .ok (.iconst 2, 1) := by decide +kernel
theorem dX11_downs_33 : decode cX11_downs 33 = .ok (.if_icmp .le 5, 3) := by decide +kernel
theorem dX11_downs_36 : decode cX11_downs 36 = .ok (.iconst (-1), 1) := by decide +kernel
theorem dX11_downs_37 : decode cX11_downs 37 = .ok (.ireturn, 1) := by decide +kernel
theorem dX11_downs_38 : decode cX11_downs 38 = .ok (.aload 4, 2) := by decide +kernel
theorem dX11_downs_40 : decode cX11_downs 40 = .ok (.iload_n 2, 1) := by decide +kernel
theorem dX11_downs_41 : decode cX11_downs 41 = .ok (.aload_n 0, 1) := by decide +kernel
theorem dX11_downs_42 : decode cX11_downs 42 = .ok (.getfield 68, 3) := by decide +kernel
theorem dX11_downs_45 : decode cX11_downs 45 = .ok (.aload_n 0, 1) := by decide +kernel
theorem dX11_downs_46 : decode cX11_downs 46 = .ok (.getfield 71, 3) := by decide +kernel
theorem dX11_downs_49 : decode cX11_downs 49 = .ok (.invokevirtual 219, 3) := by decide +kernel
theorem dX11_downs_52 : decode cX11_downs 52 = .ok (.iload_n 3, 1) := by decide +kernel
theorem dX11_downs_53 : decode cX11_downs 53 = .ok (.iconst 2, 1) := by decide +kernel
theorem dX11_downs_54 : decode cX11_downs 54 = .ok (.if_icmp .ne 14, 3) := by decide +kernel
theorem dX11_downs_57 : decode cX11_downs 57 = .ok (.aload 4, 2) := by decide +kernel
theorem dX11_downs_59 : decode cX11_downs 59 = .ok (.iload_n 1, 1) := by decide +kernel
theorem dX11_downs_60 : decode cX11_downs 60 = .ok (.aload_n 0, 1) := by decide +kernel
theorem dX11_downs_61 : decode cX11_downs 61 = .ok (.getfield 71, 3) := by decide +kernel
theorem dX11_downs_64 : decode cX11_downs 64 = .ok (.invokevirtual 223, 3) := by decide +kernel
theorem dX11_downs_67 : decode cX11_downs 67 = .ok (.ireturn, 1) := by decide +kernel
theorem dX11_downs_68 : decode cX11_downs 68 = .ok (.iload_n 3, 1) := by decide +kernel
theorem dX11_downs_69 : decode cX11_downs 69 = .ok (.ifCond .ne 12, 3) := by decide +kernel
theorem dX11_downs_72 : decode cX11_downs 72 = .ok (.aload_n 0, 1) := by decide +kernel
theorem dX11_downs_73 : decode cX11_downs 73 = .ok (.getfield 68, 3) := by decide +kernel
theorem dX11_downs_76 : decode cX11_downs 76 = .ok (.iload_n 1, 1) := by decide +kernel
theorem dX11_downs_77 : decode cX11_downs 77 = .ok (.iaload, 1) := by decide +kernel
theorem dX11_downs_78 : decode cX11_downs 78 = .ok (.goto 9, 3) := by decide +kernel
theorem dX11_downs_81 : decode cX11_downs 81 = .ok (.aload_n 0, 1) := by decide +kernel
theorem dX11_downs_82 : decode cX11_downs 82 = .ok (.getfield 71, 3) := by decide +kernel
theorem dX11_downs_85 : decode cX11_downs 85 = .ok (.iload_n 1, 1) := by decide +kernel
theorem dX11_downs_86 : decode cX11_downs 86 = .ok (.iaload, 1) := by decide +kernel
theorem dX11_downs_87 : decode cX11_downs 87 = .ok (.ireturn, 1) := by decide +kernel
theorem dX11_errand_0 : decode cX11_errand 0 = .ok (.aload_n 0, 1) := by decide +kernel
theorem dX11_errand_1 : decode cX11_errand 1 = .ok (.getfield 32, 3) := by decide +kernel
theorem dX11_errand_4 : decode cX11_errand 4 = .ok (.getfield 227, 3) := by decide +kernel
theorem dX11_errand_7 : decode cX11_errand 7 = .ok (.astore 5, 2) := by decide +kernel
theorem dX11_errand_9 : decode cX11_errand 9 = .ok (.aload 5, 2) := by decide +kernel
theorem dX11_errand_11 : decode cX11_errand 11 = .ok (.getfield 231, 3) := by decide +kernel
theorem dX11_errand_14 : decode cX11_errand 14 = .ok (.bipush 10, 2) := by decide +kernel
theorem dX11_errand_16 : decode cX11_errand 16 = .ok (.if_icmp .ge 19, 3) := by decide +kernel
theorem dX11_errand_19 : decode cX11_errand 19 = .ok (.aload_n 0, 1) := by decide +kernel
theorem dX11_errand_20 : decode cX11_errand 20 = .ok (.iload_n 1, 1) := by decide +kernel
theorem dX11_errand_21 : decode cX11_errand 21 = .ok (.iload_n 2, 1) := by decide +kernel
theorem dX11_errand_22 : decode cX11_errand 22 = .ok (.invokevirtual 205, 3) := by decide +kernel
theorem dX11_errand_25 : decode cX11_errand 25 = .ok (.ifCond .eq 10, 3) := by decide +kernel
theorem dX11_errand_28 : decode cX11_errand 28 = .ok (.iload_n 3, 1) := by decide +kernel
theorem dX11_errand_29 : decode cX11_errand 29 = .ok (.invokestatic 236, 3) := by decide +kernel
theorem dX11_errand_32 : decode cX11_errand 32 = .ok (.ifCond .ne 5, 3) := by decide +kernel
theorem dX11_errand_35 : decode cX11_errand 35 = .ok (.iconst (-1), 1) := by decide +kernel
theorem dX11_errand_36 : decode cX11_errand 36 = .ok (.ireturn, 1) := by decide +kernel
theorem dX11_errand_37 : decode cX11_errand 37 = .ok (.iload_n 3, 1) := by decide +kernel
theorem dX11_errand_38 : decode cX11_errand 38 = .ok (.iload_n 2, 1) := by decide +kernel
theorem dX11_errand_39 : decode cX11_errand 39 = .ok (.if_icmp .lt 15, 3) := by decide +kernel
theorem dX11_errand_42 : decode cX11_errand 42 = .ok (.iload 4, 2) := by decide +kernel
theorem dX11_errand_44 : decode cX11_errand 44 = .ok (.ifCond .lt 10, 3) := by decide +kernel
theorem dX11_errand_47 : decode cX11_errand 47 = .ok (.iload 4, 2) := by decide +kernel
theorem dX11_errand_49 : decode cX11_errand 49 = .ok (.bipush 99, 2) := by decide +kernel
theorem dX11_errand_51 : decode cX11_errand 51 = .ok (.if_icmp .le 5, 3) := by decide +kernel
theorem dX11_errand_54 : decode cX11_errand 54 = .ok (.iconst (-1), 1) := by decide +kernel
theorem dX11_errand_55 : decode cX11_errand 55 = .ok (.ireturn, 1) := by decide +kernel
theorem dX11_errand_56 : decode cX11_errand 56 = .ok (.aload 5, 2) := by decide +kernel
theorem dX11_errand_58 : decode cX11_errand 58 = .ok (.iload_n 1, 1) := by decide +kernel
theorem dX11_errand_59 : decode cX11_errand 59 = .ok (.iload_n 2, 1) := by decide +kernel
theorem dX11_errand_60 : decode cX11_errand 60 = .ok (.iload_n 3, 1) := by decide +kernel
theorem dX11_errand_61 : decode cX11_errand 61 = .ok (.iload 4, 2) := by decide +kernel
theorem dX11_errand_63 : decode cX11_errand 63 = .ok (.invokevirtual 239, 3) := by decide +kernel
theorem dX11_errand_66 : decode cX11_errand 66 = .ok (.ireturn, 1) := by decide +kernel
theorem dX11_best_0 : decode cX11_best 0 = .ok (.aload_n 0, 1) := by decide +kernel
theorem dX11_best_1 : decode cX11_best 1 = .ok (.iload_n 1, 1) := by decide +kernel
theorem dX11_best_2 : decode cX11_best 2 = .ok (.iload_n 2, 1) := by decide +kernel
theorem dX11_best_3 : decode cX11_best 3 = .ok (.invokevirtual 205, 3) := by decide +kernel
theorem dX11_best_6 : decode cX11_best 6 = .ok (.ifCond .eq 14, 3) := by decide +kernel
theorem dX11_best_9 : decode cX11_best 9 = .ok (.iload 4, 2) := by decide +kernel
theorem dX11_best_11 : decode cX11_best 11 = .ok (.ifCond .lt 9, 3) := by decide +kernel
theorem dX11_best_14 : decode cX11_best 14 = .ok (.iload 4, 2) := by decide +kernel
theorem dX11_best_16 : decode cX11_best 16 = .ok (.iconst 2, 1) := by decide +kernel
theorem dX11_best_17 : decode cX11_best 17 = .ok (.if_icmp .le 5, 3) := by decide +kernel
theorem dX11_best_20 : decode cX11_best 20 = .ok (.iconst (-1), 1) := by decide +kernel
theorem dX11_best_21 : decode cX11_best 21 = .ok (.ireturn, 1) := by decide +kernel
theorem dX11_best_22 : decode cX11_best 22 = .ok (.aload_n 0, 1) := by decide +kernel
theorem dX11_best_23 : decode cX11_best 23 = .ok (.getfield 243, 3) := by decide +kernel
theorem dX11_best_26 : decode cX11_best 26 = .ok (.ifnonnull 14, 3) := by decide +kernel
theorem dX11_best_29 : decode cX11_best 29 = .ok (.aload_n 0, 1) := by decide +kernel
theorem dX11_best_30 : decode cX11_best 30 = .ok (.new 247, 3) := by decide +kernel
theorem dX11_best_33 : decode cX11_best 33 = .ok (.dup, 1) := by decide +kernel
theorem dX11_best_34 : decode cX11_best 34 = .ok (.invokespecial 249, 3) := by decide +kernel
theorem dX11_best_37 : decode cX11_best 37 = .ok (.putfield 243, 3) := by decide +kernel
theorem dX11_best_40 : decode cX11_best 40 = .ok (.aload_n 0, 1) := by decide +kernel
theorem dX11_best_41 : decode cX11_best 41 = .ok (.getfield 243, 3) := by decide +kernel
theorem dX11_best_44 : decode cX11_best 44 = .ok (.aload_n 0, 1) := by decide +kernel
theorem dX11_best_45 : decode cX11_best 45 = .ok (.getfield 32, 3) := by decide +kernel
theorem dX11_best_48 : decode cX11_best 48 = .ok (.iload_n 1, 1) := by decide +kernel
theorem dX11_best_49 : decode cX11_best 49 = .ok (.iload_n 2, 1) := by decide +kernel
theorem dX11_best_50 : decode cX11_best 50 = .ok (.iload_n 3, 1) := by decide +kernel
theorem dX11_best_51 : decode cX11_best 51 = .ok (.invokevirtual 250, 3) := by decide +kernel
theorem dX11_best_54 : decode cX11_best 54 = .ok (.iload 4, 2) := by decide +kernel
theorem dX11_best_56 : decode cX11_best 56 = .ok (.ifCond .ne 11, 3) := by decide +kernel
theorem dX11_best_59 : decode cX11_best 59 = .ok (.aload_n 0, 1) := by decide +kernel
theorem dX11_best_60 : decode cX11_best 60 = .ok (.getfield 243, 3) := by decide +kernel
theorem dX11_best_63 : decode cX11_best 63 = .ok (.getfield 254, 3) := by decide +kernel
theorem dX11_best_66 : decode cX11_best 66 = .ok (.ireturn, 1) := by decide +kernel
theorem dX11_best_67 : decode cX11_best 67 = .ok (.iload 4, 2) := by decide +kernel
theorem dX11_best_69 : decode cX11_best 69 = .ok (.iconst 1, 1) := by decide +kernel
theorem dX11_best_70 : decode cX11_best 70 = .ok (.if_icmp .ne 13, 3) := by decide +kernel
theorem dX11_best_73 : decode cX11_best 73 = .ok (.aload_n 0, 1) := by decide +kernel
theorem dX11_best_74 : decode cX11_best 74 = .ok (.getfield 243, 3) := by decide +kernel
theorem dX11_best_77 : decode cX11_best 77 = .ok (.getfield 257, 3) := by decide +kernel
theorem dX11_best_80 : decode cX11_best 80 = .ok (.goto 10, 3) := by decide +kernel
theorem dX11_best_83 : decode cX11_best 83 = .ok (.aload_n 0, 1) := by decide +kernel
theorem dX11_best_84 : decode cX11_best 84 = .ok (.getfield 243, 3) := by decide +kernel
theorem dX11_best_87 : decode cX11_best 87 = .ok (.getfield 260, 3) := by decide +kernel
theorem dX11_best_90 : decode cX11_best 90 = .ok (.ireturn, 1) := by decide +kernel
theorem dX11_meeting_0 : decode cX11_meeting 0 = .ok (.aload_n 0, 1) := by decide +kernel
theorem dX11_meeting_1 : decode cX11_meeting 1 = .ok (.iload_n 1, 1) := by decide +kernel
theorem dX11_meeting_2 : decode cX11_meeting 2 = .ok (.iload_n 2, 1) := by decide +kernel
theorem dX11_meeting_3 : decode cX11_meeting 3 = .ok (.invokevirtual 205, 3) := by decide +kernel
theorem dX11_meeting_6 : decode cX11_meeting 6 = .ok (.ifCond .eq 24, 3) := by decide +kernel
theorem dX11_meeting_9 : decode cX11_meeting 9 = .ok (.aload_n 0, 1) := by decide +kernel
theorem dX11_meeting_10 : decode cX11_meeting 10 = .ok (.iload_n 3, 1) := by decide +kernel
theorem dX11_meeting_11 : decode cX11_meeting 11 = .ok (.iload 4, 2) := by decide +kernel
theorem dX11_meeting_13 : decode cX11_meeting 13 = .ok (.invokevirtual 205, 3) := by decide +kernel
theorem dX11_meeting_16 : decode cX11_meeting 16 = .ok (.ifCond .eq 14, 3) := by decide +kernel
theorem dX11_meeting_19 : decode cX11_meeting 19 = .ok (.iload 6, 2) := by decide +kernel
theorem dX11_meeting_21 : decode cX11_meeting 21 = .ok (.ifCond .lt 9, 3) := by decide +kernel
theorem dX11_meeting_24 : decode cX11_meeting 24 = .ok (.iload 6, 2) := by decide +kernel
theorem dX11_meeting_26 : decode cX11_meeting 26 = .ok (.iconst 2, 1) := by decide +kernel
theorem dX11_meeting_27 : decode cX11_meeting 27 = .ok (.if_icmp .le 5, 3) := by decide +kernel
theorem dX11_meeting_30 : decode cX11_meeting 30 = .ok (.iconst (-1), 1) := by decide +kernel
theorem dX11_meeting_31 : decode cX11_meeting 31 = .ok (.ireturn, 1) := by decide +kernel
theorem dX11_meeting_32 : decode cX11_meeting 32 = .ok (.aload_n 0, 1) := by decide +kernel
theorem dX11_meeting_33 : decode cX11_meeting 33 = .ok (.getfield 50, 3) := by decide +kernel
theorem dX11_meeting_36 : decode cX11_meeting 36 = .ok (.aload_n 0, 1) := by decide +kernel
theorem dX11_meeting_37 : decode cX11_meeting 37 = .ok (.getfield 32, 3) := by decide +kernel
theorem dX11_meeting_40 : decode cX11_meeting 40 = .ok (.getfield 107, 3) := by decide +kernel
theorem dX11_meeting_43 : decode cX11_meeting 43 = .ok (.iload_n 1, 1) := by decide +kernel
theorem dX11_meeting_44 : decode cX11_meeting 44 = .ok (.iload_n 2, 1) := by decide +kernel
theorem dX11_meeting_45 : decode cX11_meeting 45 = .ok (.iload 5, 2) := by decide +kernel
theorem dX11_meeting_47 : decode cX11_meeting 47 = .ok (.invokevirtual 209, 3) := by decide +kernel
theorem dX11_meeting_50 : decode cX11_meeting 50 = .ok (.aload_n 0, 1) := by decide +kernel
theorem dX11_meeting_51 : decode cX11_meeting 51 = .ok (.getfield 54, 3) := by decide +kernel
theorem dX11_meeting_54 : decode cX11_meeting 54 = .ok (.aload_n 0, 1) := by decide +kernel
theorem dX11_meeting_55 : decode cX11_meeting 55 = .ok (.getfield 32, 3) := by decide +kernel
theorem dX11_meeting_58 : decode cX11_meeting 58 = .ok (.getfield 107, 3) := by decide +kernel
theorem dX11_meeting_61 : decode cX11_meeting 61 = .ok (.iload_n 3, 1) := by decide +kernel
theorem dX11_meeting_62 : decode cX11_meeting 62 = .ok (.iload 4, 2) := by decide +kernel
theorem dX11_meeting_64 : decode cX11_meeting 64 = .ok (.iload 5, 2) := by decide +kernel
theorem dX11_meeting_66 : decode cX11_meeting 66 = .ok (.invokevirtual 209, 3) := by decide +kernel
theorem dX11_meeting_69 : decode cX11_meeting 69 = .ok (.ldc_w 263, 3) := by decide +kernel
theorem dX11_meeting_72 : decode cX11_meeting 72 = .ok (.istore 7, 2) := by decide +kernel
theorem dX11_meeting_74 : decode cX11_meeting 74 = .ok (.bipush (-2), 2) := by decide +kernel
theorem dX11_meeting_76 : decode cX11_meeting 76 = .ok (.istore 8, 2) := by decide +kernel
theorem dX11_meeting_78 : decode cX11_meeting 78 = .ok (.iconst 0, 1) := by decide +kernel
theorem dX11_meeting_79 : decode cX11_meeting 79 = .ok (.istore 9, 2) := by decide +kernel
theorem dX11_meeting_81 : decode cX11_meeting 81 = .ok (.iconst 0, 1) := by decide +kernel
theorem dX11_meeting_82 : decode cX11_meeting 82 = .ok (.istore 10, 2) := by decide +kernel
theorem dX11_meeting_84 : decode cX11_meeting 84 = .ok (.iload 10, 2) := by decide +kernel
theorem dX11_meeting_86 : decode cX11_meeting 86 = .ok (.aload_n 0, 1) := by decide +kernel
theorem dX11_meeting_87 : decode cX11_meeting 87 = .ok (.getfield 32, 3) := by decide +kernel
theorem dX11_meeting_90 : decode cX11_meeting 90 = .ok (.getfield 107, 3) := by decide +kernel
theorem dX11_meeting_93 : decode cX11_meeting 93 = .ok (.getfield 110, 3) := by decide +kernel
theorem dX11_meeting_96 : decode cX11_meeting 96 = .ok (.if_icmp .ge 66, 3) := by decide +kernel
theorem dX11_meeting_99 : decode cX11_meeting 99 = .ok (.aload_n 0, 1) := by decide +kernel
theorem dX11_meeting_100 : decode cX11_meeting 100 = .ok (.getfield 50, 3) := by decide +kernel
theorem dX11_meeting_103 : decode cX11_meeting 103 = .ok (.iload 10, 2) := by decide +kernel
theorem dX11_meeting_105 : decode cX11_meeting 105 = .ok (.invokevirtual 212, 3) := by decide +kernel
theorem dX11_meeting_108 : decode cX11_meeting 108 = .ok (.aload_n 0, 1) := by decide +kernel
theorem dX11_meeting_109 : decode cX11_meeting 109 = .ok (.getfield 54, 3) := by decide +kernel
theorem dX11_meeting_112 : decode cX11_meeting 112 = .ok (.iload 10, 2) := by decide +kernel
theorem dX11_meeting_114 : decode cX11_meeting 114 = .ok (.invokevirtual 212, 3) := by decide +kernel
theorem dX11_meeting_117 : decode cX11_meeting 117 = .ok (.invokestatic 264, 3) := by decide +kernel
theorem dX11_meeting_120 : decode cX11_meeting 120 = .ok (.istore 11, 2) := by decide +kernel
theorem dX11_meeting_122 : decode cX11_meeting 122 = .ok (.iload 11, 2) := by decide +kernel
theorem dX11_meeting_124 : decode cX11_meeting 124 = .ok (.sipush 1439, 3) := by decide +kernel
theorem dX11_meeting_127 : decode cX11_meeting 127 = .ok (.if_icmp .gt 6, 3) := by decide +kernel
theorem dX11_meeting_130 : decode cX11_meeting 130 = .ok (.iinc 9 1, 3) := by decide +kernel
theorem dX11_meeting_133 : decode cX11_meeting 133 = .ok (.iload 11, 2) := by decide +kernel
theorem dX11_meeting_135 : decode cX11_meeting 135 = .ok (.sipush 1439, 3) := by decide +kernel
theorem dX11_meeting_138 : decode cX11_meeting 138 = .ok (.if_icmp .gt 18, 3) := by decide +kernel
theorem dX11_meeting_141 : decode cX11_meeting 141 = .ok (.iload 11, 2) := by decide +kernel
theorem dX11_meeting_143 : decode cX11_meeting 143 = .ok (.iload 7, 2) := by decide +kernel
theorem dX11_meeting_145 : decode cX11_meeting 145 = .ok (.if_icmp .ge 11, 3) := by decide +kernel
theorem dX11_meeting_148 : decode cX11_meeting 148 = .ok (.iload 11, 2) := by decide +kernel
theorem dX11_meeting_150 : decode cX11_meeting 150 = .ok (.istore 7, 2) := by decide +kernel
theorem dX11_meeting_152 : decode cX11_meeting 152 = .ok (.iload 10, 2) := by decide +kernel
theorem dX11_meeting_154 : decode cX11_meeting 154 = .ok (.istore 8, 2) := by decide +kernel
theorem dX11_meeting_156 : decode cX11_meeting 156 = .ok (.iinc 10 1, 3) := by decide +kernel
theorem dX11_meeting_159 : decode cX11_meeting 159 = .ok (.goto (-75), 3) := by decide +kernel
theorem dX11_meeting_162 : decode cX11_meeting 162 = .ok (.iload 6, 2) := by decide +kernel
theorem dX11_meeting_164 : decode cX11_meeting 164 = .ok (.ifCond .ne 9, 3) := by decide +kernel
theorem dX11_meeting_167 : decode cX11_meeting 167 = .ok (.iload 7, 2) := by decide +kernel
theorem dX11_meeting_169 : decode cX11_meeting 169 = .ok (.invokestatic 216, 3) := by decide +kernel
theorem dX11_meeting_172 : decode cX11_meeting 172 = .ok (.ireturn, 1) := by decide +kernel
theorem dX11_meeting_173 : decode cX11_meeting 173 = .ok (.iload 6, 2) := by decide +kernel
theorem dX11_meeting_175 : decode cX11_meeting 175 = .ok (.iconst 1, 1) := by decide +kernel
theorem dX11_meeting_176 : decode cX11_meeting 176 = .ok (.if_icmp .ne 8, 3) := by decide +kernel
theorem dX11_meeting_179 : decode cX11_meeting 179 = .ok (.iload 8, 2) := by decide +kernel
theorem dX11_meeting_181 : decode cX11_meeting 181 = .ok (.goto 5, 3) := by decide +kernel
theorem dX11_meeting_184 : decode cX11_meeting 184 = .ok (.iload 9, 2) := by decide +kernel
theorem dX11_meeting_186 : decode cX11_meeting 186 = .ok (.ireturn, 1) := by decide +kernel
theorem dX11_trip_0 : decode cX11_trip 0 = .ok (.aload_n 0, 1) := by decide +kernel
theorem dX11_trip_1 : decode cX11_trip 1 = .ok (.getfield 32, 3) := by decide +kernel
theorem dX11_trip_4 : decode cX11_trip 4 = .ok (.getfield 227, 3) := by decide +kernel
theorem dX11_trip_7 : decode cX11_trip 7 = .ok (.astore 4, 2) := by decide +kernel
theorem dX11_trip_9 : decode cX11_trip 9 = .ok (.iload_n 1, 1) := by decide +kernel
theorem dX11_trip_10 : decode cX11_trip 10 = .ok (.iconst (-1), 1) := by decide +kernel
theorem dX11_trip_11 : decode cX11_trip 11 = .ok (.if_icmp .ne 11, 3) := by decide +kernel
theorem dX11_trip_14 : decode cX11_trip 14 = .ok (.aload 4, 2) := by decide +kernel
theorem dX11_trip_16 : decode cX11_trip 16 = .ok (.iconst 0, 1) := by decide +kernel
theorem dX11_trip_17 : decode cX11_trip 17 = .ok (.putfield 270, 3) := by decide +kernel
theorem dX11_trip_20 : decode cX11_trip 20 = .ok (.iconst 0, 1) := by decide +kernel
theorem dX11_trip_21 : decode cX11_trip 21 = .ok (.ireturn, 1) := by decide +kernel
theorem dX11_trip_22 : decode cX11_trip 22 = .ok (.aload 4, 2) := by decide +kernel
theorem dX11_trip_24 : decode cX11_trip 24 = .ok (.getfield 270, 3) := by decide +kernel
theorem dX11_trip_27 : decode cX11_trip 27 = .ok (.bipush 12, 2) := by decide +kernel
theorem dX11_trip_29 : decode cX11_trip 29 = .ok (.if_icmp .ge 26, 3) := by decide +kernel
theorem dX11_trip_32 : decode cX11_trip 32 = .ok (.aload_n 0, 1) := by decide +kernel
theorem dX11_trip_33 : decode cX11_trip 33 = .ok (.iload_n 1, 1) := by decide +kernel
theorem dX11_trip_34 : decode cX11_trip 34 = .ok (.iload_n 2, 1) := by decide +kernel
theorem dX11_trip_35 : decode cX11_trip 35 = .ok (.invokevirtual 205, 3) := by decide +kernel
theorem dX11_trip_38 : decode cX11_trip 38 = .ok (.ifCond .eq 17, 3) := by decide +kernel
theorem dX11_trip_41 : decode cX11_trip 41 = .ok (.aload_n 0, 1) := by decide +kernel
theorem dX11_trip_42 : decode cX11_trip 42 = .ok (.getfield 32, 3) := by decide +kernel
