theorem dX0_init_0 : decode cX0_init 0 = .ok (.aload_n 0, 1) := by decide +kernel
theorem dX0_init_1 : decode cX0_init 1 = .ok (.invokespecial 3, 3) := by decide +kernel
theorem dX0_init_4 : decode cX0_init 4 = .ok (.aload_n 0, 1) := by decide +kernel
theorem dX0_init_5 : decode cX0_init 5 = .ok (.bipush 8, 2) := by decide +kernel
theorem dX0_init_7 : decode cX0_init 7 = .ok (.newarray .int, 2) := by decide +kernel
theorem dX0_init_9 : decode cX0_init 9 = .ok (.putfield 9, 3) := by decide +kernel
theorem dX0_init_12 : decode cX0_init 12 = .ok (.aload_n 0, 1) := by decide +kernel
theorem dX0_init_13 : decode cX0_init 13 = .ok (.bipush 8, 2) := by decide +kernel
theorem dX0_init_15 : decode cX0_init 15 = .ok (.newarray .int, 2) := by decide +kernel
theorem dX0_init_17 : decode cX0_init 17 = .ok (.putfield 15, 3) := by decide +kernel
theorem dX0_init_20 : decode cX0_init 20 = .ok (.aload_n 0, 1) := by decide +kernel
theorem dX0_init_21 : decode cX0_init 21 = .ok (.bipush 8, 2) := by decide +kernel
theorem dX0_init_23 : decode cX0_init 23 = .ok (.newarray .int, 2) := by decide +kernel
theorem dX0_init_25 : decode cX0_init 25 = .ok (.putfield 18, 3) := by decide +kernel
theorem dX0_init_28 : decode cX0_init 28 = .ok (.aload_n 0, 1) := by decide +kernel
theorem dX0_init_29 : decode cX0_init 29 = .ok (.bipush 8, 2) := by decide +kernel
theorem dX0_init_31 : decode cX0_init 31 = .ok (.newarray .int, 2) := by decide +kernel
theorem dX0_init_33 : decode cX0_init 33 = .ok (.putfield 21, 3) := by decide +kernel
theorem dX0_init_36 : decode cX0_init 36 = .ok (.return_, 1) := by decide +kernel
theorem dX0_copyFrom_0 : decode cX0_copyFrom 0 = .ok (.aload_n 0, 1) := by decide +kernel
theorem dX0_copyFrom_1 : decode cX0_copyFrom 1 = .ok (.aload_n 1, 1) := by decide +kernel
theorem dX0_copyFrom_2 : decode cX0_copyFrom 2 = .ok (.getfield 24, 3) := by decide +kernel
theorem dX0_copyFrom_5 : decode cX0_copyFrom 5 = .ok (.putfield 24, 3) := by decide +kernel
theorem dX0_copyFrom_8 : decode cX0_copyFrom 8 = .ok (.aload_n 0, 1) := by decide +kernel
theorem dX0_copyFrom_9 : decode cX0_copyFrom 9 = .ok (.aload_n 1, 1) := by decide +kernel
theorem dX0_copyFrom_10 : decode cX0_copyFrom 10 = .ok (.getfield 28, 3) := by decide +kernel
theorem dX0_copyFrom_13 : decode cX0_copyFrom 13 = .ok (.putfield 28, 3) := by decide +kernel
theorem dX0_copyFrom_16 : decode cX0_copyFrom 16 = .ok (.aload_n 1, 1) := by decide +kernel
theorem dX0_copyFrom_17 : decode cX0_copyFrom 17 = .ok (.getfield 9, 3) := by decide +kernel
theorem dX0_copyFrom_20 : decode cX0_copyFrom 20 = .ok (.aload_n 0, 1) := by decide +kernel
theorem dX0_copyFrom_21 : decode cX0_copyFrom 21 = .ok (.getfield 9, 3) := by decide +kernel
theorem dX0_copyFrom_24 : decode cX0_copyFrom 24 = .ok (.invokestatic 31, 3) := by decide +kernel
theorem dX0_copyFrom_27 : decode cX0_copyFrom 27 = .ok (.aload_n 1, 1) := by decide +kernel
theorem dX0_copyFrom_28 : decode cX0_copyFrom 28 = .ok (.getfield 15, 3) := by decide +kernel
theorem dX0_copyFrom_31 : decode cX0_copyFrom 31 = .ok (.aload_n 0, 1) := by decide +kernel
theorem dX0_copyFrom_32 : decode cX0_copyFrom 32 = .ok (.getfield 15, 3) := by decide +kernel
theorem dX0_copyFrom_35 : decode cX0_copyFrom 35 = .ok (.invokestatic 31, 3) := by decide +kernel
theorem dX0_copyFrom_38 : decode cX0_copyFrom 38 = .ok (.aload_n 1, 1) := by decide +kernel
theorem dX0_copyFrom_39 : decode cX0_copyFrom 39 = .ok (.getfield 18, 3) := by decide +kernel
theorem dX0_copyFrom_42 : decode cX0_copyFrom 42 = .ok (.aload_n 0, 1) := by decide +kernel
theorem dX0_copyFrom_43 : decode cX0_copyFrom 43 = .ok (.getfield 18, 3) := by decide +kernel
theorem dX0_copyFrom_46 : decode cX0_copyFrom 46 = .ok (.invokestatic 31, 3) := by decide +kernel
theorem dX0_copyFrom_49 : decode cX0_copyFrom 49 = .ok (.aload_n 1, 1) := by decide +kernel
theorem dX0_copyFrom_50 : decode cX0_copyFrom 50 = .ok (.getfield 21, 3) := by decide +kernel
theorem dX0_copyFrom_53 : decode cX0_copyFrom 53 = .ok (.aload_n 0, 1) := by decide +kernel
theorem dX0_copyFrom_54 : decode cX0_copyFrom 54 = .ok (.getfield 21, 3) := by decide +kernel
theorem dX0_copyFrom_57 : decode cX0_copyFrom 57 = .ok (.invokestatic 31, 3) := by decide +kernel
theorem dX0_copyFrom_60 : decode cX0_copyFrom 60 = .ok (.return_, 1) := by decide +kernel
theorem dX0_begin_0 : decode cX0_begin 0 = .ok (.aload_n 0, 1) := by decide +kernel
theorem dX0_begin_1 : decode cX0_begin 1 = .ok (.iconst 0, 1) := by decide +kernel
theorem dX0_begin_2 : decode cX0_begin 2 = .ok (.putfield 24, 3) := by decide +kernel
theorem dX0_begin_5 : decode cX0_begin 5 = .ok (.aload_n 0, 1) := by decide +kernel
theorem dX0_begin_6 : decode cX0_begin 6 = .ok (.iconst 0, 1) := by decide +kernel
theorem dX0_begin_7 : decode cX0_begin 7 = .ok (.putfield 28, 3) := by decide +kernel
theorem dX0_begin_10 : decode cX0_begin 10 = .ok (.aload_n 1, 1) := by decide +kernel
theorem dX0_begin_11 : decode cX0_begin 11 = .ok (.getfield 35, 3) := by decide +kernel
theorem dX0_begin_14 : decode cX0_begin 14 = .ok (.aload_n 0, 1) := by decide +kernel
theorem dX0_begin_15 : decode cX0_begin 15 = .ok (.getfield 9, 3) := by decide +kernel
theorem dX0_begin_18 : decode cX0_begin 18 = .ok (.invokestatic 31, 3) := by decide +kernel
theorem dX0_begin_21 : decode cX0_begin 21 = .ok (.aload_n 0, 1) := by decide +kernel
theorem dX0_begin_22 : decode cX0_begin 22 = .ok (.getfield 15, 3) := by decide +kernel
theorem dX0_begin_25 : decode cX0_begin 25 = .ok (.iconst 0, 1) := by decide +kernel
theorem dX0_begin_26 : decode cX0_begin 26 = .ok (.invokestatic 40, 3) := by decide +kernel
theorem dX0_begin_29 : decode cX0_begin 29 = .ok (.aload_n 0, 1) := by decide +kernel
theorem dX0_begin_30 : decode cX0_begin 30 = .ok (.getfield 18, 3) := by decide +kernel
theorem dX0_begin_33 : decode cX0_begin 33 = .ok (.iconst (-1), 1) := by decide +kernel
theorem dX0_begin_34 : decode cX0_begin 34 = .ok (.invokestatic 40, 3) := by decide +kernel
theorem dX0_begin_37 : decode cX0_begin 37 = .ok (.aload_n 0, 1) := by decide +kernel
theorem dX0_begin_38 : decode cX0_begin 38 = .ok (.getfield 21, 3) := by decide +kernel
theorem dX0_begin_41 : decode cX0_begin 41 = .ok (.iconst (-1), 1) := by decide +kernel
theorem dX0_begin_42 : decode cX0_begin 42 = .ok (.invokestatic 40, 3) := by decide +kernel
theorem dX0_begin_45 : decode cX0_begin 45 = .ok (.return_, 1) := by decide +kernel
theorem dX0_beginDrawn_0 : decode cX0_beginDrawn 0 = .ok (.aload_n 0, 1) := by decide +kernel
theorem dX0_beginDrawn_1 : decode cX0_beginDrawn 1 = .ok (.aload_n 1, 1) := by decide +kernel
theorem dX0_beginDrawn_2 : decode cX0_beginDrawn 2 = .ok (.invokevirtual 46, 3) := by decide +kernel
theorem dX0_beginDrawn_5 : decode cX0_beginDrawn 5 = .ok (.iload_n 2, 1) := by decide +kernel
theorem dX0_beginDrawn_6 : decode cX0_beginDrawn 6 = .ok (.i2l, 1) := by decide +kernel
theorem dX0_beginDrawn_7 : decode cX0_beginDrawn 7 = .ok (.lstore_n 3, 1) := by decide +kernel
theorem dX0_beginDrawn_8 : decode cX0_beginDrawn 8 = .ok (.iconst 0, 1) := by decide +kernel
theorem dX0_beginDrawn_9 : decode cX0_beginDrawn 9 = .ok (.istore 5, 2) := by decide +kernel
theorem dX0_beginDrawn_11 : decode cX0_beginDrawn 11 = .ok (.iload 5, 2) := by decide +kernel
theorem dX0_beginDrawn_13 : decode cX0_beginDrawn 13 = .ok (.aload_n 1, 1) := by decide +kernel
theorem dX0_beginDrawn_14 : decode cX0_beginDrawn 14 = .ok (.getfield 50, 3) := by decide +kernel
theorem dX0_beginDrawn_17 : decode cX0_beginDrawn 17 = .ok (.if_icmp .ge 59, 3) := by decide +kernel
theorem dX0_beginDrawn_20 : decode cX0_beginDrawn 20 = .ok (.iload 5, 2) := by decide +kernel
theorem dX0_beginDrawn_22 : decode cX0_beginDrawn 22 = .ok (.bipush 8, 2) := by decide +kernel
theorem dX0_beginDrawn_24 : decode cX0_beginDrawn 24 = .ok (.if_icmp .ge 52, 3) := by decide +kernel
theorem dX0_beginDrawn_27 : decode cX0_beginDrawn 27 = .ok (.lload_n 3, 1) := by decide +kernel
theorem dX0_beginDrawn_28 : decode cX0_beginDrawn 28 = .ok (.ldc2_w 53, 3) := by decide +kernel
theorem dX0_beginDrawn_31 : decode cX0_beginDrawn 31 = .ok (.lmul, 1) := by decide +kernel
theorem dX0_beginDrawn_32 : decode cX0_beginDrawn 32 = .ok (.ldc2_w 55, 3) := by decide +kernel
theorem dX0_beginDrawn_35 : decode cX0_beginDrawn 35 = .ok (.ladd, 1) := by decide +kernel
theorem dX0_beginDrawn_36 : decode cX0_beginDrawn 36 = .ok (.ldc2_w 57, 3) := by decide +kernel
theorem dX0_beginDrawn_39 : decode cX0_beginDrawn 39 = .ok (.lrem, 1) := by decide +kernel
theorem dX0_beginDrawn_40 : decode cX0_beginDrawn 40 = .ok (.lstore_n 3, 1) := by decide +kernel
theorem dX0_beginDrawn_41 : decode cX0_beginDrawn 41 = .ok (.aload_n 0, 1) := by decide +kernel
theorem dX0_beginDrawn_42 : decode cX0_beginDrawn 42 = .ok (.getfield 9, 3) := by decide +kernel
theorem dX0_beginDrawn_45 : decode cX0_beginDrawn 45 = .ok (.iload 5, 2) := by decide +kernel
theorem dX0_beginDrawn_47 : decode cX0_beginDrawn 47 = .ok (.aload_n 1, 1) := by decide +kernel
theorem dX0_beginDrawn_48 : decode cX0_beginDrawn 48 = .ok (.getfield 59, 3) := by decide +kernel
theorem dX0_beginDrawn_51 : decode cX0_beginDrawn 51 = .ok (.ifCond .le 17, 3) := by decide +kernel
theorem dX0_beginDrawn_54 : decode cX0_beginDrawn 54 = .ok (.lload_n 3, 1) := by decide +kernel
theorem dX0_beginDrawn_55 : decode cX0_beginDrawn 55 = .ok (.ldc2_w 62, 3) := by decide +kernel
theorem dX0_beginDrawn_58 : decode cX0_beginDrawn 58 = .ok (.ldiv, 1) := by decide +kernel
theorem dX0_beginDrawn_59 : decode cX0_beginDrawn 59 = .ok (.l2i, 1) := by decide +kernel
theorem dX0_beginDrawn_60 : decode cX0_beginDrawn 60 = .ok (.aload_n 1, 1) := by decide +kernel
theorem dX0_beginDrawn_61 : decode cX0_beginDrawn 61 = .ok (.getfield 59, 3) := by decide +kernel
theorem dX0_beginDrawn_64 : decode cX0_beginDrawn 64 = .ok (.irem, 1) := by decide +kernel
theorem dX0_beginDrawn_65 : decode cX0_beginDrawn 65 = .ok (.goto 4, 3) := by decide +kernel
theorem dX0_beginDrawn_68 : decode cX0_beginDrawn 68 = .ok (.iconst (-1), 1) := by decide +kernel
theorem dX0_beginDrawn_69 : decode cX0_beginDrawn 69 = .ok (.iastore, 1) := by decide +kernel
theorem dX0_beginDrawn_70 : decode cX0_beginDrawn 70 = .ok (.iinc 5 1, 3) := by decide +kernel
theorem dX0_beginDrawn_73 : decode cX0_beginDrawn 73 = .ok (.goto (-62), 3) := by decide +kernel
theorem dX0_beginDrawn_76 : decode cX0_beginDrawn 76 = .ok (.lload_n 3, 1) := by decide +kernel
theorem dX0_beginDrawn_77 : decode cX0_beginDrawn 77 = .ok (.l2i, 1) := by decide +kernel
theorem dX0_beginDrawn_78 : decode cX0_beginDrawn 78 = .ok (.ireturn, 1) := by decide +kernel
theorem dX0_peopleIn_0 : decode cX0_peopleIn 0 = .ok (.iconst 0, 1) := by decide +kernel
theorem dX0_peopleIn_1 : decode cX0_peopleIn 1 = .ok (.istore_n 3, 1) := by decide +kernel
theorem dX0_peopleIn_2 : decode cX0_peopleIn 2 = .ok (.iconst 0, 1) := by decide +kernel
theorem dX0_peopleIn_3 : decode cX0_peopleIn 3 = .ok (.istore 4, 2) := by decide +kernel
theorem dX0_peopleIn_5 : decode cX0_peopleIn 5 = .ok (.iload 4, 2) := by decide +kernel
theorem dX0_peopleIn_7 : decode cX0_peopleIn 7 = .ok (.aload_n 1, 1) := by decide +kernel
theorem dX0_peopleIn_8 : decode cX0_peopleIn 8 = .ok (.getfield 50, 3) := by decide +kernel
theorem dX0_peopleIn_11 : decode cX0_peopleIn 11 = .ok (.if_icmp .ge 34, 3) := by decide +kernel
theorem dX0_peopleIn_14 : decode cX0_peopleIn 14 = .ok (.iload 4, 2) := by decide +kernel
theorem dX0_peopleIn_16 : decode cX0_peopleIn 16 = .ok (.bipush 8, 2) := by decide +kernel
theorem dX0_peopleIn_18 : decode cX0_peopleIn 18 = .ok (.if_icmp .ge 27, 3) := by decide +kernel
theorem dX0_peopleIn_21 : decode cX0_peopleIn 21 = .ok (.aload_n 0, 1) := by decide +kernel
theorem dX0_peopleIn_22 : decode cX0_peopleIn 22 = .ok (.getfield 9, 3) := by decide +kernel
theorem dX0_peopleIn_25 : decode cX0_peopleIn 25 = .ok (.iload 4, 2) := by decide +kernel
theorem dX0_peopleIn_27 : decode cX0_peopleIn 27 = .ok (.iaload, 1) := by decide +kernel
theorem dX0_peopleIn_28 : decode cX0_peopleIn 28 = .ok (.iload_n 2, 1) := by decide +kernel
theorem dX0_peopleIn_29 : decode cX0_peopleIn 29 = .ok (.if_icmp .ne 10, 3) := by decide +kernel
theorem dX0_peopleIn_32 : decode cX0_peopleIn 32 = .ok (.iload_n 3, 1) := by decide +kernel
theorem dX0_peopleIn_33 : decode cX0_peopleIn 33 = .ok (.iconst 1, 1) := by decide +kernel
theorem dX0_peopleIn_34 : decode cX0_peopleIn 34 = .ok (.iload 4, 2) := by decide +kernel
theorem dX0_peopleIn_36 : decode cX0_peopleIn 36 = .ok (.ishl, 1) := by decide +kernel
theorem dX0_peopleIn_37 : decode cX0_peopleIn 37 = .ok (.ior, 1) := by decide +kernel
theorem dX0_peopleIn_38 : decode cX0_peopleIn 38 = .ok (.istore_n 3, 1) := by decide +kernel
theorem dX0_peopleIn_39 : decode cX0_peopleIn 39 = .ok (.iinc 4 1, 3) := by decide +kernel
theorem dX0_peopleIn_42 : decode cX0_peopleIn 42 = .ok (.goto (-37), 3) := by decide +kernel
theorem dX0_peopleIn_45 : decode cX0_peopleIn 45 = .ok (.iload_n 3, 1) := by decide +kernel
theorem dX0_peopleIn_46 : decode cX0_peopleIn 46 = .ok (.ireturn, 1) := by decide +kernel
theorem dX0_tally_0 : decode cX0_tally 0 = .ok (.iconst 0, 1) := by decide +kernel
theorem dX0_tally_1 : decode cX0_tally 1 = .ok (.istore_n 3, 1) := by decide +kernel
theorem dX0_tally_2 : decode cX0_tally 2 = .ok (.iconst 0, 1) := by decide +kernel
theorem dX0_tally_3 : decode cX0_tally 3 = .ok (.istore 4, 2) := by decide +kernel
theorem dX0_tally_5 : decode cX0_tally 5 = .ok (.iload 4, 2) := by decide +kernel
theorem dX0_tally_7 : decode cX0_tally 7 = .ok (.aload_n 1, 1) := by decide +kernel
theorem dX0_tally_8 : decode cX0_tally 8 = .ok (.getfield 50, 3) := by decide +kernel
theorem dX0_tally_11 : decode cX0_tally 11 = .ok (.if_icmp .ge 100, 3) := by decide +kernel
theorem dX0_tally_14 : decode cX0_tally 14 = .ok (.iload 4, 2) := by decide +kernel
theorem dX0_tally_16 : decode cX0_tally 16 = .ok (.bipush 8, 2) := by decide +kernel
theorem dX0_tally_18 : decode cX0_tally 18 = .ok (.if_icmp .ge 93, 3) := by decide +kernel
theorem dX0_tally_21 : decode cX0_tally 21 = .ok (.iload_n 2, 1) := by decide +kernel
theorem dX0_tally_22 : decode cX0_tally 22 = .ok (.ifCond .ne 28, 3) := by decide +kernel
theorem dX0_tally_25 : decode cX0_tally 25 = .ok (.aload_n 0, 1) := by decide +kernel
theorem dX0_tally_26 : decode cX0_tally 26 = .ok (.getfield 9, 3) := by decide +kernel
theorem dX0_tally_29 : decode cX0_tally 29 = .ok (.iload 4, 2) := by decide +kernel
theorem dX0_tally_31 : decode cX0_tally 31 = .ok (.iaload, 1) := by decide +kernel
theorem dX0_tally_32 : decode cX0_tally 32 = .ok (.aload_n 1, 1) := by decide +kernel
theorem dX0_tally_33 : decode cX0_tally 33 = .ok (.getfield 35, 3) := by decide +kernel
theorem dX0_tally_36 : decode cX0_tally 36 = .ok (.iload 4, 2) := by decide +kernel
theorem dX0_tally_38 : decode cX0_tally 38 = .ok (.iaload, 1) := by decide +kernel
theorem dX0_tally_39 : decode cX0_tally 39 = .ok (.if_icmp .ne 7, 3) := by decide +kernel
theorem dX0_tally_42 : decode cX0_tally 42 = .ok (.iconst 1, 1) := by decide +kernel
theorem dX0_tally_43 : decode cX0_tally 43 = .ok (.goto 47, 3) := by decide +kernel
theorem dX0_tally_46 : decode cX0_tally 46 = .ok (.iconst 0, 1) := by decide +kernel
theorem dX0_tally_47 : decode cX0_tally 47 = .ok (.goto 43, 3) := by decide +kernel
theorem dX0_tally_50 : decode cX0_tally 50 = .ok (.iload_n 2, 1) := by decide +kernel
theorem dX0_tally_51 : decode cX0_tally 51 = .ok (.iconst 1, 1) := by decide +kernel
theorem dX0_tally_52 : decode cX0_tally 52 = .ok (.if_icmp .ne 22, 3) := by decide +kernel
theorem dX0_tally_55 : decode cX0_tally 55 = .ok (.aload_n 0, 1) := by decide +kernel
theorem dX0_tally_56 : decode cX0_tally 56 = .ok (.getfield 9, 3) := by decide +kernel
theorem dX0_tally_59 : decode cX0_tally 59 = .ok (.iload 4, 2) := by decide +kernel
theorem dX0_tally_61 : decode cX0_tally 61 = .ok (.iaload, 1) := by decide +kernel
theorem dX0_tally_62 : decode cX0_tally 62 = .ok (.iconst (-1), 1) := by decide +kernel
theorem dX0_tally_63 : decode cX0_tally 63 = .ok (.if_icmp .ne 7, 3) := by decide +kernel
theorem dX0_tally_66 : decode cX0_tally 66 = .ok (.iconst 1, 1) := by decide +kernel
theorem dX0_tally_67 : decode cX0_tally 67 = .ok (.goto 23, 3) := by decide +kernel
theorem dX0_tally_70 : decode cX0_tally 70 = .ok (.iconst 0, 1) := by decide +kernel
theorem dX0_tally_71 : decode cX0_tally 71 = .ok (.goto 19, 3) := by decide +kernel
theorem dX0_tally_74 : decode cX0_tally 74 = .ok (.aload_n 0, 1) := by decide +kernel
theorem dX0_tally_75 : decode cX0_tally 75 = .ok (.getfield 15, 3) := by decide +kernel
theorem dX0_tally_78 : decode cX0_tally 78 = .ok (.iload 4, 2) := by decide +kernel
theorem dX0_tally_80 : decode cX0_tally 80 = .ok (.iaload, 1) := by decide +kernel
theorem dX0_tally_81 : decode cX0_tally 81 = .ok (.iconst 1, 1) := by decide +kernel
theorem dX0_tally_82 : decode cX0_tally 82 = .ok (.if_icmp .ne 7, 3) := by decide +kernel
theorem dX0_tally_85 : decode cX0_tally 85 = .ok (.iconst 1, 1) := by decide +kernel
theorem dX0_tally_86 : decode cX0_tally 86 = .ok (.goto 4, 3) := by decide +kernel
theorem dX0_tally_89 : decode cX0_tally 89 = .ok (.iconst 0, 1) := by decide +kernel
theorem dX0_tally_90 : decode cX0_tally 90 = .ok (.istore 5, 2) := by decide +kernel
theorem dX0_tally_92 : decode cX0_tally 92 = .ok (.iload_n 3, 1) := by decide +kernel
theorem dX0_tally_93 : decode cX0_tally 93 = .ok (.iload 5, 2) := by decide +kernel
theorem dX0_tally_95 : decode cX0_tally 95 = .ok (.ifCond .eq 7, 3) := by decide +kernel
theorem dX0_tally_98 : decode cX0_tally 98 = .ok (.iconst 1, 1) := by decide +kernel
theorem dX0_tally_99 : decode cX0_tally 99 = .ok (.goto 4, 3) := by decide +kernel
theorem dX0_tally_102 : decode cX0_tally 102 = .ok (.iconst 0, 1) := by decide +kernel
theorem dX0_tally_103 : decode cX0_tally 103 = .ok (.iadd, 1) := by decide +kernel
theorem dX0_tally_104 : decode cX0_tally 104 = .ok (.istore_n 3, 1) := by decide +kernel
theorem dX0_tally_105 : decode cX0_tally 105 = .ok (.iinc 4 1, 3) := by decide +kernel
theorem dX0_tally_108 : decode cX0_tally 108 = .ok (.goto (-103), 3) := by decide +kernel
theorem dX0_tally_111 : decode cX0_tally 111 = .ok (.iload_n 3, 1) := by decide +kernel
theorem dX0_tally_112 : decode cX0_tally 112 = .ok (.ireturn, 1) := by decide +kernel
theorem dX0_canTake_0 : decode cX0_canTake 0 = .ok (.aload_n 1, 1) := by decide +kernel
theorem dX0_canTake_1 : decode cX0_canTake 1 = .ok (.iload_n 2, 1) := by decide +kernel
theorem dX0_canTake_2 : decode cX0_canTake 2 = .ok (.invokevirtual 64, 3) := by decide +kernel
theorem dX0_canTake_5 : decode cX0_canTake 5 = .ok (.ifCond .eq 11, 3) := by decide +kernel
theorem dX0_canTake_8 : decode cX0_canTake 8 = .ok (.aload_n 1, 1) := by decide +kernel
theorem dX0_canTake_9 : decode cX0_canTake 9 = .ok (.iload_n 3, 1) := by decide +kernel
theorem dX0_canTake_10 : decode cX0_canTake 10 = .ok (.invokevirtual 68, 3) := by decide +kernel
theorem dX0_canTake_13 : decode cX0_canTake 13 = .ok (.ifCond .ne 5, 3) := by decide +kernel
theorem dX0_canTake_16 : decode cX0_canTake 16 = .ok (.iconst 0, 1) := by decide +kernel
theorem dX0_canTake_17 : decode cX0_canTake 17 = .ok (.ireturn, 1) := by decide +kernel
theorem dX0_canTake_18 : decode cX0_canTake 18 = .ok (.aload_n 1, 1) := by decide +kernel
theorem dX0_canTake_19 : decode cX0_canTake 19 = .ok (.iload_n 3, 1) := by decide +kernel
theorem dX0_canTake_20 : decode cX0_canTake 20 = .ok (.aload_n 0, 1) := by decide +kernel
theorem dX0_canTake_21 : decode cX0_canTake 21 = .ok (.getfield 9, 3) := by decide +kernel
theorem dX0_canTake_24 : decode cX0_canTake 24 = .ok (.iload_n 2, 1) := by decide +kernel
theorem dX0_canTake_25 : decode cX0_canTake 25 = .ok (.iaload, 1) := by decide +kernel
theorem dX0_canTake_26 : decode cX0_canTake 26 = .ok (.invokevirtual 71, 3) := by decide +kernel
theorem dX0_canTake_29 : decode cX0_canTake 29 = .ok (.iconst (-1), 1) := by decide +kernel
theorem dX0_canTake_30 : decode cX0_canTake 30 = .ok (.if_icmp .eq 23, 3) := by decide +kernel
theorem dX0_canTake_33 : decode cX0_canTake 33 = .ok (.aload_n 1, 1) := by decide +kernel
theorem dX0_canTake_34 : decode cX0_canTake 34 = .ok (.iload_n 3, 1) := by decide +kernel
theorem dX0_canTake_35 : decode cX0_canTake 35 = .ok (.aload_n 0, 1) := by decide +kernel
theorem dX0_canTake_36 : decode cX0_canTake 36 = .ok (.getfield 24, 3) := by decide +kernel
theorem dX0_canTake_39 : decode cX0_canTake 39 = .ok (.invokevirtual 75, 3) := by decide +kernel
theorem dX0_canTake_42 : decode cX0_canTake 42 = .ok (.aload_n 0, 1) := by decide +kernel
theorem dX0_canTake_43 : decode cX0_canTake 43 = .ok (.getfield 24, 3) := by decide +kernel
theorem dX0_canTake_46 : decode cX0_canTake 46 = .ok (.if_icmp .ne 7, 3) := by decide +kernel
theorem dX0_canTake_49 : decode cX0_canTake 49 = .ok (.iconst 1, 1) := by decide +kernel
theorem dX0_canTake_50 : decode cX0_canTake 50 = .ok (.goto 4, 3) := by decide +kernel
theorem dX0_canTake_53 : decode cX0_canTake 53 = .ok (.iconst 0, 1) := by decide +kernel
theorem dX0_canTake_54 : decode cX0_canTake 54 = .ok (.ireturn, 1) := by decide +kernel
theorem dX0_canRide_0 : decode cX0_canRide 0 = .ok (.aload_n 1, 1) := by decide +kernel
theorem dX0_canRide_1 : decode cX0_canRide 1 = .ok (.iload_n 2, 1) := by decide +kernel
theorem dX0_canRide_2 : decode cX0_canRide 2 = .ok (.invokevirtual 64, 3) := by decide +kernel
theorem dX0_canRide_5 : decode cX0_canRide 5 = .ok (.ifCond .eq 13, 3) := by decide +kernel
theorem dX0_canRide_8 : decode cX0_canRide 8 = .ok (.aload_n 0, 1) := by decide +kernel
theorem dX0_canRide_9 : decode cX0_canRide 9 = .ok (.getfield 15, 3) := by decide +kernel
theorem dX0_canRide_12 : decode cX0_canRide 12 = .ok (.iload_n 2, 1) := by decide +kernel
theorem dX0_canRide_13 : decode cX0_canRide 13 = .ok (.iaload, 1) := by decide +kernel
theorem dX0_canRide_14 : decode cX0_canRide 14 = .ok (.iconst 1, 1) := by decide +kernel
theorem dX0_canRide_15 : decode cX0_canRide 15 = .ok (.if_icmp .ne 5, 3) := by decide +kernel
theorem dX0_canRide_18 : decode cX0_canRide 18 = .ok (.iconst 0, 1) := by decide +kernel
theorem dX0_canRide_19 : decode cX0_canRide 19 = .ok (.ireturn, 1) := by decide +kernel
theorem dX0_canRide_20 : decode cX0_canRide 20 = .ok (.aload_n 0, 1) := by decide +kernel
theorem dX0_canRide_21 : decode cX0_canRide 21 = .ok (.getfield 28, 3) := by decide +kernel
theorem dX0_canRide_24 : decode cX0_canRide 24 = .ok (.aload_n 1, 1) := by decide +kernel
theorem dX0_canRide_25 : decode cX0_canRide 25 = .ok (.getfield 78, 3) := by decide +kernel
theorem dX0_canRide_28 : decode cX0_canRide 28 = .ok (.if_icmp .ge 22, 3) := by decide +kernel
theorem dX0_canRide_31 : decode cX0_canRide 31 = .ok (.aload_n 1, 1) := by decide +kernel
theorem dX0_canRide_32 : decode cX0_canRide 32 = .ok (.aload_n 0, 1) := by decide +kernel
theorem dX0_canRide_33 : decode cX0_canRide 33 = .ok (.getfield 24, 3) := by decide +kernel
theorem dX0_canRide_36 : decode cX0_canRide 36 = .ok (.invokevirtual 81, 3) := by decide +kernel
theorem dX0_canRide_39 : decode cX0_canRide 39 = .ok (.aload_n 0, 1) := by decide +kernel
theorem dX0_canRide_40 : decode cX0_canRide 40 = .ok (.getfield 24, 3) := by decide +kernel
theorem dX0_canRide_43 : decode cX0_canRide 43 = .ok (.if_icmp .ne 7, 3) := by decide +kernel
theorem dX0_canRide_46 : decode cX0_canRide 46 = .ok (.iconst 1, 1) := by decide +kernel
theorem dX0_canRide_47 : decode cX0_canRide 47 = .ok (.goto 4, 3) := by decide +kernel
theorem dX0_canRide_50 : decode cX0_canRide 50 = .ok (.iconst 0, 1) := by decide +kernel
theorem dX0_canRide_51 : decode cX0_canRide 51 = .ok (.ireturn, 1) := by decide +kernel
theorem dX0_takeWay_0 : decode cX0_takeWay 0 = .ok (.aload_n 0, 1) := by decide +kernel
theorem dX0_takeWay_1 : decode cX0_takeWay 1 = .ok (.aload_n 1, 1) := by decide +kernel
theorem dX0_takeWay_2 : decode cX0_takeWay 2 = .ok (.iload_n 2, 1) := by decide +kernel
theorem dX0_takeWay_3 : decode cX0_takeWay 3 = .ok (.iload_n 3, 1) := by decide +kernel
theorem dX0_takeWay_4 : decode cX0_takeWay 4 = .ok (.invokevirtual 85, 3) := by decide +kernel
theorem dX0_takeWay_7 : decode cX0_takeWay 7 = .ok (.ifCond .ne 5, 3) := by decide +kernel
theorem dX0_takeWay_10 : decode cX0_takeWay 10 = .ok (.iconst 0, 1) := by decide +kernel
theorem dX0_takeWay_11 : decode cX0_takeWay 11 = .ok (.ireturn, 1) := by decide +kernel
theorem dX0_takeWay_12 : decode cX0_takeWay 12 = .ok (.aload_n 0, 1) := by decide +kernel
theorem dX0_takeWay_13 : decode cX0_takeWay 13 = .ok (.iload_n 2, 1) := by decide +kernel
theorem dX0_takeWay_14 : decode cX0_takeWay 14 = .ok (.aload_n 1, 1) := by decide +kernel
theorem dX0_takeWay_15 : decode cX0_takeWay 15 = .ok (.iload_n 3, 1) := by decide +kernel
theorem dX0_takeWay_16 : decode cX0_takeWay 16 = .ok (.aload_n 0, 1) := by decide +kernel
theorem dX0_takeWay_17 : decode cX0_takeWay 17 = .ok (.getfield 9, 3) := by decide +kernel
theorem dX0_takeWay_20 : decode cX0_takeWay 20 = .ok (.iload_n 2, 1) := by decide +kernel
theorem dX0_takeWay_21 : decode cX0_takeWay 21 = .ok (.iaload, 1) := by decide +kernel
theorem dX0_takeWay_22 : decode cX0_takeWay 22 = .ok (.invokevirtual 71, 3) := by decide +kernel
theorem dX0_takeWay_25 : decode cX0_takeWay 25 = .ok (.aload_n 0, 1) := by decide +kernel
theorem dX0_takeWay_26 : decode cX0_takeWay 26 = .ok (.getfield 24, 3) := by decide +kernel
theorem dX0_takeWay_29 : decode cX0_takeWay 29 = .ok (.aload_n 1, 1) := by decide +kernel
theorem dX0_takeWay_30 : decode cX0_takeWay 30 = .ok (.getfield 89, 3) := by decide +kernel
theorem dX0_takeWay_33 : decode cX0_takeWay 33 = .ok (.iload_n 3, 1) := by decide +kernel
theorem dX0_takeWay_34 : decode cX0_takeWay 34 = .ok (.iaload, 1) := by decide +kernel
theorem dX0_takeWay_35 : decode cX0_takeWay 35 = .ok (.iadd, 1) := by decide +kernel
theorem dX0_takeWay_36 : decode cX0_takeWay 36 = .ok (.invokevirtual 92, 3) := by decide +kernel
theorem dX0_takeWay_39 : decode cX0_takeWay 39 = .ok (.iconst 1, 1) := by decide +kernel
theorem dX0_takeWay_40 : decode cX0_takeWay 40 = .ok (.ireturn, 1) := by decide +kernel
theorem dX0_takeHoist_0 : decode cX0_takeHoist 0 = .ok (.aload_n 0, 1) := by decide +kernel
theorem dX0_takeHoist_1 : decode cX0_takeHoist 1 = .ok (.aload_n 1, 1) := by decide +kernel
theorem dX0_takeHoist_2 : decode cX0_takeHoist 2 = .ok (.iload_n 2, 1) := by decide +kernel
theorem dX0_takeHoist_3 : decode cX0_takeHoist 3 = .ok (.invokevirtual 96, 3) := by decide +kernel
theorem dX0_takeHoist_6 : decode cX0_takeHoist 6 = .ok (.ifCond .ne 5, 3) := by decide +kernel
theorem dX0_takeHoist_9 : decode cX0_takeHoist 9 = .ok (.iconst 0, 1) := by decide +kernel
theorem dX0_takeHoist_10 : decode cX0_takeHoist 10 = .ok (.ireturn, 1) := by decide +kernel
theorem dX0_takeHoist_11 : decode cX0_takeHoist 11 = .ok (.aload_n 0, 1) := by decide +kernel
theorem dX0_takeHoist_12 : decode cX0_takeHoist 12 = .ok (.dup, 1) := by decide +kernel
theorem dX0_takeHoist_13 : decode cX0_takeHoist 13 = .ok (.getfield 28, 3) := by decide +kernel
theorem dX0_takeHoist_16 : decode cX0_takeHoist 16 = .ok (.iconst 1, 1) := by decide +kernel
theorem dX0_takeHoist_17 : decode cX0_takeHoist 17 = .ok (.iadd, 1) := by decide +kernel
theorem dX0_takeHoist_18 : decode cX0_takeHoist 18 = .ok (.putfield 28, 3) := by decide +kernel
theorem dX0_takeHoist_21 : decode cX0_takeHoist 21 = .ok (.aload_n 0, 1) := by decide +kernel
theorem dX0_takeHoist_22 : decode cX0_takeHoist 22 = .ok (.getfield 15, 3) := by decide +kernel
theorem dX0_takeHoist_25 : decode cX0_takeHoist 25 = .ok (.iload_n 2, 1) := by decide +kernel
theorem dX0_takeHoist_26 : decode cX0_takeHoist 26 = .ok (.iconst 1, 1) := by decide +kernel
theorem dX0_takeHoist_27 : decode cX0_takeHoist 27 = .ok (.iastore, 1) := by decide +kernel
theorem dX0_takeHoist_28 : decode cX0_takeHoist 28 = .ok (.aload_n 0, 1) := by decide +kernel
theorem dX0_takeHoist_29 : decode cX0_takeHoist 29 = .ok (.iload_n 2, 1) := by decide +kernel
theorem dX0_takeHoist_30 : decode cX0_takeHoist 30 = .ok (.aload_n 1, 1) := by decide +kernel
theorem dX0_takeHoist_31 : decode cX0_takeHoist 31 = .ok (.getfield 100, 3) := by decide +kernel
theorem dX0_takeHoist_34 : decode cX0_takeHoist 34 = .ok (.aload_n 0, 1) := by decide +kernel
theorem dX0_takeHoist_35 : decode cX0_takeHoist 35 = .ok (.getfield 24, 3) := by decide +kernel
theorem dX0_takeHoist_38 : decode cX0_takeHoist 38 = .ok (.aload_n 1, 1) := by decide +kernel
theorem dX0_takeHoist_39 : decode cX0_takeHoist 39 = .ok (.getfield 103, 3) := by decide +kernel
theorem dX0_takeHoist_42 : decode cX0_takeHoist 42 = .ok (.iadd, 1) := by decide +kernel
theorem dX0_takeHoist_43 : decode cX0_takeHoist 43 = .ok (.invokevirtual 92, 3) := by decide +kernel
theorem dX0_takeHoist_46 : decode cX0_takeHoist 46 = .ok (.iconst 1, 1) := by decide +kernel
theorem dX0_takeHoist_47 : decode cX0_takeHoist 47 = .ok (.ireturn, 1) := by decide +kernel
theorem dX0_leave_0 : decode cX0_leave 0 = .ok (.aload_n 0, 1) := by decide +kernel
theorem dX0_leave_1 : decode cX0_leave 1 = .ok (.getfield 9, 3) := by decide +kernel
theorem dX0_leave_4 : decode cX0_leave 4 = .ok (.iload_n 1, 1) := by decide +kernel
theorem dX0_leave_5 : decode cX0_leave 5 = .ok (.iconst (-1), 1) := by decide +kernel
theorem dX0_leave_6 : decode cX0_leave 6 = .ok (.iastore, 1) := by decide +kernel
theorem dX0_leave_7 : decode cX0_leave 7 = .ok (.aload_n 0, 1) := by decide +kernel
theorem dX0_leave_8 : decode cX0_leave 8 = .ok (.getfield 18, 3) := by decide +kernel
theorem dX0_leave_11 : decode cX0_leave 11 = .ok (.iload_n 1, 1) := by decide +kernel
theorem dX0_leave_12 : decode cX0_leave 12 = .ok (.iload_n 2, 1) := by decide +kernel
theorem dX0_leave_13 : decode cX0_leave 13 = .ok (.iastore, 1) := by decide +kernel
theorem dX0_leave_14 : decode cX0_leave 14 = .ok (.aload_n 0, 1) := by decide +kernel
theorem dX0_leave_15 : decode cX0_leave 15 = .ok (.getfield 21, 3) := by decide +kernel
theorem dX0_leave_18 : decode cX0_leave 18 = .ok (.iload_n 1, 1) := by decide +kernel
theorem dX0_leave_19 : decode cX0_leave 19 = .ok (.iload_n 3, 1) := by decide +kernel
theorem dX0_leave_20 : decode cX0_leave 20 = .ok (.iastore, 1) := by decide +kernel
theorem dX0_leave_21 : decode cX0_leave 21 = .ok (.return_, 1) := by decide +kernel
theorem dX0_pass_0 : decode cX0_pass 0 = .ok (.iconst 0, 1) := by decide +kernel
theorem dX0_pass_1 : decode cX0_pass 1 = .ok (.istore 4, 2) := by decide +kernel
theorem dX0_pass_3 : decode cX0_pass 3 = .ok (.iload 4, 2) := by decide +kernel
theorem dX0_pass_5 : decode cX0_pass 5 = .ok (.iload_n 3, 1) := by decide +kernel
theorem dX0_pass_6 : decode cX0_pass 6 = .ok (.if_icmp .ge 83, 3) := by decide +kernel
theorem dX0_pass_9 : decode cX0_pass 9 = .ok (.iconst 0, 1) := by decide +kernel
theorem dX0_pass_10 : decode cX0_pass 10 = .ok (.istore 5, 2) := by decide +kernel
theorem dX0_pass_12 : decode cX0_pass 12 = .ok (.iload 5, 2) := by decide +kernel
theorem dX0_pass_14 : decode cX0_pass 14 = .ok (.aload_n 1, 1) := by decide +kernel
theorem dX0_pass_15 : decode cX0_pass 15 = .ok (.getfield 50, 3) := by decide +kernel
theorem dX0_pass_18 : decode cX0_pass 18 = .ok (.if_icmp .ge 35, 3) := by decide +kernel
theorem dX0_pass_21 : decode cX0_pass 21 = .ok (.iload 5, 2) := by decide +kernel
theorem dX0_pass_23 : decode cX0_pass 23 = .ok (.bipush 8, 2) := by decide +kernel
theorem dX0_pass_25 : decode cX0_pass 25 = .ok (.if_icmp .ge 28, 3) := by decide +kernel
theorem dX0_pass_28 : decode cX0_pass 28 = .ok (.aload_n 0, 1) := by decide +kernel
theorem dX0_pass_29 : decode cX0_pass 29 = .ok (.getfield 9, 3) := by decide +kernel
theorem dX0_pass_32 : decode cX0_pass 32 = .ok (.iload 5, 2) := by decide +kernel
theorem dX0_pass_34 : decode cX0_pass 34 = .ok (.iaload, 1) := by decide +kernel
theorem dX0_pass_35 : decode cX0_pass 35 = .ok (.iconst (-1), 1) := by decide +kernel
theorem dX0_pass_36 : decode cX0_pass 36 = .ok (.if_icmp .eq 11, 3) := by decide +kernel
theorem dX0_pass_39 : decode cX0_pass 39 = .ok (.aload_n 0, 1) := by decide +kernel
theorem dX0_pass_40 : decode cX0_pass 40 = .ok (.aload_n 1, 1) := by decide +kernel
theorem dX0_pass_41 : decode cX0_pass 41 = .ok (.aload_n 2, 1) := by decide +kernel
theorem dX0_pass_42 : decode cX0_pass 42 = .ok (.iload 5, 2) := by decide +kernel
theorem dX0_pass_44 : decode cX0_pass 44 = .ok (.invokevirtual 106, 3) := by decide +kernel
theorem dX0_pass_47 : decode cX0_pass 47 = .ok (.iinc 5 1, 3) := by decide +kernel
theorem dX0_pass_50 : decode cX0_pass 50 = .ok (.goto (-38), 3) := by decide +kernel
theorem dX0_pass_53 : decode cX0_pass 53 = .ok (.aload_n 0, 1) := by decide +kernel
theorem dX0_pass_54 : decode cX0_pass 54 = .ok (.dup, 1) := by decide +kernel
theorem dX0_pass_55 : decode cX0_pass 55 = .ok (.getfield 24, 3) := by decide +kernel
theorem dX0_pass_58 : decode cX0_pass 58 = .ok (.iconst 1, 1) := by decide +kernel
theorem dX0_pass_59 : decode cX0_pass 59 = .ok (.iadd, 1) := by decide +kernel
theorem dX0_pass_60 : decode cX0_pass 60 = .ok (.putfield 24, 3) := by decide +kernel
theorem dX0_pass_63 : decode cX0_pass 63 = .ok (.aload_n 0, 1) := by decide +kernel
theorem dX0_pass_64 : decode cX0_pass 64 = .ok (.iconst 0, 1) := by decide +kernel
theorem dX0_pass_65 : decode cX0_pass 65 = .ok (.putfield 28, 3) := by decide +kernel
theorem dX0_pass_68 : decode cX0_pass 68 = .ok (.aload_n 0, 1) := by decide +kernel
theorem dX0_pass_69 : decode cX0_pass 69 = .ok (.getfield 24, 3) := by decide +kernel
theorem dX0_pass_72 : decode cX0_pass 72 = .ok (.sipush 1440, 3) := by decide +kernel
theorem dX0_pass_75 : decode cX0_pass 75 = .ok (.if_icmp .ge 8, 3) := by decide +kernel
theorem dX0_pass_78 : decode cX0_pass 78 = .ok (.aload_n 0, 1) := by decide +kernel
theorem dX0_pass_79 : decode cX0_pass 79 = .ok (.aload_n 1, 1) := by decide +kernel
theorem dX0_pass_80 : decode cX0_pass 80 = .ok (.invokevirtual 110, 3) := by decide +kernel
theorem dX0_pass_83 : decode cX0_pass 83 = .ok (.iinc 4 1, 3) := by decide +kernel
theorem dX0_pass_86 : decode cX0_pass 86 = .ok (.goto (-83), 3) := by decide +kernel
theorem dX0_pass_89 : decode cX0_pass 89 = .ok (.return_, 1) := by decide +kernel
theorem dX0_act_0 : decode cX0_act 0 = .ok (.iconst 0, 1) := by decide +kernel
theorem dX0_act_1 : decode cX0_act 1 = .ok (.istore 4, 2) := by decide +kernel
theorem dX0_act_3 : decode cX0_act 3 = .ok (.iload 4, 2) := by decide +kernel
theorem dX0_act_5 : decode cX0_act 5 = .ok (.aload_n 2, 1) := by decide +kernel
theorem dX0_act_6 : decode cX0_act 6 = .ok (.getfield 113, 3) := by decide +kernel
theorem dX0_act_9 : decode cX0_act 9 = .ok (.if_icmp .ge 120, 3) := by decide +kernel
theorem dX0_act_12 : decode cX0_act 12 = .ok (.iload 4, 2) := by decide +kernel
theorem dX0_act_14 : decode cX0_act 14 = .ok (.bipush 12, 2) := by decide +kernel
theorem dX0_act_16 : decode cX0_act 16 = .ok (.if_icmp .ge 113, 3) := by decide +kernel
theorem dX0_act_19 : decode cX0_act 19 = .ok (.aload_n 2, 1) := by decide +kernel
theorem dX0_act_20 : decode cX0_act 20 = .ok (.getfield 118, 3) := by decide +kernel
theorem dX0_act_23 : decode cX0_act 23 = .ok (.iload 4, 2) := by decide +kernel
theorem dX0_act_25 : decode cX0_act 25 = .ok (.iaload, 1) := by decide +kernel
theorem dX0_act_26 : decode cX0_act 26 = .ok (.istore 5, 2) := by decide +kernel
theorem dX0_act_28 : decode cX0_act 28 = .ok (.aload_n 2, 1) := by decide +kernel
theorem dX0_act_29 : decode cX0_act 29 = .ok (.getfield 121, 3) := by decide +kernel
theorem dX0_act_32 : decode cX0_act 32 = .ok (.iload 4, 2) := by decide +kernel
theorem dX0_act_34 : decode cX0_act 34 = .ok (.iaload, 1) := by decide +kernel
theorem dX0_act_35 : decode cX0_act 35 = .ok (.istore 6, 2) := by decide +kernel
theorem dX0_act_37 : decode cX0_act 37 = .ok (.iload 5, 2) := by decide +kernel
theorem dX0_act_39 : decode cX0_act 39 = .ok (.ifCond .ne 14, 3) := by decide +kernel
theorem dX0_act_42 : decode cX0_act 42 = .ok (.aload_n 0, 1) := by decide +kernel
theorem dX0_act_43 : decode cX0_act 43 = .ok (.aload_n 1, 1) := by decide +kernel
theorem dX0_act_44 : decode cX0_act 44 = .ok (.iload_n 3, 1) := by decide +kernel
theorem dX0_act_45 : decode cX0_act 45 = .ok (.iload 6, 2) := by decide +kernel
theorem dX0_act_47 : decode cX0_act 47 = .ok (.invokevirtual 85, 3) := by decide +kernel
theorem dX0_act_50 : decode cX0_act 50 = .ok (.goto 23, 3) := by decide +kernel
theorem dX0_act_53 : decode cX0_act 53 = .ok (.iload 5, 2) := by decide +kernel
theorem dX0_act_55 : decode cX0_act 55 = .ok (.iconst 2, 1) := by decide +kernel
theorem dX0_act_56 : decode cX0_act 56 = .ok (.if_icmp .eq 12, 3) := by decide +kernel
theorem dX0_act_59 : decode cX0_act 59 = .ok (.aload_n 0, 1) := by decide +kernel
theorem dX0_act_60 : decode cX0_act 60 = .ok (.aload_n 1, 1) := by decide +kernel
theorem dX0_act_61 : decode cX0_act 61 = .ok (.iload_n 3, 1) := by decide +kernel
theorem dX0_act_62 : decode cX0_act 62 = .ok (.invokevirtual 96, 3) := by decide +kernel
theorem dX0_act_65 : decode cX0_act 65 = .ok (.ifCond .eq 7, 3) := by decide +kernel
theorem dX0_act_68 : decode cX0_act 68 = .ok (.iconst 1, 1) := by decide +kernel
theorem dX0_act_69 : decode cX0_act 69 = .ok (.goto 4, 3) := by decide +kernel
theorem dX0_act_72 : decode cX0_act 72 = .ok (.iconst 0, 1) := by decide +kernel
theorem dX0_act_73 : decode cX0_act 73 = .ok (.istore 7, 2) := by decide +kernel
theorem dX0_act_75 : decode cX0_act 75 = .ok (.iload 7, 2) := by decide +kernel
theorem dX0_act_77 : decode cX0_act 77 = .ok (.ifCond .eq 46, 3) := by decide +kernel
theorem dX0_act_80 : decode cX0_act 80 = .ok (.aload_n 2, 1) := by decide +kernel
theorem dX0_act_81 : decode cX0_act 81 = .ok (.iload 4, 2) := by decide +kernel
theorem dX0_act_83 : decode cX0_act 83 = .ok (.aload_n 1, 1) := by decide +kernel
theorem dX0_act_84 : decode cX0_act 84 = .ok (.aload_n 0, 1) := by decide +kernel
theorem dX0_act_85 : decode cX0_act 85 = .ok (.iload_n 3, 1) := by decide +kernel
theorem dX0_act_86 : decode cX0_act 86 = .ok (.invokevirtual 124, 3) := by decide +kernel
theorem dX0_act_89 : decode cX0_act 89 = .ok (.ifCond .eq 34, 3) := by decide +kernel
theorem dX0_act_92 : decode cX0_act 92 = .ok (.iload 5, 2) := by decide +kernel
theorem dX0_act_94 : decode cX0_act 94 = .ok (.ifCond .ne 15, 3) := by decide +kernel
theorem dX0_act_97 : decode cX0_act 97 = .ok (.aload_n 0, 1) := by decide +kernel
theorem dX0_act_98 : decode cX0_act 98 = .ok (.aload_n 1, 1) := by decide +kernel
theorem dX0_act_99 : decode cX0_act 99 = .ok (.iload_n 3, 1) := by decide +kernel
theorem dX0_act_100 : decode cX0_act 100 = .ok (.iload 6, 2) := by decide +kernel
theorem dX0_act_102 : decode cX0_act 102 = .ok (.invokevirtual 128, 3) := by decide +kernel
theorem dX0_act_105 : decode cX0_act 105 = .ok (.pop, 1) := by decide +kernel
theorem dX0_act_106 : decode cX0_act 106 = .ok (.goto 16, 3) := by decide +kernel
theorem dX0_act_109 : decode cX0_act 109 = .ok (.iload 5, 2) := by decide +kernel
theorem dX0_act_111 : decode cX0_act 111 = .ok (.iconst 1, 1) := by decide +kernel
theorem dX0_act_112 : decode cX0_act 112 = .ok (.if_icmp .ne 10, 3) := by decide +kernel
theorem dX0_act_115 : decode cX0_act 115 = .ok (.aload_n 0, 1) := by decide +kernel
theorem dX0_act_116 : decode cX0_act 116 = .ok (.aload_n 1, 1) := by decide +kernel
theorem dX0_act_117 : decode cX0_act 117 = .ok (.iload_n 3, 1) := by decide +kernel
theorem dX0_act_118 : decode cX0_act 118 = .ok (.invokevirtual 131, 3) := by decide +kernel
theorem dX0_act_121 : decode cX0_act 121 = .ok (.pop, 1) := by decide +kernel
theorem dX0_act_122 : decode cX0_act 122 = .ok (.return_, 1) := by decide +kernel
theorem dX0_act_123 : decode cX0_act 123 = .ok (.iinc 4 1, 3) := by decide +kernel
theorem dX0_act_126 : decode cX0_act 126 = .ok (.goto (-123), 3) := by decide +kernel
theorem dX0_act_129 : decode cX0_act 129 = .ok (.return_, 1) := by decide +kernel
theorem dX0_arrive_0 : decode cX0_arrive 0 = .ok (.iconst 0, 1) := by decide +kernel
theorem dX0_arrive_1 : decode cX0_arrive 1 = .ok (.istore_n 2, 1) := by decide +kernel
theorem dX0_arrive_2 : decode cX0_arrive 2 = .ok (.iload_n 2, 1) := by decide +kernel
theorem dX0_arrive_3 : decode cX0_arrive 3 = .ok (.aload_n 1, 1) := by decide +kernel
theorem dX0_arrive_4 : decode cX0_arrive 4 = .ok (.getfield 50, 3) := by decide +kernel
theorem dX0_arrive_7 : decode cX0_arrive 7 = .ok (.if_icmp .ge 64, 3) := by decide +kernel
theorem dX0_arrive_10 : decode cX0_arrive 10 = .ok (.iload_n 2, 1) := by decide +kernel
theorem dX0_arrive_11 : decode cX0_arrive 11 = .ok (.bipush 8, 2) := by decide +kernel
theorem dX0_arrive_13 : decode cX0_arrive 13 = .ok (.if_icmp .ge 58, 3) := by decide +kernel
theorem dX0_arrive_16 : decode cX0_arrive 16 = .ok (.aload_n 0, 1) := by decide +kernel
theorem dX0_arrive_17 : decode cX0_arrive 17 = .ok (.getfield 9, 3) := by decide +kernel
theorem dX0_arrive_20 : decode cX0_arrive 20 = .ok (.iload_n 2, 1) := by decide +kernel
theorem dX0_arrive_21 : decode cX0_arrive 21 = .ok (.iaload, 1) := by decide +kernel
theorem dX0_arrive_22 : decode cX0_arrive 22 = .ok (.iconst (-1), 1) := by decide +kernel
theorem dX0_arrive_23 : decode cX0_arrive 23 = .ok (.if_icmp .ne 42, 3) := by decide +kernel
theorem dX0_arrive_26 : decode cX0_arrive 26 = .ok (.aload_n 0, 1) := by decide +kernel
theorem dX0_arrive_27 : decode cX0_arrive 27 = .ok (.getfield 21, 3) := by decide +kernel
theorem dX0_arrive_30 : decode cX0_arrive 30 = .ok (.iload_n 2, 1) := by decide +kernel
theorem dX0_arrive_31 : decode cX0_arrive 31 = .ok (.iaload, 1) := by decide +kernel
theorem dX0_arrive_32 : decode cX0_arrive 32 = .ok (.aload_n 0, 1) := by decide +kernel
theorem dX0_arrive_33 : decode cX0_arrive 33 = .ok (.getfield 24, 3) := by decide +kernel
theorem dX0_arrive_36 : decode cX0_arrive 36 = .ok (.if_icmp .gt 29, 3) := by decide +kernel
theorem dX0_arrive_39 : decode cX0_arrive 39 = .ok (.aload_n 0, 1) := by decide +kernel
theorem dX0_arrive_40 : decode cX0_arrive 40 = .ok (.getfield 9, 3) := by decide +kernel
theorem dX0_arrive_43 : decode cX0_arrive 43 = .ok (.iload_n 2, 1) := by decide +kernel
theorem dX0_arrive_44 : decode cX0_arrive 44 = .ok (.aload_n 0, 1) := by decide +kernel
theorem dX0_arrive_45 : decode cX0_arrive 45 = .ok (.getfield 18, 3) := by decide +kernel
theorem dX0_arrive_48 : decode cX0_arrive 48 = .ok (.iload_n 2, 1) := by decide +kernel
theorem dX0_arrive_49 : decode cX0_arrive 49 = .ok (.iaload, 1) := by decide +kernel
theorem dX0_arrive_50 : decode cX0_arrive 50 = .ok (.iastore, 1) := by decide +kernel
theorem dX0_arrive_51 : decode cX0_arrive 51 = .ok (.aload_n 0, 1) := by decide +kernel
theorem dX0_arrive_52 : decode cX0_arrive 52 = .ok (.getfield 18, 3) := by decide +kernel
theorem dX0_arrive_55 : decode cX0_arrive 55 = .ok (.iload_n 2, 1) := by decide +kernel
theorem dX0_arrive_56 : decode cX0_arrive 56 = .ok (.iconst (-1), 1) := by decide +kernel
theorem dX0_arrive_57 : decode cX0_arrive 57 = .ok (.iastore, 1) := by decide +kernel
theorem dX0_arrive_58 : decode cX0_arrive 58 = .ok (.aload_n 0, 1) := by decide +kernel
theorem dX0_arrive_59 : decode cX0_arrive 59 = .ok (.getfield 21, 3) := by decide +kernel
theorem dX0_arrive_62 : decode cX0_arrive 62 = .ok (.iload_n 2, 1) := by decide +kernel
theorem dX0_arrive_63 : decode cX0_arrive 63 = .ok (.iconst (-1), 1) := by decide +kernel
theorem dX0_arrive_64 : decode cX0_arrive 64 = .ok (.iastore, 1) := by decide +kernel
theorem dX0_arrive_65 : decode cX0_arrive 65 = .ok (.iinc 2 1, 3) := by decide +kernel
theorem dX0_arrive_68 : decode cX0_arrive 68 = .ok (.goto (-66), 3) := by decide +kernel
theorem dX0_arrive_71 : decode cX0_arrive 71 = .ok (.return_, 1) := by decide +kernel
theorem dX0_word_0 : decode cX0_word 0 = .ok (.aload_n 2, 1) := by decide +kernel
theorem dX0_word_1 : decode cX0_word 1 = .ok (.iload_n 3, 1) := by decide +kernel
theorem dX0_word_2 : decode cX0_word 2 = .ok (.invokevirtual 64, 3) := by decide +kernel
theorem dX0_word_5 : decode cX0_word 5 = .ok (.ifCond .eq 16, 3) := by decide +kernel
theorem dX0_word_8 : decode cX0_word 8 = .ok (.aload_n 2, 1) := by decide +kernel
theorem dX0_word_9 : decode cX0_word 9 = .ok (.aload_n 0, 1) := by decide +kernel
theorem dX0_word_10 : decode cX0_word 10 = .ok (.getfield 9, 3) := by decide +kernel
theorem dX0_word_13 : decode cX0_word 13 = .ok (.iload_n 3, 1) := by decide +kernel
theorem dX0_word_14 : decode cX0_word 14 = .ok (.iaload, 1) := by decide +kernel
theorem dX0_word_15 : decode cX0_word 15 = .ok (.invokevirtual 134, 3) := by decide +kernel
theorem dX0_word_18 : decode cX0_word 18 = .ok (.ifCond .ne 5, 3) := by decide +kernel
theorem dX0_word_21 : decode cX0_word 21 = .ok (.lconst 0, 1) := by decide +kernel
theorem dX0_word_22 : decode cX0_word 22 = .ok (.lreturn, 1) := by decide +kernel
theorem dX0_word_23 : decode cX0_word 23 = .ok (.aload_n 0, 1) := by decide +kernel
theorem dX0_word_24 : decode cX0_word 24 = .ok (.getfield 9, 3) := by decide +kernel
theorem dX0_word_27 : decode cX0_word 27 = .ok (.iload_n 3, 1) := by decide +kernel
theorem dX0_word_28 : decode cX0_word 28 = .ok (.iaload, 1) := by decide +kernel
theorem dX0_word_29 : decode cX0_word 29 = .ok (.istore 4, 2) := by decide +kernel
theorem dX0_word_31 : decode cX0_word 31 = .ok (.iload_n 1, 1) := by decide +kernel
theorem dX0_word_32 : decode cX0_word 32 = .ok (.tableswitch 103 0 6 #[44, 50, 53, 57, 66, 78, 86], 44) := by decide +kernel
theorem dX0_word_76 : decode cX0_word 76 = .ok (.aload_n 0, 1) := by decide +kernel
theorem dX0_word_77 : decode cX0_word 77 = .ok (.getfield 24, 3) := by decide +kernel
theorem dX0_word_80 : decode cX0_word 80 = .ok (.i2l, 1) := by decide +kernel
theorem dX0_word_81 : decode cX0_word 81 = .ok (.lreturn, 1) := by decide +kernel
theorem dX0_word_82 : decode cX0_word 82 = .ok (.iload_n 3, 1) := by decide +kernel
theorem dX0_word_83 : decode cX0_word 83 = .ok (.i2l, 1) := by decide +kernel
theorem dX0_word_84 : decode cX0_word 84 = .ok (.lreturn, 1) := by decide +kernel
theorem dX0_word_85 : decode cX0_word 85 = .ok (.iload 4, 2) := by decide +kernel
theorem dX0_word_87 : decode cX0_word 87 = .ok (.i2l, 1) := by decide +kernel
theorem dX0_word_88 : decode cX0_word 88 = .ok (.lreturn, 1) := by decide +kernel
theorem dX0_word_89 : decode cX0_word 89 = .ok (.aload_n 2, 1) := by decide +kernel
theorem dX0_word_90 : decode cX0_word 90 = .ok (.getfield 137, 3) := by decide +kernel
theorem dX0_word_93 : decode cX0_word 93 = .ok (.iload 4, 2) := by decide +kernel
theorem dX0_word_95 : decode cX0_word 95 = .ok (.iaload, 1) := by decide +kernel
theorem dX0_word_96 : decode cX0_word 96 = .ok (.i2l, 1) := by decide +kernel
theorem dX0_word_97 : decode cX0_word 97 = .ok (.lreturn, 1) := by decide +kernel
theorem dX0_word_98 : decode cX0_word 98 = .ok (.aload_n 0, 1) := by decide +kernel
theorem dX0_word_99 : decode cX0_word 99 = .ok (.aload_n 2, 1) := by decide +kernel
theorem dX0_word_100 : decode cX0_word 100 = .ok (.iload 4, 2) := by decide +kernel
theorem dX0_word_102 : decode cX0_word 102 = .ok (.invokevirtual 140, 3) := by decide +kernel
theorem dX0_word_105 : decode cX0_word 105 = .ok (.invokestatic 144, 3) := by decide +kernel
theorem dX0_word_108 : decode cX0_word 108 = .ok (.i2l, 1) := by decide +kernel
theorem dX0_word_109 : decode cX0_word 109 = .ok (.lreturn, 1) := by decide +kernel
theorem dX0_word_110 : decode cX0_word 110 = .ok (.aload_n 0, 1) := by decide +kernel
theorem dX0_word_111 : decode cX0_word 111 = .ok (.getfield 15, 3) := by decide +kernel
theorem dX0_word_114 : decode cX0_word 114 = .ok (.iload_n 3, 1) := by decide +kernel
theorem dX0_word_115 : decode cX0_word 115 = .ok (.iaload, 1) := by decide +kernel
theorem dX0_word_116 : decode cX0_word 116 = .ok (.i2l, 1) := by decide +kernel
theorem dX0_word_117 : decode cX0_word 117 = .ok (.lreturn, 1) := by decide +kernel
theorem dX0_word_118 : decode cX0_word 118 = .ok (.aload_n 2, 1) := by decide +kernel
theorem dX0_word_119 : decode cX0_word 119 = .ok (.getfield 35, 3) := by decide +kernel
theorem dX0_word_122 : decode cX0_word 122 = .ok (.iload_n 3, 1) := by decide +kernel
theorem dX0_word_123 : decode cX0_word 123 = .ok (.iaload, 1) := by decide +kernel
theorem dX0_word_124 : decode cX0_word 124 = .ok (.iload 4, 2) := by decide +kernel
theorem dX0_word_126 : decode cX0_word 126 = .ok (.if_icmp .ne 7, 3) := by decide +kernel
theorem dX0_word_129 : decode cX0_word 129 = .ok (.lconst 1, 1) := by decide +kernel
theorem dX0_word_130 : decode cX0_word 130 = .ok (.goto 4, 3) := by decide +kernel
theorem dX0_word_133 : decode cX0_word 133 = .ok (.lconst 0, 1) := by decide +kernel
theorem dX0_word_134 : decode cX0_word 134 = .ok (.lreturn, 1) := by decide +kernel
theorem dX0_word_135 : decode cX0_word 135 = .ok (.aload_n 2, 1) := by decide +kernel
theorem dX0_word_136 : decode cX0_word 136 = .ok (.getfield 100, 3) := by decide +kernel
theorem dX0_word_139 : decode cX0_word 139 = .ok (.iload 4, 2) := by decide +kernel
theorem dX0_word_141 : decode cX0_word 141 = .ok (.if_icmp .ne 7, 3) := by decide +kernel
theorem dX0_word_144 : decode cX0_word 144 = .ok (.lconst 1, 1) := by decide +kernel
theorem dX0_word_145 : decode cX0_word 145 = .ok (.goto 4, 3) := by decide +kernel
theorem dX0_word_148 : decode cX0_word 148 = .ok (.lconst 0, 1) := by decide +kernel
theorem dX0_word_149 : decode cX0_word 149 = .ok (.lreturn, 1) := by decide +kernel
theorem dX1_init_0 : decode cX1_init 0 = .ok (.aload_n 0, 1) := by decide +kernel
theorem dX1_init_1 : decode cX1_init 1 = .ok (.invokespecial 3, 3) := by decide +kernel
theorem dX1_init_4 : decode cX1_init 4 = .ok (.aload_n 0, 1) := by decide +kernel
theorem dX1_init_5 : decode cX1_init 5 = .ok (.bipush 16, 2) := by decide +kernel
theorem dX1_init_7 : decode cX1_init 7 = .ok (.newarray .int, 2) := by decide +kernel
theorem dX1_init_9 : decode cX1_init 9 = .ok (.putfield 9, 3) := by decide +kernel
theorem dX1_init_12 : decode cX1_init 12 = .ok (.aload_n 0, 1) := by decide +kernel
theorem dX1_init_13 : decode cX1_init 13 = .ok (.bipush 24, 2) := by decide +kernel
theorem dX1_init_15 : decode cX1_init 15 = .ok (.newarray .int, 2) := by decide +kernel
theorem dX1_init_17 : decode cX1_init 17 = .ok (.putfield 15, 3) := by decide +kernel
theorem dX1_init_20 : decode cX1_init 20 = .ok (.aload_n 0, 1) := by decide +kernel
theorem dX1_init_21 : decode cX1_init 21 = .ok (.bipush 24, 2) := by decide +kernel
theorem dX1_init_23 : decode cX1_init 23 = .ok (.newarray .int, 2) := by decide +kernel
theorem dX1_init_25 : decode cX1_init 25 = .ok (.putfield 18, 3) := by decide +kernel
theorem dX1_init_28 : decode cX1_init 28 = .ok (.aload_n 0, 1) := by decide +kernel
theorem dX1_init_29 : decode cX1_init 29 = .ok (.bipush 24, 2) := by decide +kernel
theorem dX1_init_31 : decode cX1_init 31 = .ok (.newarray .int, 2) := by decide +kernel
theorem dX1_init_33 : decode cX1_init 33 = .ok (.putfield 21, 3) := by decide +kernel
theorem dX1_init_36 : decode cX1_init 36 = .ok (.aload_n 0, 1) := by decide +kernel
theorem dX1_init_37 : decode cX1_init 37 = .ok (.bipush 24, 2) := by decide +kernel
theorem dX1_init_39 : decode cX1_init 39 = .ok (.newarray .int, 2) := by decide +kernel
theorem dX1_init_41 : decode cX1_init 41 = .ok (.putfield 24, 3) := by decide +kernel
theorem dX1_init_44 : decode cX1_init 44 = .ok (.aload_n 0, 1) := by decide +kernel
theorem dX1_init_45 : decode cX1_init 45 = .ok (.bipush 24, 2) := by decide +kernel
theorem dX1_init_47 : decode cX1_init 47 = .ok (.newarray .int, 2) := by decide +kernel
theorem dX1_init_49 : decode cX1_init 49 = .ok (.putfield 27, 3) := by decide +kernel
theorem dX1_init_52 : decode cX1_init 52 = .ok (.aload_n 0, 1) := by decide +kernel
theorem dX1_init_53 : decode cX1_init 53 = .ok (.bipush 24, 2) := by decide +kernel
theorem dX1_init_55 : decode cX1_init 55 = .ok (.newarray .int, 2) := by decide +kernel
theorem dX1_init_57 : decode cX1_init 57 = .ok (.putfield 30, 3) := by decide +kernel
theorem dX1_init_60 : decode cX1_init 60 = .ok (.aload_n 0, 1) := by decide +kernel
theorem dX1_init_61 : decode cX1_init 61 = .ok (.bipush 8, 2) := by decide +kernel
theorem dX1_init_63 : decode cX1_init 63 = .ok (.newarray .int, 2) := by decide +kernel
theorem dX1_init_65 : decode cX1_init 65 = .ok (.putfield 33, 3) := by decide +kernel
theorem dX1_init_68 : decode cX1_init 68 = .ok (.return_, 1) := by decide +kernel
theorem dX1_clear_0 : decode cX1_clear 0 = .ok (.aload_n 0, 1) := by decide +kernel
theorem dX1_clear_1 : decode cX1_clear 1 = .ok (.iconst 0, 1) := by decide +kernel
theorem dX1_clear_2 : decode cX1_clear 2 = .ok (.putfield 36, 3) := by decide +kernel
theorem dX1_clear_5 : decode cX1_clear 5 = .ok (.aload_n 0, 1) := by decide +kernel
theorem dX1_clear_6 : decode cX1_clear 6 = .ok (.iconst 0, 1) := by decide +kernel
theorem dX1_clear_7 : decode cX1_clear 7 = .ok (.putfield 40, 3) := by decide +kernel
theorem dX1_clear_10 : decode cX1_clear 10 = .ok (.aload_n 0, 1) := by decide +kernel
theorem dX1_clear_11 : decode cX1_clear 11 = .ok (.iconst 0, 1) := by decide +kernel
theorem dX1_clear_12 : decode cX1_clear 12 = .ok (.putfield 43, 3) := by decide +kernel
theorem dX1_clear_15 : decode cX1_clear 15 = .ok (.aload_n 0, 1) := by decide +kernel
theorem dX1_clear_16 : decode cX1_clear 16 = .ok (.iconst 0, 1) := by decide +kernel
theorem dX1_clear_17 : decode cX1_clear 17 = .ok (.putfield 46, 3) := by decide +kernel
theorem dX1_clear_20 : decode cX1_clear 20 = .ok (.aload_n 0, 1) := by decide +kernel
theorem dX1_clear_21 : decode cX1_clear 21 = .ok (.iconst 0, 1) := by decide +kernel
theorem dX1_clear_22 : decode cX1_clear 22 = .ok (.putfield 49, 3) := by decide +kernel
theorem dX1_clear_25 : decode cX1_clear 25 = .ok (.aload_n 0, 1) := by decide +kernel
theorem dX1_clear_26 : decode cX1_clear 26 = .ok (.iconst 0, 1) := by decide +kernel
theorem dX1_clear_27 : decode cX1_clear 27 = .ok (.putfield 52, 3) := by decide +kernel
theorem dX1_clear_30 : decode cX1_clear 30 = .ok (.aload_n 0, 1) := by decide +kernel
theorem dX1_clear_31 : decode cX1_clear 31 = .ok (.iconst 0, 1) := by decide +kernel
theorem dX1_clear_32 : decode cX1_clear 32 = .ok (.putfield 55, 3) := by decide +kernel
theorem dX1_clear_35 : decode cX1_clear 35 = .ok (.return_, 1) := by decide +kernel
theorem dX1_copyFrom_0 : decode cX1_copyFrom 0 = .ok (.aload_n 0, 1) := by decide +kernel
theorem dX1_copyFrom_1 : decode cX1_copyFrom 1 = .ok (.aload_n 1, 1) := by decide +kernel
theorem dX1_copyFrom_2 : decode cX1_copyFrom 2 = .ok (.getfield 36, 3) := by decide +kernel
theorem dX1_copyFrom_5 : decode cX1_copyFrom 5 = .ok (.putfield 36, 3) := by decide +kernel
theorem dX1_copyFrom_8 : decode cX1_copyFrom 8 = .ok (.aload_n 0, 1) := by decide +kernel
theorem dX1_copyFrom_9 : decode cX1_copyFrom 9 = .ok (.aload_n 1, 1) := by decide +kernel
theorem dX1_copyFrom_10 : decode cX1_copyFrom 10 = .ok (.getfield 40, 3) := by decide +kernel
theorem dX1_copyFrom_13 : decode cX1_copyFrom 13 = .ok (.putfield 40, 3) := by decide +kernel
theorem dX1_copyFrom_16 : decode cX1_copyFrom 16 = .ok (.aload_n 0, 1) := by decide +kernel
theorem dX1_copyFrom_17 : decode cX1_copyFrom 17 = .ok (.aload_n 1, 1) := by decide +kernel
theorem dX1_copyFrom_18 : decode cX1_copyFrom 18 = .ok (.getfield 43, 3) := by decide +kernel
theorem dX1_copyFrom_21 : decode cX1_copyFrom 21 = .ok (.putfield 43, 3) := by decide +kernel
theorem dX1_copyFrom_24 : decode cX1_copyFrom 24 = .ok (.aload_n 0, 1) := by decide +kernel
theorem dX1_copyFrom_25 : decode cX1_copyFrom 25 = .ok (.aload_n 1, 1) := by decide +kernel
theorem dX1_copyFrom_26 : decode cX1_copyFrom 26 = .ok (.getfield 46, 3) := by decide +kernel
theorem dX1_copyFrom_29 : decode cX1_copyFrom 29 = .ok (.putfield 46, 3) := by decide +kernel
theorem dX1_copyFrom_32 : decode cX1_copyFrom 32 = .ok (.aload_n 0, 1) := by decide +kernel
theorem dX1_copyFrom_33 : decode cX1_copyFrom 33 = .ok (.aload_n 1, 1) := by decide +kernel
theorem dX1_copyFrom_34 : decode cX1_copyFrom 34 = .ok (.getfield 49, 3) := by decide +kernel
theorem dX1_copyFrom_37 : decode cX1_copyFrom 37 = .ok (.putfield 49, 3) := by decide +kernel
theorem dX1_copyFrom_40 : decode cX1_copyFrom 40 = .ok (.aload_n 0, 1) := by decide +kernel
theorem dX1_copyFrom_41 : decode cX1_copyFrom 41 = .ok (.aload_n 1, 1) := by decide +kernel
theorem dX1_copyFrom_42 : decode cX1_copyFrom 42 = .ok (.getfield 52, 3) := by decide +kernel
theorem dX1_copyFrom_45 : decode cX1_copyFrom 45 = .ok (.putfield 52, 3) := by decide +kernel
theorem dX1_copyFrom_48 : decode cX1_copyFrom 48 = .ok (.aload_n 0, 1) := by decide +kernel
theorem dX1_copyFrom_49 : decode cX1_copyFrom 49 = .ok (.aload_n 1, 1) := by decide +kernel
theorem dX1_copyFrom_50 : decode cX1_copyFrom 50 = .ok (.getfield 55, 3) := by decide +kernel
theorem dX1_copyFrom_53 : decode cX1_copyFrom 53 = .ok (.putfield 55, 3) := by decide +kernel
theorem dX1_copyFrom_56 : decode cX1_copyFrom 56 = .ok (.aload_n 1, 1) := by decide +kernel
theorem dX1_copyFrom_57 : decode cX1_copyFrom 57 = .ok (.getfield 9, 3) := by decide +kernel
theorem dX1_copyFrom_60 : decode cX1_copyFrom 60 = .ok (.aload_n 0, 1) := by decide +kernel
theorem dX1_copyFrom_61 : decode cX1_copyFrom 61 = .ok (.getfield 9, 3) := by decide +kernel
theorem dX1_copyFrom_64 : decode cX1_copyFrom 64 = .ok (.invokestatic 58, 3) := by decide +kernel
theorem dX1_copyFrom_67 : decode cX1_copyFrom 67 = .ok (.aload_n 1, 1) := by decide +kernel
theorem dX1_copyFrom_68 : decode cX1_copyFrom 68 = .ok (.getfield 15, 3) := by decide +kernel
theorem dX1_copyFrom_71 : decode cX1_copyFrom 71 = .ok (.aload_n 0, 1) := by decide +kernel
theorem dX1_copyFrom_72 : decode cX1_copyFrom 72 = .ok (.getfield 15, 3) := by decide +kernel
theorem dX1_copyFrom_75 : decode cX1_copyFrom 75 = .ok (.invokestatic 58, 3) := by decide +kernel
theorem dX1_copyFrom_78 : decode cX1_copyFrom 78 = .ok (.aload_n 1, 1) := by decide +kernel
theorem dX1_copyFrom_79 : decode cX1_copyFrom 79 = .ok (.getfield 18, 3) := by decide +kernel
theorem dX1_copyFrom_82 : decode cX1_copyFrom 82 = .ok (.aload_n 0, 1) := by decide +kernel
theorem dX1_copyFrom_83 : decode cX1_copyFrom 83 = .ok (.getfield 18, 3) := by decide +kernel
theorem dX1_copyFrom_86 : decode cX1_copyFrom 86 = .ok (.invokestatic 58, 3) := by decide +kernel
theorem dX1_copyFrom_89 : decode cX1_copyFrom 89 = .ok (.aload_n 1, 1) := by decide +kernel
theorem dX1_copyFrom_90 : decode cX1_copyFrom 90 = .ok (.getfield 21, 3) := by decide +kernel
theorem dX1_copyFrom_93 : decode cX1_copyFrom 93 = .ok (.aload_n 0, 1) := by decide +kernel
theorem dX1_copyFrom_94 : decode cX1_copyFrom 94 = .ok (.getfield 21, 3) := by decide +kernel
theorem dX1_copyFrom_97 : decode cX1_copyFrom 97 = .ok (.invokestatic 58, 3) := by decide +kernel
theorem dX1_copyFrom_100 : decode cX1_copyFrom 100 = .ok (.aload_n 1, 1) := by decide +kernel
theorem dX1_copyFrom_101 : decode cX1_copyFrom 101 = .ok (.getfield 24, 3) := by decide +kernel
theorem dX1_copyFrom_104 : decode cX1_copyFrom 104 = .ok (.aload_n 0, 1) := by decide +kernel
theorem dX1_copyFrom_105 : decode cX1_copyFrom 105 = .ok (.getfield 24, 3) := by decide +kernel
theorem dX1_copyFrom_108 : decode cX1_copyFrom 108 = .ok (.invokestatic 58, 3) := by decide +kernel
theorem dX1_copyFrom_111 : decode cX1_copyFrom 111 = .ok (.aload_n 1, 1) := by decide +kernel
theorem dX1_copyFrom_112 : decode cX1_copyFrom 112 = .ok (.getfield 27, 3) := by decide +kernel
theorem dX1_copyFrom_115 : decode cX1_copyFrom 115 = .ok (.aload_n 0, 1) := by decide +kernel
theorem dX1_copyFrom_116 : decode cX1_copyFrom 116 = .ok (.getfield 27, 3) := by decide +kernel
theorem dX1_copyFrom_119 : decode cX1_copyFrom 119 = .ok (.invokestatic 58, 3) := by decide +kernel
theorem dX1_copyFrom_122 : decode cX1_copyFrom 122 = .ok (.aload_n 1, 1) := by decide +kernel
theorem dX1_copyFrom_123 : decode cX1_copyFrom 123 = .ok (.getfield 30, 3) := by decide +kernel
theorem dX1_copyFrom_126 : decode cX1_copyFrom 126 = .ok (.aload_n 0, 1) := by decide +kernel
theorem dX1_copyFrom_127 : decode cX1_copyFrom 127 = .ok (.getfield 30, 3) := by decide +kernel
theorem dX1_copyFrom_130 : decode cX1_copyFrom 130 = .ok (.invokestatic 58, 3) := by decide +kernel
theorem dX1_copyFrom_133 : decode cX1_copyFrom 133 = .ok (.aload_n 1, 1) := by decide +kernel
theorem dX1_copyFrom_134 : decode cX1_copyFrom 134 = .ok (.getfield 33, 3) := by decide +kernel
theorem dX1_copyFrom_137 : decode cX1_copyFrom 137 = .ok (.aload_n 0, 1) := by decide +kernel
theorem dX1_copyFrom_138 : decode cX1_copyFrom 138 = .ok (.getfield 33, 3) := by decide +kernel
theorem dX1_copyFrom_141 : decode cX1_copyFrom 141 = .ok (.invokestatic 58, 3) := by decide +kernel
theorem dX1_copyFrom_144 : decode cX1_copyFrom 144 = .ok (.return_, 1) := by decide +kernel
theorem dX1_isRoom_0 : decode cX1_isRoom 0 = .ok (.iload_n 1, 1) := by decide +kernel
theorem dX1_isRoom_1 : decode cX1_isRoom 1 = .ok (.ifCond .lt 21, 3) := by decide +kernel
theorem dX1_isRoom_4 : decode cX1_isRoom 4 = .ok (.iload_n 1, 1) := by decide +kernel
theorem dX1_isRoom_5 : decode cX1_isRoom 5 = .ok (.aload_n 0, 1) := by decide +kernel
theorem dX1_isRoom_6 : decode cX1_isRoom 6 = .ok (.getfield 36, 3) := by decide +kernel
theorem dX1_isRoom_9 : decode cX1_isRoom 9 = .ok (.if_icmp .ge 13, 3) := by decide +kernel
theorem dX1_isRoom_12 : decode cX1_isRoom 12 = .ok (.iload_n 1, 1) := by decide +kernel
theorem dX1_isRoom_13 : decode cX1_isRoom 13 = .ok (.bipush 16, 2) := by decide +kernel
theorem dX1_isRoom_15 : decode cX1_isRoom 15 = .ok (.if_icmp .ge 7, 3) := by decide +kernel
theorem dX1_isRoom_18 : decode cX1_isRoom 18 = .ok (.iconst 1, 1) := by decide +kernel
theorem dX1_isRoom_19 : decode cX1_isRoom 19 = .ok (.goto 4, 3) := by decide +kernel
theorem dX1_isRoom_22 : decode cX1_isRoom 22 = .ok (.iconst 0, 1) := by decide +kernel
theorem dX1_isRoom_23 : decode cX1_isRoom 23 = .ok (.ireturn, 1) := by decide +kernel
theorem dX1_isWay_0 : decode cX1_isWay 0 = .ok (.iload_n 1, 1) := by decide +kernel
theorem dX1_isWay_1 : decode cX1_isWay 1 = .ok (.ifCond .lt 21, 3) := by decide +kernel
theorem dX1_isWay_4 : decode cX1_isWay 4 = .ok (.iload_n 1, 1) := by decide +kernel
theorem dX1_isWay_5 : decode cX1_isWay 5 = .ok (.aload_n 0, 1) := by decide +kernel
theorem dX1_isWay_6 : decode cX1_isWay 6 = .ok (.getfield 40, 3) := by decide +kernel
theorem dX1_isWay_9 : decode cX1_isWay 9 = .ok (.if_icmp .ge 13, 3) := by decide +kernel
theorem dX1_isWay_12 : decode cX1_isWay 12 = .ok (.iload_n 1, 1) := by decide +kernel
theorem dX1_isWay_13 : decode cX1_isWay 13 = .ok (.bipush 24, 2) := by decide +kernel
theorem dX1_isWay_15 : decode cX1_isWay 15 = .ok (.if_icmp .ge 7, 3) := by decide +kernel
theorem dX1_isWay_18 : decode cX1_isWay 18 = .ok (.iconst 1, 1) := by decide +kernel
theorem dX1_isWay_19 : decode cX1_isWay 19 = .ok (.goto 4, 3) := by decide +kernel
theorem dX1_isWay_22 : decode cX1_isWay 22 = .ok (.iconst 0, 1) := by decide +kernel
theorem dX1_isWay_23 : decode cX1_isWay 23 = .ok (.ireturn, 1) := by decide +kernel
theorem dX1_isPerson_0 : decode cX1_isPerson 0 = .ok (.iload_n 1, 1) := by decide +kernel
theorem dX1_isPerson_1 : decode cX1_isPerson 1 = .ok (.ifCond .lt 21, 3) := by decide +kernel
theorem dX1_isPerson_4 : decode cX1_isPerson 4 = .ok (.iload_n 1, 1) := by decide +kernel
theorem dX1_isPerson_5 : decode cX1_isPerson 5 = .ok (.aload_n 0, 1) := by decide +kernel
theorem dX1_isPerson_6 : decode cX1_isPerson 6 = .ok (.getfield 43, 3) := by decide +kernel
theorem dX1_isPerson_9 : decode cX1_isPerson 9 = .ok (.if_icmp .ge 13, 3) := by decide +kernel
theorem dX1_isPerson_12 : decode cX1_isPerson 12 = .ok (.iload_n 1, 1) := by decide +kernel
theorem dX1_isPerson_13 : decode cX1_isPerson 13 = .ok (.bipush 8, 2) := by decide +kernel
theorem dX1_isPerson_15 : decode cX1_isPerson 15 = .ok (.if_icmp .ge 7, 3) := by decide +kernel
theorem dX1_isPerson_18 : decode cX1_isPerson 18 = .ok (.iconst 1, 1) := by decide +kernel
theorem dX1_isPerson_19 : decode cX1_isPerson 19 = .ok (.goto 4, 3) := by decide +kernel
theorem dX1_isPerson_22 : decode cX1_isPerson 22 = .ok (.iconst 0, 1) := by decide +kernel
theorem dX1_isPerson_23 : decode cX1_isPerson 23 = .ok (.ireturn, 1) := by decide +kernel
theorem dX1_leadsTo_0 : decode cX1_leadsTo 0 = .ok (.aload_n 0, 1) := by decide +kernel
theorem dX1_leadsTo_1 : decode cX1_leadsTo 1 = .ok (.iload_n 1, 1) := by decide +kernel
theorem dX1_leadsTo_2 : decode cX1_leadsTo 2 = .ok (.invokevirtual 62, 3) := by decide +kernel
theorem dX1_leadsTo_5 : decode cX1_leadsTo 5 = .ok (.ifCond .ne 5, 3) := by decide +kernel
theorem dX1_leadsTo_8 : decode cX1_leadsTo 8 = .ok (.iconst (-1), 1) := by decide +kernel
theorem dX1_leadsTo_9 : decode cX1_leadsTo 9 = .ok (.ireturn, 1) := by decide +kernel
theorem dX1_leadsTo_10 : decode cX1_leadsTo 10 = .ok (.aload_n 0, 1) := by decide +kernel
theorem dX1_leadsTo_11 : decode cX1_leadsTo 11 = .ok (.getfield 15, 3) := by decide +kernel
theorem dX1_leadsTo_14 : decode cX1_leadsTo 14 = .ok (.iload_n 1, 1) := by decide +kernel
theorem dX1_leadsTo_15 : decode cX1_leadsTo 15 = .ok (.iaload, 1) := by decide +kernel
theorem dX1_leadsTo_16 : decode cX1_leadsTo 16 = .ok (.iload_n 2, 1) := by decide +kernel
theorem dX1_leadsTo_17 : decode cX1_leadsTo 17 = .ok (.if_icmp .ne 10, 3) := by decide +kernel
theorem dX1_leadsTo_20 : decode cX1_leadsTo 20 = .ok (.aload_n 0, 1) := by decide +kernel
theorem dX1_leadsTo_21 : decode cX1_leadsTo 21 = .ok (.getfield 18, 3) := by decide +kernel
theorem dX1_leadsTo_24 : decode cX1_leadsTo 24 = .ok (.iload_n 1, 1) := by decide +kernel
theorem dX1_leadsTo_25 : decode cX1_leadsTo 25 = .ok (.iaload, 1) := by decide +kernel
theorem dX1_leadsTo_26 : decode cX1_leadsTo 26 = .ok (.ireturn, 1) := by decide +kernel
theorem dX1_leadsTo_27 : decode cX1_leadsTo 27 = .ok (.aload_n 0, 1) := by decide +kernel
theorem dX1_leadsTo_28 : decode cX1_leadsTo 28 = .ok (.getfield 24, 3) := by decide +kernel
theorem dX1_leadsTo_31 : decode cX1_leadsTo 31 = .ok (.iload_n 1, 1) := by decide +kernel
theorem dX1_leadsTo_32 : decode cX1_leadsTo 32 = .ok (.iaload, 1) := by decide +kernel
theorem dX1_leadsTo_33 : decode cX1_leadsTo 33 = .ok (.iconst 1, 1) := by decide +kernel
theorem dX1_leadsTo_34 : decode cX1_leadsTo 34 = .ok (.if_icmp .ne 22, 3) := by decide +kernel
theorem dX1_leadsTo_37 : decode cX1_leadsTo 37 = .ok (.aload_n 0, 1) := by decide +kernel
theorem dX1_leadsTo_38 : decode cX1_leadsTo 38 = .ok (.getfield 18, 3) := by decide +kernel
theorem dX1_leadsTo_41 : decode cX1_leadsTo 41 = .ok (.iload_n 1, 1) := by decide +kernel
theorem dX1_leadsTo_42 : decode cX1_leadsTo 42 = .ok (.iaload, 1) := by decide +kernel
theorem dX1_leadsTo_43 : decode cX1_leadsTo 43 = .ok (.iload_n 2, 1) := by decide +kernel
theorem dX1_leadsTo_44 : decode cX1_leadsTo 44 = .ok (.if_icmp .ne 12, 3) := by decide +kernel
theorem dX1_leadsTo_47 : decode cX1_leadsTo 47 = .ok (.aload_n 0, 1) := by decide +kernel
theorem dX1_leadsTo_48 : decode cX1_leadsTo 48 = .ok (.getfield 15, 3) := by decide +kernel
theorem dX1_leadsTo_51 : decode cX1_leadsTo 51 = .ok (.iload_n 1, 1) := by decide +kernel
theorem dX1_leadsTo_52 : decode cX1_leadsTo 52 = .ok (.iaload, 1) := by decide +kernel
theorem dX1_leadsTo_53 : decode cX1_leadsTo 53 = .ok (.goto 4, 3) := by decide +kernel
theorem dX1_leadsTo_56 : decode cX1_leadsTo 56 = .ok (.iconst (-1), 1) := by decide +kernel
theorem dX1_leadsTo_57 : decode cX1_leadsTo 57 = .ok (.ireturn, 1) := by decide +kernel
theorem dX1_openFrom_0 : decode cX1_openFrom 0 = .ok (.aload_n 0, 1) := by decide +kernel
theorem dX1_openFrom_1 : decode cX1_openFrom 1 = .ok (.iload_n 1, 1) := by decide +kernel
theorem dX1_openFrom_2 : decode cX1_openFrom 2 = .ok (.invokevirtual 62, 3) := by decide +kernel
theorem dX1_openFrom_5 : decode cX1_openFrom 5 = .ok (.ifCond .ne 5, 3) := by decide +kernel
theorem dX1_openFrom_8 : decode cX1_openFrom 8 = .ok (.iconst (-1), 1) := by decide +kernel
theorem dX1_openFrom_9 : decode cX1_openFrom 9 = .ok (.ireturn, 1) := by decide +kernel
theorem dX1_openFrom_10 : decode cX1_openFrom 10 = .ok (.aload_n 0, 1) := by decide +kernel
theorem dX1_openFrom_11 : decode cX1_openFrom 11 = .ok (.getfield 27, 3) := by decide +kernel
theorem dX1_openFrom_14 : decode cX1_openFrom 14 = .ok (.iload_n 1, 1) := by decide +kernel
theorem dX1_openFrom_15 : decode cX1_openFrom 15 = .ok (.iaload, 1) := by decide +kernel
theorem dX1_openFrom_16 : decode cX1_openFrom 16 = .ok (.iconst (-1), 1) := by decide +kernel
theorem dX1_openFrom_17 : decode cX1_openFrom 17 = .ok (.if_icmp .ne 5, 3) := by decide +kernel
theorem dX1_openFrom_20 : decode cX1_openFrom 20 = .ok (.iload_n 2, 1) := by decide +kernel
theorem dX1_openFrom_21 : decode cX1_openFrom 21 = .ok (.ireturn, 1) := by decide +kernel
theorem dX1_openFrom_22 : decode cX1_openFrom 22 = .ok (.iload_n 2, 1) := by decide +kernel
theorem dX1_openFrom_23 : decode cX1_openFrom 23 = .ok (.aload_n 0, 1) := by decide +kernel
theorem dX1_openFrom_24 : decode cX1_openFrom 24 = .ok (.getfield 27, 3) := by decide +kernel
theorem dX1_openFrom_27 : decode cX1_openFrom 27 = .ok (.iload_n 1, 1) := by decide +kernel
theorem dX1_openFrom_28 : decode cX1_openFrom 28 = .ok (.iaload, 1) := by decide +kernel
theorem dX1_openFrom_29 : decode cX1_openFrom 29 = .ok (.invokestatic 66, 3) := by decide +kernel
theorem dX1_openFrom_32 : decode cX1_openFrom 32 = .ok (.istore_n 3, 1) := by decide +kernel
theorem dX1_openFrom_33 : decode cX1_openFrom 33 = .ok (.iload_n 3, 1) := by decide +kernel
theorem dX1_openFrom_34 : decode cX1_openFrom 34 = .ok (.aload_n 0, 1) := by decide +kernel
theorem dX1_openFrom_35 : decode cX1_openFrom 35 = .ok (.getfield 30, 3) := by decide +kernel
theorem dX1_openFrom_38 : decode cX1_openFrom 38 = .ok (.iload_n 1, 1) := by decide +kernel
theorem dX1_openFrom_39 : decode cX1_openFrom 39 = .ok (.iaload, 1) := by decide +kernel
theorem dX1_openFrom_40 : decode cX1_openFrom 40 = .ok (.if_icmp .le 7, 3) := by decide +kernel
theorem dX1_openFrom_43 : decode cX1_openFrom 43 = .ok (.iconst (-1), 1) := by decide +kernel
theorem dX1_openFrom_44 : decode cX1_openFrom 44 = .ok (.goto 4, 3) := by decide +kernel
theorem dX1_openFrom_47 : decode cX1_openFrom 47 = .ok (.iload_n 3, 1) := by decide +kernel
theorem dX1_openFrom_48 : decode cX1_openFrom 48 = .ok (.ireturn, 1) := by decide +kernel
theorem dX1_hoistLeaves_0 : decode cX1_hoistLeaves 0 = .ok (.aload_n 0, 1) := by decide +kernel
theorem dX1_hoistLeaves_1 : decode cX1_hoistLeaves 1 = .ok (.getfield 55, 3) := by decide +kernel
theorem dX1_hoistLeaves_4 : decode cX1_hoistLeaves 4 = .ok (.ifCond .le 7, 3) := by decide +kernel
theorem dX1_hoistLeaves_7 : decode cX1_hoistLeaves 7 = .ok (.iload_n 1, 1) := by decide +kernel
theorem dX1_hoistLeaves_8 : decode cX1_hoistLeaves 8 = .ok (.ifCond .ge 5, 3) := by decide +kernel
theorem dX1_hoistLeaves_11 : decode cX1_hoistLeaves 11 = .ok (.iconst (-1), 1) := by decide +kernel
theorem dX1_hoistLeaves_12 : decode cX1_hoistLeaves 12 = .ok (.ireturn, 1) := by decide +kernel
theorem dX1_hoistLeaves_13 : decode cX1_hoistLeaves 13 = .ok (.iload_n 1, 1) := by decide +kernel
theorem dX1_hoistLeaves_14 : decode cX1_hoistLeaves 14 = .ok (.aload_n 0, 1) := by decide +kernel
theorem dX1_hoistLeaves_15 : decode cX1_hoistLeaves 15 = .ok (.getfield 55, 3) := by decide +kernel
theorem dX1_hoistLeaves_18 : decode cX1_hoistLeaves 18 = .ok (.iadd, 1) := by decide +kernel
theorem dX1_hoistLeaves_19 : decode cX1_hoistLeaves 19 = .ok (.iconst 1, 1) := by decide +kernel
theorem dX1_hoistLeaves_20 : decode cX1_hoistLeaves 20 = .ok (.isub, 1) := by decide +kernel
theorem dX1_hoistLeaves_21 : decode cX1_hoistLeaves 21 = .ok (.aload_n 0, 1) := by decide +kernel
theorem dX1_hoistLeaves_22 : decode cX1_hoistLeaves 22 = .ok (.getfield 55, 3) := by decide +kernel
theorem dX1_hoistLeaves_25 : decode cX1_hoistLeaves 25 = .ok (.idiv, 1) := by decide +kernel
theorem dX1_hoistLeaves_26 : decode cX1_hoistLeaves 26 = .ok (.aload_n 0, 1) := by decide +kernel
theorem dX1_hoistLeaves_27 : decode cX1_hoistLeaves 27 = .ok (.getfield 55, 3) := by decide +kernel
theorem dX1_hoistLeaves_30 : decode cX1_hoistLeaves 30 = .ok (.imul, 1) := by decide +kernel
theorem dX1_hoistLeaves_31 : decode cX1_hoistLeaves 31 = .ok (.istore_n 2, 1) := by decide +kernel
theorem dX1_hoistLeaves_32 : decode cX1_hoistLeaves 32 = .ok (.iload_n 2, 1) := by decide +kernel
theorem dX1_hoistLeaves_33 : decode cX1_hoistLeaves 33 = .ok (.sipush 1439, 3) := by decide +kernel
theorem dX1_hoistLeaves_36 : decode cX1_hoistLeaves 36 = .ok (.if_icmp .le 7, 3) := by decide +kernel
theorem dX1_hoistLeaves_39 : decode cX1_hoistLeaves 39 = .ok (.iconst (-1), 1) := by decide +kernel
theorem dX1_hoistLeaves_40 : decode cX1_hoistLeaves 40 = .ok (.goto 4, 3) := by decide +kernel
theorem dX1_hoistLeaves_43 : decode cX1_hoistLeaves 43 = .ok (.iload_n 2, 1) := by decide +kernel
theorem dX1_hoistLeaves_44 : decode cX1_hoistLeaves 44 = .ok (.ireturn, 1) := by decide +kernel
theorem dX1_reckonDowns_0 : decode cX1_reckonDowns 0 = .ok (.iconst 0, 1) := by decide +kernel
theorem dX1_reckonDowns_1 : decode cX1_reckonDowns 1 = .ok (.istore 4, 2) := by decide +kernel
theorem dX1_reckonDowns_3 : decode cX1_reckonDowns 3 = .ok (.iload 4, 2) := by decide +kernel
theorem dX1_reckonDowns_5 : decode cX1_reckonDowns 5 = .ok (.bipush 40, 2) := by decide +kernel
theorem dX1_reckonDowns_7 : decode cX1_reckonDowns 7 = .ok (.if_icmp .gt 55, 3) := by decide +kernel
theorem dX1_reckonDowns_10 : decode cX1_reckonDowns 10 = .ok (.iconst 0, 1) := by decide +kernel
theorem dX1_reckonDowns_11 : decode cX1_reckonDowns 11 = .ok (.istore 5, 2) := by decide +kernel
theorem dX1_reckonDowns_13 : decode cX1_reckonDowns 13 = .ok (.iload 5, 2) := by decide +kernel
theorem dX1_reckonDowns_15 : decode cX1_reckonDowns 15 = .ok (.aload_n 0, 1) := by decide +kernel
theorem dX1_reckonDowns_16 : decode cX1_reckonDowns 16 = .ok (.getfield 36, 3) := by decide +kernel
theorem dX1_reckonDowns_19 : decode cX1_reckonDowns 19 = .ok (.if_icmp .ge 37, 3) := by decide +kernel
theorem dX1_reckonDowns_22 : decode cX1_reckonDowns 22 = .ok (.iload 5, 2) := by decide +kernel
theorem dX1_reckonDowns_24 : decode cX1_reckonDowns 24 = .ok (.bipush 16, 2) := by decide +kernel
theorem dX1_reckonDowns_26 : decode cX1_reckonDowns 26 = .ok (.if_icmp .ge 30, 3) := by decide +kernel
theorem dX1_reckonDowns_29 : decode cX1_reckonDowns 29 = .ok (.aload_n 0, 1) := by decide +kernel
theorem dX1_reckonDowns_30 : decode cX1_reckonDowns 30 = .ok (.getfield 9, 3) := by decide +kernel
theorem dX1_reckonDowns_33 : decode cX1_reckonDowns 33 = .ok (.iload 5, 2) := by decide +kernel
theorem dX1_reckonDowns_35 : decode cX1_reckonDowns 35 = .ok (.iaload, 1) := by decide +kernel
theorem dX1_reckonDowns_36 : decode cX1_reckonDowns 36 = .ok (.iload 4, 2) := by decide +kernel
theorem dX1_reckonDowns_38 : decode cX1_reckonDowns 38 = .ok (.if_icmp .ne 12, 3) := by decide +kernel
theorem dX1_reckonDowns_41 : decode cX1_reckonDowns 41 = .ok (.aload_n 0, 1) := by decide +kernel
theorem dX1_reckonDowns_42 : decode cX1_reckonDowns 42 = .ok (.iload 5, 2) := by decide +kernel
theorem dX1_reckonDowns_44 : decode cX1_reckonDowns 44 = .ok (.iload_n 1, 1) := by decide +kernel
theorem dX1_reckonDowns_45 : decode cX1_reckonDowns 45 = .ok (.aload_n 2, 1) := by decide +kernel
theorem dX1_reckonDowns_46 : decode cX1_reckonDowns 46 = .ok (.aload_n 3, 1) := by decide +kernel
theorem dX1_reckonDowns_47 : decode cX1_reckonDowns 47 = .ok (.invokevirtual 72, 3) := by decide +kernel
theorem dX1_reckonDowns_50 : decode cX1_reckonDowns 50 = .ok (.iinc 5 1, 3) := by decide +kernel
theorem dX1_reckonDowns_53 : decode cX1_reckonDowns 53 = .ok (.goto (-40), 3) := by decide +kernel
theorem dX1_reckonDowns_56 : decode cX1_reckonDowns 56 = .ok (.iinc 4 1, 3) := by decide +kernel
theorem dX1_reckonDowns_59 : decode cX1_reckonDowns 59 = .ok (.goto (-56), 3) := by decide +kernel
theorem dX1_reckonDowns_62 : decode cX1_reckonDowns 62 = .ok (.return_, 1) := by decide +kernel
theorem dX1_reckonDownsFrom_0 : decode cX1_reckonDownsFrom 0 = .ok (.iload_n 1, 1) := by decide +kernel
theorem dX1_reckonDownsFrom_1 : decode cX1_reckonDownsFrom 1 = .ok (.ifCond .lt 16, 3) := by decide +kernel
theorem dX1_reckonDownsFrom_4 : decode cX1_reckonDownsFrom 4 = .ok (.iload_n 1, 1) := by decide +kernel
theorem dX1_reckonDownsFrom_5 : decode cX1_reckonDownsFrom 5 = .ok (.aload_n 3, 1) := by decide +kernel
theorem dX1_reckonDownsFrom_6 : decode cX1_reckonDownsFrom 6 = .ok (.arraylength, 1) := by decide +kernel
theorem dX1_reckonDownsFrom_7 : decode cX1_reckonDownsFrom 7 = .ok (.if_icmp .ge 10, 3) := by decide +kernel
theorem dX1_reckonDownsFrom_10 : decode cX1_reckonDownsFrom 10 = .ok (.iload_n 1, 1) := by decide +kernel
theorem dX1_reckonDownsFrom_11 : decode cX1_reckonDownsFrom 11 = .ok (.aload 4, 2) := by decide +kernel
theorem dX1_reckonDownsFrom_13 : decode cX1_reckonDownsFrom 13 = .ok (.arraylength, 1) := by decide +kernel
theorem dX1_reckonDownsFrom_14 : decode cX1_reckonDownsFrom 14 = .ok (.if_icmp .lt 4, 3) := by decide +kernel
theorem dX1_reckonDownsFrom_17 : decode cX1_reckonDownsFrom 17 = .ok (.return_, 1) := by decide +kernel
theorem dX1_reckonDownsFrom_18 : decode cX1_reckonDownsFrom 18 = .ok (.aload_n 3, 1) := by decide +kernel
theorem dX1_reckonDownsFrom_19 : decode cX1_reckonDownsFrom 19 = .ok (.iload_n 1, 1) := by decide +kernel
theorem dX1_reckonDownsFrom_20 : decode cX1_reckonDownsFrom 20 = .ok (.iload_n 1, 1) := by decide +kernel
theorem dX1_reckonDownsFrom_21 : decode cX1_reckonDownsFrom 21 = .ok (.iload_n 2, 1) := by decide +kernel
theorem dX1_reckonDownsFrom_22 : decode cX1_reckonDownsFrom 22 = .ok (.if_icmp .ne 7, 3) := by decide +kernel
theorem dX1_reckonDownsFrom_25 : decode cX1_reckonDownsFrom 25 = .ok (.iconst 1, 1) := by decide +kernel
theorem dX1_reckonDownsFrom_26 : decode cX1_reckonDownsFrom 26 = .ok (.goto 4, 3) := by decide +kernel
theorem dX1_reckonDownsFrom_29 : decode cX1_reckonDownsFrom 29 = .ok (.iconst 0, 1) := by decide +kernel
theorem dX1_reckonDownsFrom_30 : decode cX1_reckonDownsFrom 30 = .ok (.iastore, 1) := by decide +kernel
theorem dX1_reckonDownsFrom_31 : decode cX1_reckonDownsFrom 31 = .ok (.aload 4, 2) := by decide +kernel
theorem dX1_reckonDownsFrom_33 : decode cX1_reckonDownsFrom 33 = .ok (.iload_n 1, 1) := by decide +kernel
theorem dX1_reckonDownsFrom_34 : decode cX1_reckonDownsFrom 34 = .ok (.iload_n 1, 1) := by decide +kernel
theorem dX1_reckonDownsFrom_35 : decode cX1_reckonDownsFrom 35 = .ok (.iload_n 2, 1) := by decide +kernel
theorem dX1_reckonDownsFrom_36 : decode cX1_reckonDownsFrom 36 = .ok (.if_icmp .ne 7, 3) := by decide +kernel
theorem dX1_reckonDownsFrom_39 : decode cX1_reckonDownsFrom 39 = .ok (.iconst 0, 1) := by decide +kernel
theorem dX1_reckonDownsFrom_40 : decode cX1_reckonDownsFrom 40 = .ok (.goto 5, 3) := by decide +kernel
theorem dX1_reckonDownsFrom_43 : decode cX1_reckonDownsFrom 43 = .ok (.bipush (-2), 2) := by decide +kernel
theorem dX1_reckonDownsFrom_45 : decode cX1_reckonDownsFrom 45 = .ok (.iastore, 1) := by decide +kernel
theorem dX1_reckonDownsFrom_46 : decode cX1_reckonDownsFrom 46 = .ok (.iconst 0, 1) := by decide +kernel
theorem dX1_reckonDownsFrom_47 : decode cX1_reckonDownsFrom 47 = .ok (.istore 5, 2) := by decide +kernel
theorem dX1_reckonDownsFrom_49 : decode cX1_reckonDownsFrom 49 = .ok (.iload 5, 2) := by decide +kernel
theorem dX1_reckonDownsFrom_51 : decode cX1_reckonDownsFrom 51 = .ok (.aload_n 0, 1) := by decide +kernel
theorem dX1_reckonDownsFrom_52 : decode cX1_reckonDownsFrom 52 = .ok (.getfield 40, 3) := by decide +kernel
theorem dX1_reckonDownsFrom_55 : decode cX1_reckonDownsFrom 55 = .ok (.if_icmp .ge 126, 3) := by decide +kernel
theorem dX1_reckonDownsFrom_58 : decode cX1_reckonDownsFrom 58 = .ok (.aload_n 0, 1) := by decide +kernel
theorem dX1_reckonDownsFrom_59 : decode cX1_reckonDownsFrom 59 = .ok (.iload 5, 2) := by decide +kernel
theorem dX1_reckonDownsFrom_61 : decode cX1_reckonDownsFrom 61 = .ok (.iload_n 1, 1) := by decide +kernel
theorem dX1_reckonDownsFrom_62 : decode cX1_reckonDownsFrom 62 = .ok (.invokevirtual 76, 3) := by decide +kernel
theorem dX1_reckonDownsFrom_65 : decode cX1_reckonDownsFrom 65 = .ok (.ifCond .eq 46, 3) := by decide +kernel
theorem dX1_reckonDownsFrom_68 : decode cX1_reckonDownsFrom 68 = .ok (.aload_n 0, 1) := by decide +kernel
theorem dX1_reckonDownsFrom_69 : decode cX1_reckonDownsFrom 69 = .ok (.aload_n 0, 1) := by decide +kernel
theorem dX1_reckonDownsFrom_70 : decode cX1_reckonDownsFrom 70 = .ok (.getfield 18, 3) := by decide +kernel
theorem dX1_reckonDownsFrom_73 : decode cX1_reckonDownsFrom 73 = .ok (.iload 5, 2) := by decide +kernel
theorem dX1_reckonDownsFrom_75 : decode cX1_reckonDownsFrom 75 = .ok (.iaload, 1) := by decide +kernel
theorem dX1_reckonDownsFrom_76 : decode cX1_reckonDownsFrom 76 = .ok (.invokevirtual 80, 3) := by decide +kernel
theorem dX1_reckonDownsFrom_79 : decode cX1_reckonDownsFrom 79 = .ok (.ifCond .eq 32, 3) := by decide +kernel
theorem dX1_reckonDownsFrom_82 : decode cX1_reckonDownsFrom 82 = .ok (.aload_n 0, 1) := by decide +kernel
theorem dX1_reckonDownsFrom_83 : decode cX1_reckonDownsFrom 83 = .ok (.getfield 18, 3) := by decide +kernel
theorem dX1_reckonDownsFrom_86 : decode cX1_reckonDownsFrom 86 = .ok (.iload 5, 2) := by decide +kernel
theorem dX1_reckonDownsFrom_88 : decode cX1_reckonDownsFrom 88 = .ok (.iaload, 1) := by decide +kernel
theorem dX1_reckonDownsFrom_89 : decode cX1_reckonDownsFrom 89 = .ok (.aload_n 3, 1) := by decide +kernel
theorem dX1_reckonDownsFrom_90 : decode cX1_reckonDownsFrom 90 = .ok (.arraylength, 1) := by decide +kernel
theorem dX1_reckonDownsFrom_91 : decode cX1_reckonDownsFrom 91 = .ok (.if_icmp .ge 20, 3) := by decide +kernel
theorem dX1_reckonDownsFrom_94 : decode cX1_reckonDownsFrom 94 = .ok (.aload_n 0, 1) := by decide +kernel
theorem dX1_reckonDownsFrom_95 : decode cX1_reckonDownsFrom 95 = .ok (.getfield 18, 3) := by decide +kernel
theorem dX1_reckonDownsFrom_98 : decode cX1_reckonDownsFrom 98 = .ok (.iload 5, 2) := by decide +kernel
theorem dX1_reckonDownsFrom_100 : decode cX1_reckonDownsFrom 100 = .ok (.iaload, 1) := by decide +kernel
theorem dX1_reckonDownsFrom_101 : decode cX1_reckonDownsFrom 101 = .ok (.aload 4, 2) := by decide +kernel
theorem dX1_reckonDownsFrom_103 : decode cX1_reckonDownsFrom 103 = .ok (.arraylength, 1) := by decide +kernel
theorem dX1_reckonDownsFrom_104 : decode cX1_reckonDownsFrom 104 = .ok (.if_icmp .ge 7, 3) := by decide +kernel
theorem dX1_reckonDownsFrom_107 : decode cX1_reckonDownsFrom 107 = .ok (.iconst 1, 1) := by decide +kernel
theorem dX1_reckonDownsFrom_108 : decode cX1_reckonDownsFrom 108 = .ok (.goto 4, 3) := by decide +kernel
theorem dX1_reckonDownsFrom_111 : decode cX1_reckonDownsFrom 111 = .ok (.iconst 0, 1) := by decide +kernel
theorem dX1_reckonDownsFrom_112 : decode cX1_reckonDownsFrom 112 = .ok (.istore 6, 2) := by decide +kernel
theorem dX1_reckonDownsFrom_114 : decode cX1_reckonDownsFrom 114 = .ok (.iload 6, 2) := by decide +kernel
theorem dX1_reckonDownsFrom_116 : decode cX1_reckonDownsFrom 116 = .ok (.ifCond .eq 59, 3) := by decide +kernel
theorem dX1_reckonDownsFrom_119 : decode cX1_reckonDownsFrom 119 = .ok (.aload_n 3, 1) := by decide +kernel
theorem dX1_reckonDownsFrom_120 : decode cX1_reckonDownsFrom 120 = .ok (.aload_n 0, 1) := by decide +kernel
theorem dX1_reckonDownsFrom_121 : decode cX1_reckonDownsFrom 121 = .ok (.getfield 18, 3) := by decide +kernel
theorem dX1_reckonDownsFrom_124 : decode cX1_reckonDownsFrom 124 = .ok (.iload 5, 2) := by decide +kernel
theorem dX1_reckonDownsFrom_126 : decode cX1_reckonDownsFrom 126 = .ok (.iaload, 1) := by decide +kernel
theorem dX1_reckonDownsFrom_127 : decode cX1_reckonDownsFrom 127 = .ok (.iaload, 1) := by decide +kernel
theorem dX1_reckonDownsFrom_128 : decode cX1_reckonDownsFrom 128 = .ok (.ifCond .le 47, 3) := by decide +kernel
theorem dX1_reckonDownsFrom_131 : decode cX1_reckonDownsFrom 131 = .ok (.aload_n 3, 1) := by decide +kernel
theorem dX1_reckonDownsFrom_132 : decode cX1_reckonDownsFrom 132 = .ok (.iload_n 1, 1) := by decide +kernel
theorem dX1_reckonDownsFrom_133 : decode cX1_reckonDownsFrom 133 = .ok (.ldc 83, 2) := by decide +kernel
theorem dX1_reckonDownsFrom_135 : decode cX1_reckonDownsFrom 135 = .ok (.aload_n 3, 1) := by decide +kernel
theorem dX1_reckonDownsFrom_136 : decode cX1_reckonDownsFrom 136 = .ok (.iload_n 1, 1) := by decide +kernel
theorem dX1_reckonDownsFrom_137 : decode cX1_reckonDownsFrom 137 = .ok (.iaload, 1) := by decide +kernel
theorem dX1_reckonDownsFrom_138 : decode cX1_reckonDownsFrom 138 = .ok (.aload_n 3, 1) := by decide +kernel
theorem dX1_reckonDownsFrom_139 : decode cX1_reckonDownsFrom 139 = .ok (.aload_n 0, 1) := by decide +kernel
theorem dX1_reckonDownsFrom_140 : decode cX1_reckonDownsFrom 140 = .ok (.getfield 18, 3) := by decide +kernel
theorem dX1_reckonDownsFrom_143 : decode cX1_reckonDownsFrom 143 = .ok (.iload 5, 2) := by decide +kernel
theorem dX1_reckonDownsFrom_145 : decode cX1_reckonDownsFrom 145 = .ok (.iaload, 1) := by decide +kernel
theorem dX1_reckonDownsFrom_146 : decode cX1_reckonDownsFrom 146 = .ok (.iaload, 1) := by decide +kernel
theorem dX1_reckonDownsFrom_147 : decode cX1_reckonDownsFrom 147 = .ok (.iadd, 1) := by decide +kernel
theorem dX1_reckonDownsFrom_148 : decode cX1_reckonDownsFrom 148 = .ok (.invokestatic 84, 3) := by decide +kernel
theorem dX1_reckonDownsFrom_151 : decode cX1_reckonDownsFrom 151 = .ok (.iastore, 1) := by decide +kernel
theorem dX1_reckonDownsFrom_152 : decode cX1_reckonDownsFrom 152 = .ok (.aload 4, 2) := by decide +kernel
theorem dX1_reckonDownsFrom_154 : decode cX1_reckonDownsFrom 154 = .ok (.iload_n 1, 1) := by decide +kernel
theorem dX1_reckonDownsFrom_155 : decode cX1_reckonDownsFrom 155 = .ok (.aload 4, 2) := by decide +kernel
theorem dX1_reckonDownsFrom_157 : decode cX1_reckonDownsFrom 157 = .ok (.iload_n 1, 1) := by decide +kernel
theorem dX1_reckonDownsFrom_158 : decode cX1_reckonDownsFrom 158 = .ok (.iaload, 1) := by decide +kernel
theorem dX1_reckonDownsFrom_159 : decode cX1_reckonDownsFrom 159 = .ok (.aload 4, 2) := by decide +kernel
theorem dX1_reckonDownsFrom_161 : decode cX1_reckonDownsFrom 161 = .ok (.aload_n 0, 1) := by decide +kernel
theorem dX1_reckonDownsFrom_162 : decode cX1_reckonDownsFrom 162 = .ok (.getfield 18, 3) := by decide +kernel
theorem dX1_reckonDownsFrom_165 : decode cX1_reckonDownsFrom 165 = .ok (.iload 5, 2) := by decide +kernel
theorem dX1_reckonDownsFrom_167 : decode cX1_reckonDownsFrom 167 = .ok (.iaload, 1) := by decide +kernel
theorem dX1_reckonDownsFrom_168 : decode cX1_reckonDownsFrom 168 = .ok (.iaload, 1) := by decide +kernel
theorem dX1_reckonDownsFrom_169 : decode cX1_reckonDownsFrom 169 = .ok (.iconst 1, 1) := by decide +kernel
theorem dX1_reckonDownsFrom_170 : decode cX1_reckonDownsFrom 170 = .ok (.iadd, 1) := by decide +kernel
theorem dX1_reckonDownsFrom_171 : decode cX1_reckonDownsFrom 171 = .ok (.invokestatic 66, 3) := by decide +kernel
theorem dX1_reckonDownsFrom_174 : decode cX1_reckonDownsFrom 174 = .ok (.iastore, 1) := by decide +kernel
theorem dX1_reckonDownsFrom_175 : decode cX1_reckonDownsFrom 175 = .ok (.iinc 5 1, 3) := by decide +kernel
theorem dX1_reckonDownsFrom_178 : decode cX1_reckonDownsFrom 178 = .ok (.goto (-129), 3) := by decide +kernel
theorem dX1_reckonDownsFrom_181 : decode cX1_reckonDownsFrom 181 = .ok (.return_, 1) := by decide +kernel
theorem dX1_firstOfLongest_0 : decode cX1_firstOfLongest 0 = .ok (.iload_n 1, 1) := by decide +kernel
theorem dX1_firstOfLongest_1 : decode cX1_firstOfLongest 1 = .ok (.ifCond .lt 9, 3) := by decide +kernel
theorem dX1_firstOfLongest_4 : decode cX1_firstOfLongest 4 = .ok (.iload_n 1, 1) := by decide +kernel
theorem dX1_firstOfLongest_5 : decode cX1_firstOfLongest 5 = .ok (.aload_n 2, 1) := by decide +kernel
theorem dX1_firstOfLongest_6 : decode cX1_firstOfLongest 6 = .ok (.arraylength, 1) := by decide +kernel
theorem dX1_firstOfLongest_7 : decode cX1_firstOfLongest 7 = .ok (.if_icmp .lt 6, 3) := by decide +kernel
theorem dX1_firstOfLongest_10 : decode cX1_firstOfLongest 10 = .ok (.bipush (-2), 2) := by decide +kernel
theorem dX1_firstOfLongest_12 : decode cX1_firstOfLongest 12 = .ok (.ireturn, 1) := by decide +kernel
theorem dX1_firstOfLongest_13 : decode cX1_firstOfLongest 13 = .ok (.iconst 0, 1) := by decide +kernel
theorem dX1_firstOfLongest_14 : decode cX1_firstOfLongest 14 = .ok (.istore_n 3, 1) := by decide +kernel
theorem dX1_firstOfLongest_15 : decode cX1_firstOfLongest 15 = .ok (.iload_n 3, 1) := by decide +kernel
theorem dX1_firstOfLongest_16 : decode cX1_firstOfLongest 16 = .ok (.aload_n 0, 1) := by decide +kernel
theorem dX1_firstOfLongest_17 : decode cX1_firstOfLongest 17 = .ok (.getfield 40, 3) := by decide +kernel
theorem dX1_firstOfLongest_20 : decode cX1_firstOfLongest 20 = .ok (.if_icmp .ge 83, 3) := by decide +kernel
theorem dX1_firstOfLongest_23 : decode cX1_firstOfLongest 23 = .ok (.aload_n 0, 1) := by decide +kernel
theorem dX1_firstOfLongest_24 : decode cX1_firstOfLongest 24 = .ok (.iload_n 3, 1) := by decide +kernel
theorem dX1_firstOfLongest_25 : decode cX1_firstOfLongest 25 = .ok (.iload_n 1, 1) := by decide +kernel
theorem dX1_firstOfLongest_26 : decode cX1_firstOfLongest 26 = .ok (.invokevirtual 76, 3) := by decide +kernel
theorem dX1_firstOfLongest_29 : decode cX1_firstOfLongest 29 = .ok (.ifCond .eq 31, 3) := by decide +kernel
theorem dX1_firstOfLongest_32 : decode cX1_firstOfLongest 32 = .ok (.aload_n 0, 1) := by decide +kernel
theorem dX1_firstOfLongest_33 : decode cX1_firstOfLongest 33 = .ok (.aload_n 0, 1) := by decide +kernel
theorem dX1_firstOfLongest_34 : decode cX1_firstOfLongest 34 = .ok (.getfield 18, 3) := by decide +kernel
theorem dX1_firstOfLongest_37 : decode cX1_firstOfLongest 37 = .ok (.iload_n 3, 1) := by decide +kernel
theorem dX1_firstOfLongest_38 : decode cX1_firstOfLongest 38 = .ok (.iaload, 1) := by decide +kernel
theorem dX1_firstOfLongest_39 : decode cX1_firstOfLongest 39 = .ok (.invokevirtual 80, 3) := by decide +kernel
theorem dX1_firstOfLongest_42 : decode cX1_firstOfLongest 42 = .ok (.ifCond .eq 18, 3) := by decide +kernel
theorem dX1_firstOfLongest_45 : decode cX1_firstOfLongest 45 = .ok (.aload_n 0, 1) := by decide +kernel
theorem dX1_firstOfLongest_46 : decode cX1_firstOfLongest 46 = .ok (.getfield 18, 3) := by decide +kernel
theorem dX1_firstOfLongest_49 : decode cX1_firstOfLongest 49 = .ok (.iload_n 3, 1) := by decide +kernel
theorem dX1_firstOfLongest_50 : decode cX1_firstOfLongest 50 = .ok (.iaload, 1) := by decide +kernel
theorem dX1_firstOfLongest_51 : decode cX1_firstOfLongest 51 = .ok (.aload_n 2, 1) := by decide +kernel
theorem dX1_firstOfLongest_52 : decode cX1_firstOfLongest 52 = .ok (.arraylength, 1) := by decide +kernel
theorem dX1_firstOfLongest_53 : decode cX1_firstOfLongest 53 = .ok (.if_icmp .ge 7, 3) := by decide +kernel
theorem dX1_firstOfLongest_56 : decode cX1_firstOfLongest 56 = .ok (.iconst 1, 1) := by decide +kernel
theorem dX1_firstOfLongest_57 : decode cX1_firstOfLongest 57 = .ok (.goto 4, 3) := by decide +kernel
theorem dX1_firstOfLongest_60 : decode cX1_firstOfLongest 60 = .ok (.iconst 0, 1) := by decide +kernel
theorem dX1_firstOfLongest_61 : decode cX1_firstOfLongest 61 = .ok (.istore 4, 2) := by decide +kernel
theorem dX1_firstOfLongest_63 : decode cX1_firstOfLongest 63 = .ok (.iload 4, 2) := by decide +kernel
theorem dX1_firstOfLongest_65 : decode cX1_firstOfLongest 65 = .ok (.ifCond .eq 32, 3) := by decide +kernel
theorem dX1_firstOfLongest_68 : decode cX1_firstOfLongest 68 = .ok (.aload_n 2, 1) := by decide +kernel
theorem dX1_firstOfLongest_69 : decode cX1_firstOfLongest 69 = .ok (.aload_n 0, 1) := by decide +kernel
theorem dX1_firstOfLongest_70 : decode cX1_firstOfLongest 70 = .ok (.getfield 18, 3) := by decide +kernel
theorem dX1_firstOfLongest_73 : decode cX1_firstOfLongest 73 = .ok (.iload_n 3, 1) := by decide +kernel
theorem dX1_firstOfLongest_74 : decode cX1_firstOfLongest 74 = .ok (.iaload, 1) := by decide +kernel
theorem dX1_firstOfLongest_75 : decode cX1_firstOfLongest 75 = .ok (.iaload, 1) := by decide +kernel
theorem dX1_firstOfLongest_76 : decode cX1_firstOfLongest 76 = .ok (.ifCond .lt 21, 3) := by decide +kernel
theorem dX1_firstOfLongest_79 : decode cX1_firstOfLongest 79 = .ok (.aload_n 2, 1) := by decide +kernel
theorem dX1_firstOfLongest_80 : decode cX1_firstOfLongest 80 = .ok (.aload_n 0, 1) := by decide +kernel
theorem dX1_firstOfLongest_81 : decode cX1_firstOfLongest 81 = .ok (.getfield 18, 3) := by decide +kernel
theorem dX1_firstOfLongest_84 : decode cX1_firstOfLongest 84 = .ok (.iload_n 3, 1) := by decide +kernel
theorem dX1_firstOfLongest_85 : decode cX1_firstOfLongest 85 = .ok (.iaload, 1) := by decide +kernel
theorem dX1_firstOfLongest_86 : decode cX1_firstOfLongest 86 = .ok (.iaload, 1) := by decide +kernel
theorem dX1_firstOfLongest_87 : decode cX1_firstOfLongest 87 = .ok (.iconst 1, 1) := by decide +kernel
theorem dX1_firstOfLongest_88 : decode cX1_firstOfLongest 88 = .ok (.iadd, 1) := by decide +kernel
theorem dX1_firstOfLongest_89 : decode cX1_firstOfLongest 89 = .ok (.aload_n 2, 1) := by decide +kernel
theorem dX1_firstOfLongest_90 : decode cX1_firstOfLongest 90 = .ok (.iload_n 1, 1) := by decide +kernel
theorem dX1_firstOfLongest_91 : decode cX1_firstOfLongest 91 = .ok (.iaload, 1) := by decide +kernel
theorem dX1_firstOfLongest_92 : decode cX1_firstOfLongest 92 = .ok (.if_icmp .ne 5, 3) := by decide +kernel
theorem dX1_firstOfLongest_95 : decode cX1_firstOfLongest 95 = .ok (.iload_n 3, 1) := by decide +kernel
theorem dX1_firstOfLongest_96 : decode cX1_firstOfLongest 96 = .ok (.ireturn, 1) := by decide +kernel
theorem dX1_firstOfLongest_97 : decode cX1_firstOfLongest 97 = .ok (.iinc 3 1, 3) := by decide +kernel
theorem dX1_firstOfLongest_100 : decode cX1_firstOfLongest 100 = .ok (.goto (-85), 3) := by decide +kernel
theorem dX1_firstOfLongest_103 : decode cX1_firstOfLongest 103 = .ok (.bipush (-2), 2) := by decide +kernel
theorem dX1_firstOfLongest_105 : decode cX1_firstOfLongest 105 = .ok (.ireturn, 1) := by decide +kernel
theorem dX1_isFlightFrom_0 : decode cX1_isFlightFrom 0 = .ok (.aload_n 0, 1) := by decide +kernel
theorem dX1_isFlightFrom_1 : decode cX1_isFlightFrom 1 = .ok (.iload_n 1, 1) := by decide +kernel
theorem dX1_isFlightFrom_2 : decode cX1_isFlightFrom 2 = .ok (.invokevirtual 62, 3) := by decide +kernel
theorem dX1_isFlightFrom_5 : decode cX1_isFlightFrom 5 = .ok (.ifCond .eq 26, 3) := by decide +kernel
theorem dX1_isFlightFrom_8 : decode cX1_isFlightFrom 8 = .ok (.aload_n 0, 1) := by decide +kernel
theorem dX1_isFlightFrom_9 : decode cX1_isFlightFrom 9 = .ok (.getfield 24, 3) := by decide +kernel
theorem dX1_isFlightFrom_12 : decode cX1_isFlightFrom 12 = .ok (.iload_n 1, 1) := by decide +kernel
theorem dX1_isFlightFrom_13 : decode cX1_isFlightFrom 13 = .ok (.iaload, 1) := by decide +kernel
theorem dX1_isFlightFrom_14 : decode cX1_isFlightFrom 14 = .ok (.ifCond .ne 17, 3) := by decide +kernel
theorem dX1_isFlightFrom_17 : decode cX1_isFlightFrom 17 = .ok (.aload_n 0, 1) := by decide +kernel
theorem dX1_isFlightFrom_18 : decode cX1_isFlightFrom 18 = .ok (.getfield 15, 3) := by decide +kernel
theorem dX1_isFlightFrom_21 : decode cX1_isFlightFrom 21 = .ok (.iload_n 1, 1) := by decide +kernel
theorem dX1_isFlightFrom_22 : decode cX1_isFlightFrom 22 = .ok (.iaload, 1) := by decide +kernel
theorem dX1_isFlightFrom_23 : decode cX1_isFlightFrom 23 = .ok (.iload_n 2, 1) := by decide +kernel
theorem dX1_isFlightFrom_24 : decode cX1_isFlightFrom 24 = .ok (.if_icmp .ne 7, 3) := by decide +kernel
theorem dX1_isFlightFrom_27 : decode cX1_isFlightFrom 27 = .ok (.iconst 1, 1) := by decide +kernel
theorem dX1_isFlightFrom_28 : decode cX1_isFlightFrom 28 = .ok (.goto 4, 3) := by decide +kernel
theorem dX1_isFlightFrom_31 : decode cX1_isFlightFrom 31 = .ok (.iconst 0, 1) := by decide +kernel
theorem dX1_isFlightFrom_32 : decode cX1_isFlightFrom 32 = .ok (.ireturn, 1) := by decide +kernel
theorem dX1_twos_0 : decode cX1_twos 0 = .ok (.iconst 0, 1) := by decide +kernel
theorem dX1_twos_1 : decode cX1_twos 1 = .ok (.istore_n 3, 1) := by decide +kernel
theorem dX1_twos_2 : decode cX1_twos 2 = .ok (.iload_n 3, 1) := by decide +kernel
theorem dX1_twos_3 : decode cX1_twos 3 = .ok (.aload_n 0, 1) := by decide +kernel
theorem dX1_twos_4 : decode cX1_twos 4 = .ok (.getfield 36, 3) := by decide +kernel
theorem dX1_twos_7 : decode cX1_twos 7 = .ok (.if_icmp .ge 21, 3) := by decide +kernel
theorem dX1_twos_10 : decode cX1_twos 10 = .ok (.iload_n 3, 1) := by decide +kernel
theorem dX1_twos_11 : decode cX1_twos 11 = .ok (.aload_n 2, 1) := by decide +kernel
theorem dX1_twos_12 : decode cX1_twos 12 = .ok (.arraylength, 1) := by decide +kernel
theorem dX1_twos_13 : decode cX1_twos 13 = .ok (.if_icmp .ge 15, 3) := by decide +kernel
theorem dX1_twos_16 : decode cX1_twos 16 = .ok (.aload_n 2, 1) := by decide +kernel
theorem dX1_twos_17 : decode cX1_twos 17 = .ok (.iload_n 3, 1) := by decide +kernel
theorem dX1_twos_18 : decode cX1_twos 18 = .ok (.iconst 1, 1) := by decide +kernel
theorem dX1_twos_19 : decode cX1_twos 19 = .ok (.iload_n 3, 1) := by decide +kernel
theorem dX1_twos_20 : decode cX1_twos 20 = .ok (.ishl, 1) := by decide +kernel
theorem dX1_twos_21 : decode cX1_twos 21 = .ok (.iastore, 1) := by decide +kernel
theorem dX1_twos_22 : decode cX1_twos 22 = .ok (.iinc 3 1, 3) := by decide +kernel
theorem dX1_twos_25 : decode cX1_twos 25 = .ok (.goto (-23), 3) := by decide +kernel
theorem dX1_twos_28 : decode cX1_twos 28 = .ok (.iconst 1, 1) := by decide +kernel
theorem dX1_twos_29 : decode cX1_twos 29 = .ok (.istore_n 3, 1) := by decide +kernel
theorem dX1_twos_30 : decode cX1_twos 30 = .ok (.iconst 0, 1) := by decide +kernel
theorem dX1_twos_31 : decode cX1_twos 31 = .ok (.istore 4, 2) := by decide +kernel
theorem dX1_twos_33 : decode cX1_twos 33 = .ok (.iload 4, 2) := by decide +kernel
theorem dX1_twos_35 : decode cX1_twos 35 = .ok (.bipush 16, 2) := by decide +kernel
theorem dX1_twos_37 : decode cX1_twos 37 = .ok (.if_icmp .gt 99, 3) := by decide +kernel
theorem dX1_twos_40 : decode cX1_twos 40 = .ok (.iload_n 3, 1) := by decide +kernel
theorem dX1_twos_41 : decode cX1_twos 41 = .ok (.ifCond .eq 95, 3) := by decide +kernel
theorem dX1_twos_44 : decode cX1_twos 44 = .ok (.iconst 0, 1) := by decide +kernel
theorem dX1_twos_45 : decode cX1_twos 45 = .ok (.istore_n 3, 1) := by decide +kernel
theorem dX1_twos_46 : decode cX1_twos 46 = .ok (.iconst 0, 1) := by decide +kernel
theorem dX1_twos_47 : decode cX1_twos 47 = .ok (.istore 5, 2) := by decide +kernel
theorem dX1_twos_49 : decode cX1_twos 49 = .ok (.iload 5, 2) := by decide +kernel
theorem dX1_twos_51 : decode cX1_twos 51 = .ok (.aload_n 0, 1) := by decide +kernel
theorem dX1_twos_52 : decode cX1_twos 52 = .ok (.getfield 40, 3) := by decide +kernel
theorem dX1_twos_55 : decode cX1_twos 55 = .ok (.if_icmp .ge 75, 3) := by decide +kernel
theorem dX1_twos_58 : decode cX1_twos 58 = .ok (.iload 5, 2) := by decide +kernel
theorem dX1_twos_60 : decode cX1_twos 60 = .ok (.bipush 24, 2) := by decide +kernel
theorem dX1_twos_62 : decode cX1_twos 62 = .ok (.if_icmp .ge 68, 3) := by decide +kernel
theorem dX1_twos_65 : decode cX1_twos 65 = .ok (.iload_n 3, 1) := by decide +kernel
theorem dX1_twos_66 : decode cX1_twos 66 = .ok (.aload_n 0, 1) := by decide +kernel
theorem dX1_twos_67 : decode cX1_twos 67 = .ok (.getfield 15, 3) := by decide +kernel
theorem dX1_twos_70 : decode cX1_twos 70 = .ok (.iload 5, 2) := by decide +kernel
theorem dX1_twos_72 : decode cX1_twos 72 = .ok (.iaload, 1) := by decide +kernel
theorem dX1_twos_73 : decode cX1_twos 73 = .ok (.aload_n 0, 1) := by decide +kernel
theorem dX1_twos_74 : decode cX1_twos 74 = .ok (.getfield 18, 3) := by decide +kernel
theorem dX1_twos_77 : decode cX1_twos 77 = .ok (.iload 5, 2) := by decide +kernel
theorem dX1_twos_79 : decode cX1_twos 79 = .ok (.iaload, 1) := by decide +kernel
theorem dX1_twos_80 : decode cX1_twos 80 = .ok (.aload_n 2, 1) := by decide +kernel
theorem dX1_twos_81 : decode cX1_twos 81 = .ok (.invokestatic 87, 3) := by decide +kernel
theorem dX1_twos_84 : decode cX1_twos 84 = .ok (.ior, 1) := by decide +kernel
theorem dX1_twos_85 : decode cX1_twos 85 = .ok (.istore_n 3, 1) := by decide +kernel
theorem dX1_twos_86 : decode cX1_twos 86 = .ok (.aload_n 0, 1) := by decide +kernel
theorem dX1_twos_87 : decode cX1_twos 87 = .ok (.getfield 24, 3) := by decide +kernel
theorem dX1_twos_90 : decode cX1_twos 90 = .ok (.iload 5, 2) := by decide +kernel
theorem dX1_twos_92 : decode cX1_twos 92 = .ok (.iaload, 1) := by decide +kernel
theorem dX1_twos_93 : decode cX1_twos 93 = .ok (.iconst 1, 1) := by decide +kernel
theorem dX1_twos_94 : decode cX1_twos 94 = .ok (.if_icmp .eq 9, 3) := by decide +kernel
theorem dX1_twos_97 : decode cX1_twos 97 = .ok (.iload 5, 2) := by decide +kernel
theorem dX1_twos_99 : decode cX1_twos 99 = .ok (.iload_n 1, 1) := by decide +kernel
theorem dX1_twos_100 : decode cX1_twos 100 = .ok (.if_icmp .ne 24, 3) := by decide +kernel
theorem dX1_twos_103 : decode cX1_twos 103 = .ok (.iload_n 3, 1) := by decide +kernel
theorem dX1_twos_104 : decode cX1_twos 104 = .ok (.aload_n 0, 1) := by decide +kernel
theorem dX1_twos_105 : decode cX1_twos 105 = .ok (.getfield 18, 3) := by decide +kernel
theorem dX1_twos_108 : decode cX1_twos 108 = .ok (.iload 5, 2) := by decide +kernel
theorem dX1_twos_110 : decode cX1_twos 110 = .ok (.iaload, 1) := by decide +kernel
theorem dX1_twos_111 : decode cX1_twos 111 = .ok (.aload_n 0, 1) := by decide +kernel
theorem dX1_twos_112 : decode cX1_twos 112 = .ok (.getfield 15, 3) := by decide +kernel
theorem dX1_twos_115 : decode cX1_twos 115 = .ok (.iload 5, 2) := by decide +kernel
theorem dX1_twos_117 : decode cX1_twos 117 = .ok (.iaload, 1) := by decide +kernel
theorem dX1_twos_118 : decode cX1_twos 118 = .ok (.aload_n 2, 1) := by decide +kernel
theorem dX1_twos_119 : decode cX1_twos 119 = .ok (.invokestatic 87, 3) := by decide +kernel
theorem dX1_twos_122 : decode cX1_twos 122 = .ok (.ior, 1) := by decide +kernel
theorem dX1_twos_123 : decode cX1_twos 123 = .ok (.istore_n 3, 1) := by decide +kernel
theorem dX1_twos_124 : decode cX1_twos 124 = .ok (.iinc 5 1, 3) := by decide +kernel
theorem dX1_twos_127 : decode cX1_twos 127 = .ok (.goto (-78), 3) := by decide +kernel
theorem dX1_twos_130 : decode cX1_twos 130 = .ok (.iinc 4 1, 3) := by decide +kernel
theorem dX1_twos_133 : decode cX1_twos 133 = .ok (.goto (-100), 3) := by decide +kernel
theorem dX1_twos_136 : decode cX1_twos 136 = .ok (.iconst 0, 1) := by decide +kernel
theorem dX1_twos_137 : decode cX1_twos 137 = .ok (.istore 4, 2) := by decide +kernel
theorem dX1_twos_139 : decode cX1_twos 139 = .ok (.iconst 0, 1) := by decide +kernel
theorem dX1_twos_140 : decode cX1_twos 140 = .ok (.istore 5, 2) := by decide +kernel
theorem dX1_twos_142 : decode cX1_twos 142 = .ok (.iload 5, 2) := by decide +kernel
theorem dX1_twos_144 : decode cX1_twos 144 = .ok (.aload_n 0, 1) := by decide +kernel
theorem dX1_twos_145 : decode cX1_twos 145 = .ok (.getfield 36, 3) := by decide +kernel
theorem dX1_twos_148 : decode cX1_twos 148 = .ok (.if_icmp .ge 30, 3) := by decide +kernel
theorem dX1_twos_151 : decode cX1_twos 151 = .ok (.iload 5, 2) := by decide +kernel
theorem dX1_twos_153 : decode cX1_twos 153 = .ok (.aload_n 2, 1) := by decide +kernel
theorem dX1_twos_154 : decode cX1_twos 154 = .ok (.arraylength, 1) := by decide +kernel
theorem dX1_twos_155 : decode cX1_twos 155 = .ok (.if_icmp .ge 23, 3) := by decide +kernel
theorem dX1_twos_158 : decode cX1_twos 158 = .ok (.iload 4, 2) := by decide +kernel
theorem dX1_twos_160 : decode cX1_twos 160 = .ok (.aload_n 2, 1) := by decide +kernel
theorem dX1_twos_161 : decode cX1_twos 161 = .ok (.iload 5, 2) := by decide +kernel
theorem dX1_twos_163 : decode cX1_twos 163 = .ok (.iaload, 1) := by decide +kernel
theorem dX1_twos_164 : decode cX1_twos 164 = .ok (.invokestatic 91, 3) := by decide +kernel
theorem dX1_twos_167 : decode cX1_twos 167 = .ok (.iconst 1, 1) := by decide +kernel
theorem dX1_twos_168 : decode cX1_twos 168 = .ok (.isub, 1) := by decide +kernel
theorem dX1_twos_169 : decode cX1_twos 169 = .ok (.iadd, 1) := by decide +kernel
theorem dX1_twos_170 : decode cX1_twos 170 = .ok (.istore 4, 2) := by decide +kernel
theorem dX1_twos_172 : decode cX1_twos 172 = .ok (.iinc 5 1, 3) := by decide +kernel
theorem dX1_twos_175 : decode cX1_twos 175 = .ok (.goto (-33), 3) := by decide +kernel
theorem dX1_twos_178 : decode cX1_twos 178 = .ok (.iload 4, 2) := by decide +kernel
theorem dX1_twos_180 : decode cX1_twos 180 = .ok (.ireturn, 1) := by decide +kernel
theorem dX1_widen_0 : decode cX1_widen 0 = .ok (.iload_n 0, 1) := by decide +kernel
theorem dX1_widen_1 : decode cX1_widen 1 = .ok (.ifCond .lt 19, 3) := by decide +kernel
theorem dX1_widen_4 : decode cX1_widen 4 = .ok (.iload_n 0, 1) := by decide +kernel
theorem dX1_widen_5 : decode cX1_widen 5 = .ok (.aload_n 2, 1) := by decide +kernel
theorem dX1_widen_6 : decode cX1_widen 6 = .ok (.arraylength, 1) := by decide +kernel
theorem dX1_widen_7 : decode cX1_widen 7 = .ok (.if_icmp .ge 13, 3) := by decide +kernel
theorem dX1_widen_10 : decode cX1_widen 10 = .ok (.iload_n 1, 1) := by decide +kernel
theorem dX1_widen_11 : decode cX1_widen 11 = .ok (.ifCond .lt 9, 3) := by decide +kernel
theorem dX1_widen_14 : decode cX1_widen 14 = .ok (.iload_n 1, 1) := by decide +kernel
theorem dX1_widen_15 : decode cX1_widen 15 = .ok (.aload_n 2, 1) := by decide +kernel
theorem dX1_widen_16 : decode cX1_widen 16 = .ok (.arraylength, 1) := by decide +kernel
theorem dX1_widen_17 : decode cX1_widen 17 = .ok (.if_icmp .lt 5, 3) := by decide +kernel
theorem dX1_widen_20 : decode cX1_widen 20 = .ok (.iconst 0, 1) := by decide +kernel
theorem dX1_widen_21 : decode cX1_widen 21 = .ok (.ireturn, 1) := by decide +kernel
theorem dX1_widen_22 : decode cX1_widen 22 = .ok (.aload_n 2, 1) := by decide +kernel
theorem dX1_widen_23 : decode cX1_widen 23 = .ok (.iload_n 0, 1) := by decide +kernel
theorem dX1_widen_24 : decode cX1_widen 24 = .ok (.iaload, 1) := by decide +kernel
theorem dX1_widen_25 : decode cX1_widen 25 = .ok (.istore_n 3, 1) := by decide +kernel
theorem dX1_widen_26 : decode cX1_widen 26 = .ok (.aload_n 2, 1) := by decide +kernel
theorem dX1_widen_27 : decode cX1_widen 27 = .ok (.iload_n 0, 1) := by decide +kernel
theorem dX1_widen_28 : decode cX1_widen 28 = .ok (.iload_n 3, 1) := by decide +kernel
theorem dX1_widen_29 : decode cX1_widen 29 = .ok (.aload_n 2, 1) := by decide +kernel
theorem dX1_widen_30 : decode cX1_widen 30 = .ok (.iload_n 1, 1) := by decide +kernel
theorem dX1_widen_31 : decode cX1_widen 31 = .ok (.iaload, 1) := by decide +kernel
theorem dX1_widen_32 : decode cX1_widen 32 = .ok (.ior, 1) := by decide +kernel
theorem dX1_widen_33 : decode cX1_widen 33 = .ok (.iastore, 1) := by decide +kernel
theorem dX1_widen_34 : decode cX1_widen 34 = .ok (.aload_n 2, 1) := by decide +kernel
theorem dX1_widen_35 : decode cX1_widen 35 = .ok (.iload_n 0, 1) := by decide +kernel
theorem dX1_widen_36 : decode cX1_widen 36 = .ok (.iaload, 1) := by decide +kernel
theorem dX1_widen_37 : decode cX1_widen 37 = .ok (.iload_n 3, 1) := by decide +kernel
theorem dX1_widen_38 : decode cX1_widen 38 = .ok (.if_icmp .eq 7, 3) := by decide +kernel
theorem dX1_widen_41 : decode cX1_widen 41 = .ok (.iconst 1, 1) := by decide +kernel
theorem dX1_widen_42 : decode cX1_widen 42 = .ok (.goto 4, 3) := by decide +kernel
theorem dX1_widen_45 : decode cX1_widen 45 = .ok (.iconst 0, 1) := by decide +kernel
theorem dX1_widen_46 : decode cX1_widen 46 = .ok (.ireturn, 1) := by decide +kernel
theorem dX2_init_0 : decode cX2_init 0 = .ok (.aload_n 0, 1) := by decide +kernel
theorem dX2_init_1 : decode cX2_init 1 = .ok (.invokespecial 3, 3) := by decide +kernel
theorem dX2_init_4 : decode cX2_init 4 = .ok (.aload_n 0, 1) := by decide +kernel
theorem dX2_init_5 : decode cX2_init 5 = .ok (.aload_n 1, 1) := by decide +kernel
theorem dX2_init_6 : decode cX2_init 6 = .ok (.putfield 9, 3) := by decide +kernel
theorem dX2_init_9 : decode cX2_init 9 = .ok (.aload_n 0, 1) := by decide +kernel
theorem dX2_init_10 : decode cX2_init 10 = .ok (.aload_n 2, 1) := by decide +kernel
theorem dX2_init_11 : decode cX2_init 11 = .ok (.putfield 15, 3) := by decide +kernel
theorem dX2_init_14 : decode cX2_init 14 = .ok (.return_, 1) := by decide +kernel
theorem dX2_readAll_0 : decode cX2_readAll 0 = .ok (.aload_n 0, 1) := by decide +kernel
theorem dX2_readAll_1 : decode cX2_readAll 1 = .ok (.getfield 15, 3) := by decide +kernel
theorem dX2_readAll_4 : decode cX2_readAll 4 = .ok (.invokevirtual 19, 3) := by decide +kernel
theorem dX2_readAll_7 : decode cX2_readAll 7 = .ok (.aload_n 0, 1) := by decide +kernel
theorem dX2_readAll_8 : decode cX2_readAll 8 = .ok (.iconst 0, 1) := by decide +kernel
theorem dX2_readAll_9 : decode cX2_readAll 9 = .ok (.putfield 24, 3) := by decide +kernel
theorem dX2_readAll_12 : decode cX2_readAll 12 = .ok (.aload_n 0, 1) := by decide +kernel
theorem dX2_readAll_13 : decode cX2_readAll 13 = .ok (.getfield 9, 3) := by decide +kernel
theorem dX2_readAll_16 : decode cX2_readAll 16 = .ok (.invokevirtual 28, 3) := by decide +kernel
theorem dX2_readAll_19 : decode cX2_readAll 19 = .ok (.iconst 0, 1) := by decide +kernel
theorem dX2_readAll_20 : decode cX2_readAll 20 = .ok (.istore_n 1, 1) := by decide +kernel
theorem dX2_readAll_21 : decode cX2_readAll 21 = .ok (.iload_n 1, 1) := by decide +kernel
theorem dX2_readAll_22 : decode cX2_readAll 22 = .ok (.bipush 40, 2) := by decide +kernel
theorem dX2_readAll_24 : decode cX2_readAll 24 = .ok (.if_icmp .gt 69, 3) := by decide +kernel
theorem dX2_readAll_27 : decode cX2_readAll 27 = .ok (.aload_n 0, 1) := by decide +kernel
theorem dX2_readAll_28 : decode cX2_readAll 28 = .ok (.invokevirtual 33, 3) := by decide +kernel
theorem dX2_readAll_31 : decode cX2_readAll 31 = .ok (.ifCond .ne 5, 3) := by decide +kernel
theorem dX2_readAll_34 : decode cX2_readAll 34 = .ok (.iconst 0, 1) := by decide +kernel
theorem dX2_readAll_35 : decode cX2_readAll 35 = .ok (.ireturn, 1) := by decide +kernel
theorem dX2_readAll_36 : decode cX2_readAll 36 = .ok (.aload_n 0, 1) := by decide +kernel
theorem dX2_readAll_37 : decode cX2_readAll 37 = .ok (.getfield 9, 3) := by decide +kernel
theorem dX2_readAll_40 : decode cX2_readAll 40 = .ok (.getfield 37, 3) := by decide +kernel
theorem dX2_readAll_43 : decode cX2_readAll 43 = .ok (.ifCond .ne 30, 3) := by decide +kernel
theorem dX2_readAll_46 : decode cX2_readAll 46 = .ok (.aload_n 0, 1) := by decide +kernel
theorem dX2_readAll_47 : decode cX2_readAll 47 = .ok (.getfield 15, 3) := by decide +kernel
theorem dX2_readAll_50 : decode cX2_readAll 50 = .ok (.getfield 40, 3) := by decide +kernel
theorem dX2_readAll_53 : decode cX2_readAll 53 = .ok (.ifCond .gt 14, 3) := by decide +kernel
theorem dX2_readAll_56 : decode cX2_readAll 56 = .ok (.aload_n 0, 1) := by decide +kernel
theorem dX2_readAll_57 : decode cX2_readAll 57 = .ok (.getfield 9, 3) := by decide +kernel
theorem dX2_readAll_60 : decode cX2_readAll 60 = .ok (.iconst 0, 1) := by decide +kernel
theorem dX2_readAll_61 : decode cX2_readAll 61 = .ok (.invokevirtual 43, 3) := by decide +kernel
theorem dX2_readAll_64 : decode cX2_readAll 64 = .ok (.ifCond .eq 7, 3) := by decide +kernel
theorem dX2_readAll_67 : decode cX2_readAll 67 = .ok (.iconst 1, 1) := by decide +kernel
theorem dX2_readAll_68 : decode cX2_readAll 68 = .ok (.goto 4, 3) := by decide +kernel
theorem dX2_readAll_71 : decode cX2_readAll 71 = .ok (.iconst 0, 1) := by decide +kernel
theorem dX2_readAll_72 : decode cX2_readAll 72 = .ok (.ireturn, 1) := by decide +kernel
theorem dX2_readAll_73 : decode cX2_readAll 73 = .ok (.aload_n 0, 1) := by decide +kernel
theorem dX2_readAll_74 : decode cX2_readAll 74 = .ok (.getfield 9, 3) := by decide +kernel
theorem dX2_readAll_77 : decode cX2_readAll 77 = .ok (.bipush 59, 2) := by decide +kernel
theorem dX2_readAll_79 : decode cX2_readAll 79 = .ok (.invokevirtual 47, 3) := by decide +kernel
theorem dX2_readAll_82 : decode cX2_readAll 82 = .ok (.ifCond .ne 5, 3) := by decide +kernel
theorem dX2_readAll_85 : decode cX2_readAll 85 = .ok (.iconst 0, 1) := by decide +kernel
theorem dX2_readAll_86 : decode cX2_readAll 86 = .ok (.ireturn, 1) := by decide +kernel
theorem dX2_readAll_87 : decode cX2_readAll 87 = .ok (.iinc 1 1, 3) := by decide +kernel
theorem dX2_readAll_90 : decode cX2_readAll 90 = .ok (.goto (-69), 3) := by decide +kernel
theorem dX2_readAll_93 : decode cX2_readAll 93 = .ok (.aload_n 0, 1) := by decide +kernel
theorem dX2_readAll_94 : decode cX2_readAll 94 = .ok (.getfield 9, 3) := by decide +kernel
theorem dX2_readAll_97 : decode cX2_readAll 97 = .ok (.iconst 4, 1) := by decide +kernel
theorem dX2_readAll_98 : decode cX2_readAll 98 = .ok (.invokevirtual 43, 3) := by decide +kernel
theorem dX2_readAll_101 : decode cX2_readAll 101 = .ok (.ireturn, 1) := by decide +kernel
theorem dX2_readClause_0 : decode cX2_readClause 0 = .ok (.aload_n 0, 1) := by decide +kernel
theorem dX2_readClause_1 : decode cX2_readClause 1 = .ok (.getfield 9, 3) := by decide +kernel
theorem dX2_readClause_4 : decode cX2_readClause 4 = .ok (.ldc 51, 2) := by decide +kernel
theorem dX2_readClause_6 : decode cX2_readClause 6 = .ok (.invokevirtual 53, 3) := by decide +kernel
theorem dX2_readClause_9 : decode cX2_readClause 9 = .ok (.ifCond .eq 40, 3) := by decide +kernel
theorem dX2_readClause_12 : decode cX2_readClause 12 = .ok (.aload_n 0, 1) := by decide +kernel
theorem dX2_readClause_13 : decode cX2_readClause 13 = .ok (.aload_n 0, 1) := by decide +kernel
theorem dX2_readClause_14 : decode cX2_readClause 14 = .ok (.getfield 15, 3) := by decide +kernel
theorem dX2_readClause_17 : decode cX2_readClause 17 = .ok (.getfield 40, 3) := by decide +kernel
theorem dX2_readClause_20 : decode cX2_readClause 20 = .ok (.bipush 16, 2) := by decide +kernel
theorem dX2_readClause_22 : decode cX2_readClause 22 = .ok (.if_icmp .ge 7, 3) := by decide +kernel
theorem dX2_readClause_25 : decode cX2_readClause 25 = .ok (.iconst 1, 1) := by decide +kernel
theorem dX2_readClause_26 : decode cX2_readClause 26 = .ok (.goto 4, 3) := by decide +kernel
theorem dX2_readClause_29 : decode cX2_readClause 29 = .ok (.iconst 0, 1) := by decide +kernel
theorem dX2_readClause_30 : decode cX2_readClause 30 = .ok (.invokevirtual 57, 3) := by decide +kernel
theorem dX2_readClause_33 : decode cX2_readClause 33 = .ok (.ifCond .eq 14, 3) := by decide +kernel
theorem dX2_readClause_36 : decode cX2_readClause 36 = .ok (.aload_n 0, 1) := by decide +kernel
theorem dX2_readClause_37 : decode cX2_readClause 37 = .ok (.invokevirtual 61, 3) := by decide +kernel
theorem dX2_readClause_40 : decode cX2_readClause 40 = .ok (.ifCond .eq 7, 3) := by decide +kernel
theorem dX2_readClause_43 : decode cX2_readClause 43 = .ok (.iconst 1, 1) := by decide +kernel
theorem dX2_readClause_44 : decode cX2_readClause 44 = .ok (.goto 4, 3) := by decide +kernel
theorem dX2_readClause_47 : decode cX2_readClause 47 = .ok (.iconst 0, 1) := by decide +kernel
theorem dX2_readClause_48 : decode cX2_readClause 48 = .ok (.ireturn, 1) := by decide +kernel
theorem dX2_readClause_49 : decode cX2_readClause 49 = .ok (.aload_n 0, 1) := by decide +kernel
theorem dX2_readClause_50 : decode cX2_readClause 50 = .ok (.getfield 9, 3) := by decide +kernel
theorem dX2_readClause_53 : decode cX2_readClause 53 = .ok (.ldc 64, 2) := by decide +kernel
theorem dX2_readClause_55 : decode cX2_readClause 55 = .ok (.invokevirtual 53, 3) := by decide +kernel
theorem dX2_readClause_58 : decode cX2_readClause 58 = .ok (.ifCond .eq 41, 3) := by decide +kernel
theorem dX2_readClause_61 : decode cX2_readClause 61 = .ok (.aload_n 0, 1) := by decide +kernel
theorem dX2_readClause_62 : decode cX2_readClause 62 = .ok (.aload_n 0, 1) := by decide +kernel
theorem dX2_readClause_63 : decode cX2_readClause 63 = .ok (.getfield 15, 3) := by decide +kernel
theorem dX2_readClause_66 : decode cX2_readClause 66 = .ok (.getfield 66, 3) := by decide +kernel
theorem dX2_readClause_69 : decode cX2_readClause 69 = .ok (.bipush 24, 2) := by decide +kernel
theorem dX2_readClause_71 : decode cX2_readClause 71 = .ok (.if_icmp .ge 7, 3) := by decide +kernel
theorem dX2_readClause_74 : decode cX2_readClause 74 = .ok (.iconst 1, 1) := by decide +kernel
theorem dX2_readClause_75 : decode cX2_readClause 75 = .ok (.goto 4, 3) := by decide +kernel
theorem dX2_readClause_78 : decode cX2_readClause 78 = .ok (.iconst 0, 1) := by decide +kernel
theorem dX2_readClause_79 : decode cX2_readClause 79 = .ok (.invokevirtual 57, 3) := by decide +kernel
theorem dX2_readClause_82 : decode cX2_readClause 82 = .ok (.ifCond .eq 15, 3) := by decide +kernel
theorem dX2_readClause_85 : decode cX2_readClause 85 = .ok (.aload_n 0, 1) := by decide +kernel
theorem dX2_readClause_86 : decode cX2_readClause 86 = .ok (.iconst 0, 1) := by decide +kernel
theorem dX2_readClause_87 : decode cX2_readClause 87 = .ok (.invokevirtual 69, 3) := by decide +kernel
theorem dX2_readClause_90 : decode cX2_readClause 90 = .ok (.ifCond .eq 7, 3) := by decide +kernel
theorem dX2_readClause_93 : decode cX2_readClause 93 = .ok (.iconst 1, 1) := by decide +kernel
theorem dX2_readClause_94 : decode cX2_readClause 94 = .ok (.goto 4, 3) := by decide +kernel
theorem dX2_readClause_97 : decode cX2_readClause 97 = .ok (.iconst 0, 1) := by decide +kernel
theorem dX2_readClause_98 : decode cX2_readClause 98 = .ok (.ireturn, 1) := by decide +kernel
theorem dX2_readClause_99 : decode cX2_readClause 99 = .ok (.aload_n 0, 1) := by decide +kernel
theorem dX2_readClause_100 : decode cX2_readClause 100 = .ok (.getfield 9, 3) := by decide +kernel
theorem dX2_readClause_103 : decode cX2_readClause 103 = .ok (.ldc 72, 2) := by decide +kernel
theorem dX2_readClause_105 : decode cX2_readClause 105 = .ok (.invokevirtual 53, 3) := by decide +kernel
theorem dX2_readClause_108 : decode cX2_readClause 108 = .ok (.ifCond .eq 41, 3) := by decide +kernel
theorem dX2_readClause_111 : decode cX2_readClause 111 = .ok (.aload_n 0, 1) := by decide +kernel
theorem dX2_readClause_112 : decode cX2_readClause 112 = .ok (.aload_n 0, 1) := by decide +kernel
theorem dX2_readClause_113 : decode cX2_readClause 113 = .ok (.getfield 15, 3) := by decide +kernel
theorem dX2_readClause_116 : decode cX2_readClause 116 = .ok (.getfield 66, 3) := by decide +kernel
theorem dX2_readClause_119 : decode cX2_readClause 119 = .ok (.bipush 24, 2) := by decide +kernel
theorem dX2_readClause_121 : decode cX2_readClause 121 = .ok (.if_icmp .ge 7, 3) := by decide +kernel
theorem dX2_readClause_124 : decode cX2_readClause 124 = .ok (.iconst 1, 1) := by decide +kernel
theorem dX2_readClause_125 : decode cX2_readClause 125 = .ok (.goto 4, 3) := by decide +kernel
theorem dX2_readClause_128 : decode cX2_readClause 128 = .ok (.iconst 0, 1) := by decide +kernel
theorem dX2_readClause_129 : decode cX2_readClause 129 = .ok (.invokevirtual 57, 3) := by decide +kernel
theorem dX2_readClause_132 : decode cX2_readClause 132 = .ok (.ifCond .eq 15, 3) := by decide +kernel
theorem dX2_readClause_135 : decode cX2_readClause 135 = .ok (.aload_n 0, 1) := by decide +kernel
theorem dX2_readClause_136 : decode cX2_readClause 136 = .ok (.iconst 1, 1) := by decide +kernel
theorem dX2_readClause_137 : decode cX2_readClause 137 = .ok (.invokevirtual 69, 3) := by decide +kernel
theorem dX2_readClause_140 : decode cX2_readClause 140 = .ok (.ifCond .eq 7, 3) := by decide +kernel
theorem dX2_readClause_143 : decode cX2_readClause 143 = .ok (.iconst 1, 1) := by decide +kernel
theorem dX2_readClause_144 : decode cX2_readClause 144 = .ok (.goto 4, 3) := by decide +kernel
theorem dX2_readClause_147 : decode cX2_readClause 147 = .ok (.iconst 0, 1) := by decide +kernel
theorem dX2_readClause_148 : decode cX2_readClause 148 = .ok (.ireturn, 1) := by decide +kernel
theorem dX2_readClause_149 : decode cX2_readClause 149 = .ok (.aload_n 0, 1) := by decide +kernel
theorem dX2_readClause_150 : decode cX2_readClause 150 = .ok (.getfield 9, 3) := by decide +kernel
theorem dX2_readClause_153 : decode cX2_readClause 153 = .ok (.ldc 74, 2) := by decide +kernel
theorem dX2_readClause_155 : decode cX2_readClause 155 = .ok (.invokevirtual 53, 3) := by decide +kernel
theorem dX2_readClause_158 : decode cX2_readClause 158 = .ok (.ifCond .eq 24, 3) := by decide +kernel
theorem dX2_readClause_161 : decode cX2_readClause 161 = .ok (.aload_n 0, 1) := by decide +kernel
theorem dX2_readClause_162 : decode cX2_readClause 162 = .ok (.iconst 1, 1) := by decide +kernel
theorem dX2_readClause_163 : decode cX2_readClause 163 = .ok (.invokevirtual 57, 3) := by decide +kernel
theorem dX2_readClause_166 : decode cX2_readClause 166 = .ok (.ifCond .eq 14, 3) := by decide +kernel
theorem dX2_readClause_169 : decode cX2_readClause 169 = .ok (.aload_n 0, 1) := by decide +kernel
theorem dX2_readClause_170 : decode cX2_readClause 170 = .ok (.invokevirtual 76, 3) := by decide +kernel
theorem dX2_readClause_173 : decode cX2_readClause 173 = .ok (.ifCond .eq 7, 3) := by decide +kernel
theorem dX2_readClause_176 : decode cX2_readClause 176 = .ok (.iconst 1, 1) := by decide +kernel
theorem dX2_readClause_177 : decode cX2_readClause 177 = .ok (.goto 4, 3) := by decide +kernel
theorem dX2_readClause_180 : decode cX2_readClause 180 = .ok (.iconst 0, 1) := by decide +kernel
theorem dX2_readClause_181 : decode cX2_readClause 181 = .ok (.ireturn, 1) := by decide +kernel
theorem dX2_readClause_182 : decode cX2_readClause 182 = .ok (.aload_n 0, 1) := by decide +kernel
theorem dX2_readClause_183 : decode cX2_readClause 183 = .ok (.getfield 9, 3) := by decide +kernel
theorem dX2_readClause_186 : decode cX2_readClause 186 = .ok (.ldc 79, 2) := by decide +kernel
theorem dX2_readClause_188 : decode cX2_readClause 188 = .ok (.invokevirtual 53, 3) := by decide +kernel
theorem dX2_readClause_191 : decode cX2_readClause 191 = .ok (.ifCond .eq 38, 3) := by decide +kernel
theorem dX2_readClause_194 : decode cX2_readClause 194 = .ok (.aload_n 0, 1) := by decide +kernel
theorem dX2_readClause_195 : decode cX2_readClause 195 = .ok (.aload_n 0, 1) := by decide +kernel
theorem dX2_readClause_196 : decode cX2_readClause 196 = .ok (.getfield 15, 3) := by decide +kernel
theorem dX2_readClause_199 : decode cX2_readClause 199 = .ok (.getfield 81, 3) := by decide +kernel
theorem dX2_readClause_202 : decode cX2_readClause 202 = .ok (.ifCond .ne 7, 3) := by decide +kernel
theorem dX2_readClause_205 : decode cX2_readClause 205 = .ok (.iconst 1, 1) := by decide +kernel
theorem dX2_readClause_206 : decode cX2_readClause 206 = .ok (.goto 4, 3) := by decide +kernel
theorem dX2_readClause_209 : decode cX2_readClause 209 = .ok (.iconst 0, 1) := by decide +kernel
theorem dX2_readClause_210 : decode cX2_readClause 210 = .ok (.invokevirtual 57, 3) := by decide +kernel
theorem dX2_readClause_213 : decode cX2_readClause 213 = .ok (.ifCond .eq 14, 3) := by decide +kernel
theorem dX2_readClause_216 : decode cX2_readClause 216 = .ok (.aload_n 0, 1) := by decide +kernel
theorem dX2_readClause_217 : decode cX2_readClause 217 = .ok (.invokevirtual 84, 3) := by decide +kernel
theorem dX2_readClause_220 : decode cX2_readClause 220 = .ok (.ifCond .eq 7, 3) := by decide +kernel
theorem dX2_readClause_223 : decode cX2_readClause 223 = .ok (.iconst 1, 1) := by decide +kernel
theorem dX2_readClause_224 : decode cX2_readClause 224 = .ok (.goto 4, 3) := by decide +kernel
theorem dX2_readClause_227 : decode cX2_readClause 227 = .ok (.iconst 0, 1) := by decide +kernel
theorem dX2_readClause_228 : decode cX2_readClause 228 = .ok (.ireturn, 1) := by decide +kernel
theorem dX2_readClause_229 : decode cX2_readClause 229 = .ok (.aload_n 0, 1) := by decide +kernel
theorem dX2_readClause_230 : decode cX2_readClause 230 = .ok (.getfield 9, 3) := by decide +kernel
theorem dX2_readClause_233 : decode cX2_readClause 233 = .ok (.ldc 87, 2) := by decide +kernel
theorem dX2_readClause_235 : decode cX2_readClause 235 = .ok (.invokevirtual 53, 3) := by decide +kernel
theorem dX2_readClause_238 : decode cX2_readClause 238 = .ok (.ifCond .eq 40, 3) := by decide +kernel
theorem dX2_readClause_241 : decode cX2_readClause 241 = .ok (.aload_n 0, 1) := by decide +kernel
theorem dX2_readClause_242 : decode cX2_readClause 242 = .ok (.aload_n 0, 1) := by decide +kernel
theorem dX2_readClause_243 : decode cX2_readClause 243 = .ok (.getfield 15, 3) := by decide +kernel
theorem dX2_readClause_246 : decode cX2_readClause 246 = .ok (.getfield 89, 3) := by decide +kernel
theorem dX2_readClause_249 : decode cX2_readClause 249 = .ok (.bipush 8, 2) := by decide +kernel
theorem dX2_readClause_251 : decode cX2_readClause 251 = .ok (.if_icmp .ge 7, 3) := by decide +kernel
theorem dX2_readClause_254 : decode cX2_readClause 254 = .ok (.iconst 1, 1) := by decide +kernel
theorem dX2_readClause_255 : decode cX2_readClause 255 = .ok (.goto 4, 3) := by decide +kernel
theorem dX2_readClause_258 : decode cX2_readClause 258 = .ok (.iconst 0, 1) := by decide +kernel
theorem dX2_readClause_259 : decode cX2_readClause 259 = .ok (.invokevirtual 57, 3) := by decide +kernel
theorem dX2_readClause_262 : decode cX2_readClause 262 = .ok (.ifCond .eq 14, 3) := by decide +kernel
theorem dX2_readClause_265 : decode cX2_readClause 265 = .ok (.aload_n 0, 1) := by decide +kernel
theorem dX2_readClause_266 : decode cX2_readClause 266 = .ok (.invokevirtual 92, 3) := by decide +kernel
theorem dX2_readClause_269 : decode cX2_readClause 269 = .ok (.ifCond .eq 7, 3) := by decide +kernel
theorem dX2_readClause_272 : decode cX2_readClause 272 = .ok (.iconst 1, 1) := by decide +kernel
theorem dX2_readClause_273 : decode cX2_readClause 273 = .ok (.goto 4, 3) := by decide +kernel
theorem dX2_readClause_276 : decode cX2_readClause 276 = .ok (.iconst 0, 1) := by decide +kernel
theorem dX2_readClause_277 : decode cX2_readClause 277 = .ok (.ireturn, 1) := by decide +kernel
theorem dX2_readClause_278 : decode cX2_readClause 278 = .ok (.aload_n 0, 1) := by decide +kernel
theorem dX2_readClause_279 : decode cX2_readClause 279 = .ok (.getfield 9, 3) := by decide +kernel
theorem dX2_readClause_282 : decode cX2_readClause 282 = .ok (.iconst 0, 1) := by decide +kernel
theorem dX2_readClause_283 : decode cX2_readClause 283 = .ok (.invokevirtual 43, 3) := by decide +kernel
theorem dX2_readClause_286 : decode cX2_readClause 286 = .ok (.ireturn, 1) := by decide +kernel
theorem dX2_opens_0 : decode cX2_opens 0 = .ok (.iload_n 1, 1) := by decide +kernel
theorem dX2_opens_1 : decode cX2_opens 1 = .ok (.ifCond .eq 12, 3) := by decide +kernel
theorem dX2_opens_4 : decode cX2_opens 4 = .ok (.aload_n 0, 1) := by decide +kernel
theorem dX2_opens_5 : decode cX2_opens 5 = .ok (.getfield 24, 3) := by decide +kernel
theorem dX2_opens_8 : decode cX2_opens 8 = .ok (.bipush 40, 2) := by decide +kernel
theorem dX2_opens_10 : decode cX2_opens 10 = .ok (.if_icmp .lt 12, 3) := by decide +kernel
theorem dX2_opens_13 : decode cX2_opens 13 = .ok (.aload_n 0, 1) := by decide +kernel
theorem dX2_opens_14 : decode cX2_opens 14 = .ok (.getfield 9, 3) := by decide +kernel
theorem dX2_opens_17 : decode cX2_opens 17 = .ok (.iconst 4, 1) := by decide +kernel
theorem dX2_opens_18 : decode cX2_opens 18 = .ok (.invokevirtual 43, 3) := by decide +kernel
theorem dX2_opens_21 : decode cX2_opens 21 = .ok (.ireturn, 1) := by decide +kernel
theorem dX2_opens_22 : decode cX2_opens 22 = .ok (.aload_n 0, 1) := by decide +kernel
theorem dX2_opens_23 : decode cX2_opens 23 = .ok (.dup, 1) := by decide +kernel
theorem dX2_opens_24 : decode cX2_opens 24 = .ok (.getfield 24, 3) := by decide +kernel
theorem dX2_opens_27 : decode cX2_opens 27 = .ok (.iconst 1, 1) := by decide +kernel
theorem dX2_opens_28 : decode cX2_opens 28 = .ok (.iadd, 1) := by decide +kernel
theorem dX2_opens_29 : decode cX2_opens 29 = .ok (.putfield 24, 3) := by decide +kernel
theorem dX2_opens_32 : decode cX2_opens 32 = .ok (.aload_n 0, 1) := by decide +kernel
theorem dX2_opens_33 : decode cX2_opens 33 = .ok (.getfield 9, 3) := by decide +kernel
theorem dX2_opens_36 : decode cX2_opens 36 = .ok (.invokevirtual 95, 3) := by decide +kernel
theorem dX2_opens_39 : decode cX2_opens 39 = .ok (.iconst 1, 1) := by decide +kernel
theorem dX2_opens_40 : decode cX2_opens 40 = .ok (.ireturn, 1) := by decide +kernel
theorem dX2_readRoom_0 : decode cX2_readRoom 0 = .ok (.aload_n 0, 1) := by decide +kernel
theorem dX2_readRoom_1 : decode cX2_readRoom 1 = .ok (.getfield 9, 3) := by decide +kernel
theorem dX2_readRoom_4 : decode cX2_readRoom 4 = .ok (.iconst 0, 1) := by decide +kernel
theorem dX2_readRoom_5 : decode cX2_readRoom 5 = .ok (.bipush 40, 2) := by decide +kernel
theorem dX2_readRoom_7 : decode cX2_readRoom 7 = .ok (.invokevirtual 98, 3) := by decide +kernel
theorem dX2_readRoom_10 : decode cX2_readRoom 10 = .ok (.ifCond .eq 15, 3) := by decide +kernel
theorem dX2_readRoom_13 : decode cX2_readRoom 13 = .ok (.aload_n 0, 1) := by decide +kernel
theorem dX2_readRoom_14 : decode cX2_readRoom 14 = .ok (.getfield 15, 3) := by decide +kernel
theorem dX2_readRoom_17 : decode cX2_readRoom 17 = .ok (.getfield 40, 3) := by decide +kernel
theorem dX2_readRoom_20 : decode cX2_readRoom 20 = .ok (.bipush 16, 2) := by decide +kernel
theorem dX2_readRoom_22 : decode cX2_readRoom 22 = .ok (.if_icmp .lt 5, 3) := by decide +kernel
theorem dX2_readRoom_25 : decode cX2_readRoom 25 = .ok (.iconst 0, 1) := by decide +kernel
theorem dX2_readRoom_26 : decode cX2_readRoom 26 = .ok (.ireturn, 1) := by decide +kernel
theorem dX2_readRoom_27 : decode cX2_readRoom 27 = .ok (.aload_n 0, 1) := by decide +kernel
theorem dX2_readRoom_28 : decode cX2_readRoom 28 = .ok (.getfield 15, 3) := by decide +kernel
theorem dX2_readRoom_31 : decode cX2_readRoom 31 = .ok (.getfield 102, 3) := by decide +kernel
theorem dX2_readRoom_34 : decode cX2_readRoom 34 = .ok (.aload_n 0, 1) := by decide +kernel
theorem dX2_readRoom_35 : decode cX2_readRoom 35 = .ok (.getfield 15, 3) := by decide +kernel
theorem dX2_readRoom_38 : decode cX2_readRoom 38 = .ok (.getfield 40, 3) := by decide +kernel
theorem dX2_readRoom_41 : decode cX2_readRoom 41 = .ok (.aload_n 0, 1) := by decide +kernel
theorem dX2_readRoom_42 : decode cX2_readRoom 42 = .ok (.getfield 9, 3) := by decide +kernel
theorem dX2_readRoom_45 : decode cX2_readRoom 45 = .ok (.invokevirtual 106, 3) := by decide +kernel
theorem dX2_readRoom_48 : decode cX2_readRoom 48 = .ok (.iastore, 1) := by decide +kernel
theorem dX2_readRoom_49 : decode cX2_readRoom 49 = .ok (.aload_n 0, 1) := by decide +kernel
theorem dX2_readRoom_50 : decode cX2_readRoom 50 = .ok (.getfield 15, 3) := by decide +kernel
theorem dX2_readRoom_53 : decode cX2_readRoom 53 = .ok (.dup, 1) := by decide +kernel
theorem dX2_readRoom_54 : decode cX2_readRoom 54 = .ok (.getfield 40, 3) := by decide +kernel
theorem dX2_readRoom_57 : decode cX2_readRoom 57 = .ok (.iconst 1, 1) := by decide +kernel
theorem dX2_readRoom_58 : decode cX2_readRoom 58 = .ok (.iadd, 1) := by decide +kernel
theorem dX2_readRoom_59 : decode cX2_readRoom 59 = .ok (.putfield 40, 3) := by decide +kernel
theorem dX2_readRoom_62 : decode cX2_readRoom 62 = .ok (.aload_n 0, 1) := by decide +kernel
theorem dX2_readRoom_63 : decode cX2_readRoom 63 = .ok (.getfield 15, 3) := by decide +kernel
theorem dX2_readRoom_66 : decode cX2_readRoom 66 = .ok (.getfield 102, 3) := by decide +kernel
theorem dX2_readRoom_69 : decode cX2_readRoom 69 = .ok (.aload_n 0, 1) := by decide +kernel
theorem dX2_readRoom_70 : decode cX2_readRoom 70 = .ok (.getfield 15, 3) := by decide +kernel
theorem dX2_readRoom_73 : decode cX2_readRoom 73 = .ok (.getfield 40, 3) := by decide +kernel
theorem dX2_readRoom_76 : decode cX2_readRoom 76 = .ok (.iconst 1, 1) := by decide +kernel
theorem dX2_readRoom_77 : decode cX2_readRoom 77 = .ok (.isub, 1) := by decide +kernel
theorem dX2_readRoom_78 : decode cX2_readRoom 78 = .ok (.iaload, 1) := by decide +kernel
theorem dX2_readRoom_79 : decode cX2_readRoom 79 = .ok (.aload_n 0, 1) := by decide +kernel
theorem dX2_readRoom_80 : decode cX2_readRoom 80 = .ok (.getfield 15, 3) := by decide +kernel
theorem dX2_readRoom_83 : decode cX2_readRoom 83 = .ok (.getfield 102, 3) := by decide +kernel
theorem dX2_readRoom_86 : decode cX2_readRoom 86 = .ok (.aload_n 0, 1) := by decide +kernel
theorem dX2_readRoom_87 : decode cX2_readRoom 87 = .ok (.getfield 15, 3) := by decide +kernel
theorem dX2_readRoom_90 : decode cX2_readRoom 90 = .ok (.getfield 110, 3) := by decide +kernel
theorem dX2_readRoom_93 : decode cX2_readRoom 93 = .ok (.iaload, 1) := by decide +kernel
theorem dX2_readRoom_94 : decode cX2_readRoom 94 = .ok (.if_icmp .le 19, 3) := by decide +kernel
theorem dX2_readRoom_97 : decode cX2_readRoom 97 = .ok (.aload_n 0, 1) := by decide +kernel
theorem dX2_readRoom_98 : decode cX2_readRoom 98 = .ok (.getfield 15, 3) := by decide +kernel
theorem dX2_readRoom_101 : decode cX2_readRoom 101 = .ok (.aload_n 0, 1) := by decide +kernel
theorem dX2_readRoom_102 : decode cX2_readRoom 102 = .ok (.getfield 15, 3) := by decide +kernel
theorem dX2_readRoom_105 : decode cX2_readRoom 105 = .ok (.getfield 40, 3) := by decide +kernel
theorem dX2_readRoom_108 : decode cX2_readRoom 108 = .ok (.iconst 1, 1) := by decide +kernel
theorem dX2_readRoom_109 : decode cX2_readRoom 109 = .ok (.isub, 1) := by decide +kernel
theorem dX2_readRoom_110 : decode cX2_readRoom 110 = .ok (.putfield 110, 3) := by decide +kernel
theorem dX2_readRoom_113 : decode cX2_readRoom 113 = .ok (.iconst 1, 1) := by decide +kernel
theorem dX2_readRoom_114 : decode cX2_readRoom 114 = .ok (.ireturn, 1) := by decide +kernel
theorem dX2_readWay_0 : decode cX2_readWay 0 = .ok (.aload_n 0, 1) := by decide +kernel
theorem dX2_readWay_1 : decode cX2_readWay 1 = .ok (.getfield 15, 3) := by decide +kernel
theorem dX2_readWay_4 : decode cX2_readWay 4 = .ok (.getfield 66, 3) := by decide +kernel
theorem dX2_readWay_7 : decode cX2_readWay 7 = .ok (.istore_n 2, 1) := by decide +kernel
theorem dX2_readWay_8 : decode cX2_readWay 8 = .ok (.aload_n 0, 1) := by decide +kernel
theorem dX2_readWay_9 : decode cX2_readWay 9 = .ok (.getfield 9, 3) := by decide +kernel
theorem dX2_readWay_12 : decode cX2_readWay 12 = .ok (.iconst 0, 1) := by decide +kernel
theorem dX2_readWay_13 : decode cX2_readWay 13 = .ok (.aload_n 0, 1) := by decide +kernel
theorem dX2_readWay_14 : decode cX2_readWay 14 = .ok (.getfield 15, 3) := by decide +kernel
theorem dX2_readWay_17 : decode cX2_readWay 17 = .ok (.getfield 40, 3) := by decide +kernel
theorem dX2_readWay_20 : decode cX2_readWay 20 = .ok (.iconst 1, 1) := by decide +kernel
theorem dX2_readWay_21 : decode cX2_readWay 21 = .ok (.isub, 1) := by decide +kernel
theorem dX2_readWay_22 : decode cX2_readWay 22 = .ok (.invokevirtual 98, 3) := by decide +kernel
theorem dX2_readWay_25 : decode cX2_readWay 25 = .ok (.ifCond .eq 9, 3) := by decide +kernel
theorem dX2_readWay_28 : decode cX2_readWay 28 = .ok (.iload_n 2, 1) := by decide +kernel
theorem dX2_readWay_29 : decode cX2_readWay 29 = .ok (.bipush 24, 2) := by decide +kernel
theorem dX2_readWay_31 : decode cX2_readWay 31 = .ok (.if_icmp .lt 5, 3) := by decide +kernel
theorem dX2_readWay_34 : decode cX2_readWay 34 = .ok (.iconst 0, 1) := by decide +kernel
theorem dX2_readWay_35 : decode cX2_readWay 35 = .ok (.ireturn, 1) := by decide +kernel
theorem dX2_readWay_36 : decode cX2_readWay 36 = .ok (.aload_n 0, 1) := by decide +kernel
theorem dX2_readWay_37 : decode cX2_readWay 37 = .ok (.getfield 9, 3) := by decide +kernel
theorem dX2_readWay_40 : decode cX2_readWay 40 = .ok (.invokevirtual 106, 3) := by decide +kernel
theorem dX2_readWay_43 : decode cX2_readWay 43 = .ok (.istore_n 3, 1) := by decide +kernel
theorem dX2_readWay_44 : decode cX2_readWay 44 = .ok (.aload_n 0, 1) := by decide +kernel
theorem dX2_readWay_45 : decode cX2_readWay 45 = .ok (.getfield 9, 3) := by decide +kernel
theorem dX2_readWay_48 : decode cX2_readWay 48 = .ok (.iconst 0, 1) := by decide +kernel
theorem dX2_readWay_49 : decode cX2_readWay 49 = .ok (.aload_n 0, 1) := by decide +kernel
theorem dX2_readWay_50 : decode cX2_readWay 50 = .ok (.getfield 15, 3) := by decide +kernel
theorem dX2_readWay_53 : decode cX2_readWay 53 = .ok (.getfield 40, 3) := by decide +kernel
theorem dX2_readWay_56 : decode cX2_readWay 56 = .ok (.iconst 1, 1) := by decide +kernel
theorem dX2_readWay_57 : decode cX2_readWay 57 = .ok (.isub, 1) := by decide +kernel
theorem dX2_readWay_58 : decode cX2_readWay 58 = .ok (.invokevirtual 98, 3) := by decide +kernel
theorem dX2_readWay_61 : decode cX2_readWay 61 = .ok (.ifCond .ne 5, 3) := by decide +kernel
theorem dX2_readWay_64 : decode cX2_readWay 64 = .ok (.iconst 0, 1) := by decide +kernel
theorem dX2_readWay_65 : decode cX2_readWay 65 = .ok (.ireturn, 1) := by decide +kernel
theorem dX2_readWay_66 : decode cX2_readWay 66 = .ok (.aload_n 0, 1) := by decide +kernel
theorem dX2_readWay_67 : decode cX2_readWay 67 = .ok (.iload_n 3, 1) := by decide +kernel
theorem dX2_readWay_68 : decode cX2_readWay 68 = .ok (.aload_n 0, 1) := by decide +kernel
theorem dX2_readWay_69 : decode cX2_readWay 69 = .ok (.getfield 9, 3) := by decide +kernel
theorem dX2_readWay_72 : decode cX2_readWay 72 = .ok (.getfield 113, 3) := by decide +kernel
theorem dX2_readWay_75 : decode cX2_readWay 75 = .ok (.iload_n 1, 1) := by decide +kernel
theorem dX2_readWay_76 : decode cX2_readWay 76 = .ok (.invokevirtual 116, 3) := by decide +kernel
theorem dX2_readWay_79 : decode cX2_readWay 79 = .ok (.ifCond .ne 12, 3) := by decide +kernel
theorem dX2_readWay_82 : decode cX2_readWay 82 = .ok (.aload_n 0, 1) := by decide +kernel
theorem dX2_readWay_83 : decode cX2_readWay 83 = .ok (.getfield 9, 3) := by decide +kernel
theorem dX2_readWay_86 : decode cX2_readWay 86 = .ok (.iconst 1, 1) := by decide +kernel
theorem dX2_readWay_87 : decode cX2_readWay 87 = .ok (.invokevirtual 43, 3) := by decide +kernel
theorem dX2_readWay_90 : decode cX2_readWay 90 = .ok (.ireturn, 1) := by decide +kernel
theorem dX2_readWay_91 : decode cX2_readWay 91 = .ok (.aload_n 0, 1) := by decide +kernel
theorem dX2_readWay_92 : decode cX2_readWay 92 = .ok (.getfield 9, 3) := by decide +kernel
theorem dX2_readWay_95 : decode cX2_readWay 95 = .ok (.invokevirtual 106, 3) := by decide +kernel
theorem dX2_readWay_98 : decode cX2_readWay 98 = .ok (.istore 4, 2) := by decide +kernel
theorem dX2_readWay_100 : decode cX2_readWay 100 = .ok (.aload_n 0, 1) := by decide +kernel
theorem dX2_readWay_101 : decode cX2_readWay 101 = .ok (.getfield 9, 3) := by decide +kernel
theorem dX2_readWay_104 : decode cX2_readWay 104 = .ok (.iconst 1, 1) := by decide +kernel
theorem dX2_readWay_105 : decode cX2_readWay 105 = .ok (.bipush 60, 2) := by decide +kernel
theorem dX2_readWay_107 : decode cX2_readWay 107 = .ok (.invokevirtual 98, 3) := by decide +kernel
theorem dX2_readWay_110 : decode cX2_readWay 110 = .ok (.ifCond .ne 5, 3) := by decide +kernel
theorem dX2_readWay_113 : decode cX2_readWay 113 = .ok (.iconst 0, 1) := by decide +kernel
theorem dX2_readWay_114 : decode cX2_readWay 114 = .ok (.ireturn, 1) := by decide +kernel
theorem dX2_readWay_115 : decode cX2_readWay 115 = .ok (.aload_n 0, 1) := by decide +kernel
theorem dX2_readWay_116 : decode cX2_readWay 116 = .ok (.getfield 15, 3) := by decide +kernel
theorem dX2_readWay_119 : decode cX2_readWay 119 = .ok (.getfield 120, 3) := by decide +kernel
theorem dX2_readWay_122 : decode cX2_readWay 122 = .ok (.iload_n 2, 1) := by decide +kernel
theorem dX2_readWay_123 : decode cX2_readWay 123 = .ok (.iload_n 3, 1) := by decide +kernel
theorem dX2_readWay_124 : decode cX2_readWay 124 = .ok (.iastore, 1) := by decide +kernel
theorem dX2_readWay_125 : decode cX2_readWay 125 = .ok (.aload_n 0, 1) := by decide +kernel
theorem dX2_readWay_126 : decode cX2_readWay 126 = .ok (.getfield 15, 3) := by decide +kernel
theorem dX2_readWay_129 : decode cX2_readWay 129 = .ok (.getfield 123, 3) := by decide +kernel
theorem dX2_readWay_132 : decode cX2_readWay 132 = .ok (.iload_n 2, 1) := by decide +kernel
theorem dX2_readWay_133 : decode cX2_readWay 133 = .ok (.iload 4, 2) := by decide +kernel
theorem dX2_readWay_135 : decode cX2_readWay 135 = .ok (.iastore, 1) := by decide +kernel
theorem dX2_readWay_136 : decode cX2_readWay 136 = .ok (.aload_n 0, 1) := by decide +kernel
theorem dX2_readWay_137 : decode cX2_readWay 137 = .ok (.getfield 15, 3) := by decide +kernel
theorem dX2_readWay_140 : decode cX2_readWay 140 = .ok (.getfield 126, 3) := by decide +kernel
theorem dX2_readWay_143 : decode cX2_readWay 143 = .ok (.iload_n 2, 1) := by decide +kernel
theorem dX2_readWay_144 : decode cX2_readWay 144 = .ok (.aload_n 0, 1) := by decide +kernel
theorem dX2_readWay_145 : decode cX2_readWay 145 = .ok (.getfield 9, 3) := by decide +kernel
theorem dX2_readWay_148 : decode cX2_readWay 148 = .ok (.invokevirtual 106, 3) := by decide +kernel
theorem dX2_readWay_151 : decode cX2_readWay 151 = .ok (.iastore, 1) := by decide +kernel
theorem dX2_readWay_152 : decode cX2_readWay 152 = .ok (.aload_n 0, 1) := by decide +kernel
theorem dX2_readWay_153 : decode cX2_readWay 153 = .ok (.getfield 15, 3) := by decide +kernel
theorem dX2_readWay_156 : decode cX2_readWay 156 = .ok (.getfield 129, 3) := by decide +kernel
theorem dX2_readWay_159 : decode cX2_readWay 159 = .ok (.iload_n 2, 1) := by decide +kernel
theorem dX2_readWay_160 : decode cX2_readWay 160 = .ok (.iload_n 1, 1) := by decide +kernel
theorem dX2_readWay_161 : decode cX2_readWay 161 = .ok (.ifCond .eq 7, 3) := by decide +kernel
theorem dX2_readWay_164 : decode cX2_readWay 164 = .ok (.iconst 1, 1) := by decide +kernel
theorem dX2_readWay_165 : decode cX2_readWay 165 = .ok (.goto 4, 3) := by decide +kernel
theorem dX2_readWay_168 : decode cX2_readWay 168 = .ok (.iconst 0, 1) := by decide +kernel
theorem dX2_readWay_169 : decode cX2_readWay 169 = .ok (.iastore, 1) := by decide +kernel
theorem dX2_readWay_170 : decode cX2_readWay 170 = .ok (.aload_n 0, 1) := by decide +kernel
theorem dX2_readWay_171 : decode cX2_readWay 171 = .ok (.getfield 15, 3) := by decide +kernel
theorem dX2_readWay_174 : decode cX2_readWay 174 = .ok (.getfield 131, 3) := by decide +kernel
theorem dX2_readWay_177 : decode cX2_readWay 177 = .ok (.iload_n 2, 1) := by decide +kernel
theorem dX2_readWay_178 : decode cX2_readWay 178 = .ok (.iconst (-1), 1) := by decide +kernel
theorem dX2_readWay_179 : decode cX2_readWay 179 = .ok (.iastore, 1) := by decide +kernel
theorem dX2_readWay_180 : decode cX2_readWay 180 = .ok (.aload_n 0, 1) := by decide +kernel
theorem dX2_readWay_181 : decode cX2_readWay 181 = .ok (.getfield 15, 3) := by decide +kernel
theorem dX2_readWay_184 : decode cX2_readWay 184 = .ok (.getfield 133, 3) := by decide +kernel
theorem dX2_readWay_187 : decode cX2_readWay 187 = .ok (.iload_n 2, 1) := by decide +kernel
theorem dX2_readWay_188 : decode cX2_readWay 188 = .ok (.iconst (-1), 1) := by decide +kernel
theorem dX2_readWay_189 : decode cX2_readWay 189 = .ok (.iastore, 1) := by decide +kernel
theorem dX2_readWay_190 : decode cX2_readWay 190 = .ok (.aload_n 0, 1) := by decide +kernel
theorem dX2_readWay_191 : decode cX2_readWay 191 = .ok (.getfield 15, 3) := by decide +kernel
theorem dX2_readWay_194 : decode cX2_readWay 194 = .ok (.dup, 1) := by decide +kernel
theorem dX2_readWay_195 : decode cX2_readWay 195 = .ok (.getfield 66, 3) := by decide +kernel
theorem dX2_readWay_198 : decode cX2_readWay 198 = .ok (.iconst 1, 1) := by decide +kernel
theorem dX2_readWay_199 : decode cX2_readWay 199 = .ok (.iadd, 1) := by decide +kernel
theorem dX2_readWay_200 : decode cX2_readWay 200 = .ok (.putfield 66, 3) := by decide +kernel
theorem dX2_readWay_203 : decode cX2_readWay 203 = .ok (.iconst 1, 1) := by decide +kernel
theorem dX2_readWay_204 : decode cX2_readWay 204 = .ok (.ireturn, 1) := by decide +kernel
theorem dX2_joins_0 : decode cX2_joins 0 = .ok (.aload_n 0, 1) := by decide +kernel
theorem dX2_joins_1 : decode cX2_joins 1 = .ok (.getfield 15, 3) := by decide +kernel
theorem dX2_joins_4 : decode cX2_joins 4 = .ok (.iload_n 1, 1) := by decide +kernel
theorem dX2_joins_5 : decode cX2_joins 5 = .ok (.invokevirtual 136, 3) := by decide +kernel
theorem dX2_joins_8 : decode cX2_joins 8 = .ok (.ifCond .eq 14, 3) := by decide +kernel
theorem dX2_joins_11 : decode cX2_joins 11 = .ok (.aload_n 0, 1) := by decide +kernel
theorem dX2_joins_12 : decode cX2_joins 12 = .ok (.getfield 15, 3) := by decide +kernel
theorem dX2_joins_15 : decode cX2_joins 15 = .ok (.iload_n 2, 1) := by decide +kernel
theorem dX2_joins_16 : decode cX2_joins 16 = .ok (.invokevirtual 136, 3) := by decide +kernel
theorem dX2_joins_19 : decode cX2_joins 19 = .ok (.ifCond .ne 5, 3) := by decide +kernel
theorem dX2_joins_22 : decode cX2_joins 22 = .ok (.iconst 0, 1) := by decide +kernel
theorem dX2_joins_23 : decode cX2_joins 23 = .ok (.ireturn, 1) := by decide +kernel
theorem dX2_joins_24 : decode cX2_joins 24 = .ok (.iload_n 3, 1) := by decide +kernel
theorem dX2_joins_25 : decode cX2_joins 25 = .ok (.ifCond .eq 35, 3) := by decide +kernel
theorem dX2_joins_28 : decode cX2_joins 28 = .ok (.iload_n 1, 1) := by decide +kernel
theorem dX2_joins_29 : decode cX2_joins 29 = .ok (.iload_n 2, 1) := by decide +kernel
theorem dX2_joins_30 : decode cX2_joins 30 = .ok (.if_icmp .eq 28, 3) := by decide +kernel
theorem dX2_joins_33 : decode cX2_joins 33 = .ok (.aload_n 0, 1) := by decide +kernel
theorem dX2_joins_34 : decode cX2_joins 34 = .ok (.getfield 15, 3) := by decide +kernel
theorem dX2_joins_37 : decode cX2_joins 37 = .ok (.getfield 102, 3) := by decide +kernel
theorem dX2_joins_40 : decode cX2_joins 40 = .ok (.iload_n 1, 1) := by decide +kernel
theorem dX2_joins_41 : decode cX2_joins 41 = .ok (.iaload, 1) := by decide +kernel
theorem dX2_joins_42 : decode cX2_joins 42 = .ok (.aload_n 0, 1) := by decide +kernel
theorem dX2_joins_43 : decode cX2_joins 43 = .ok (.getfield 15, 3) := by decide +kernel
theorem dX2_joins_46 : decode cX2_joins 46 = .ok (.getfield 102, 3) := by decide +kernel
theorem dX2_joins_49 : decode cX2_joins 49 = .ok (.iload_n 2, 1) := by decide +kernel
theorem dX2_joins_50 : decode cX2_joins 50 = .ok (.iaload, 1) := by decide +kernel
theorem dX2_joins_51 : decode cX2_joins 51 = .ok (.if_icmp .ne 7, 3) := by decide +kernel
theorem dX2_joins_54 : decode cX2_joins 54 = .ok (.iconst 1, 1) := by decide +kernel
theorem dX2_joins_55 : decode cX2_joins 55 = .ok (.goto 4, 3) := by decide +kernel
theorem dX2_joins_58 : decode cX2_joins 58 = .ok (.iconst 0, 1) := by decide +kernel
theorem dX2_joins_59 : decode cX2_joins 59 = .ok (.ireturn, 1) := by decide +kernel
theorem dX2_joins_60 : decode cX2_joins 60 = .ok (.aload_n 0, 1) := by decide +kernel
theorem dX2_joins_61 : decode cX2_joins 61 = .ok (.getfield 15, 3) := by decide +kernel
theorem dX2_joins_64 : decode cX2_joins 64 = .ok (.getfield 102, 3) := by decide +kernel
theorem dX2_joins_67 : decode cX2_joins 67 = .ok (.iload_n 2, 1) := by decide +kernel
