theorem dX11_trip_45 : decode cX11_trip 45 = .ok (.getfield 107, 3) := by decide +kernel
theorem dX11_trip_48 : decode cX11_trip 48 = .ok (.iload_n 3, 1) := by decide +kernel
theorem dX11_trip_49 : decode cX11_trip 49 = .ok (.invokevirtual 123, 3) := by decide +kernel
theorem dX11_trip_52 : decode cX11_trip 52 = .ok (.ifCond .ne 6, 3) := by decide +kernel
theorem dX11_trip_55 : decode cX11_trip 55 = .ok (.bipush (-2), 2) := by decide +kernel
theorem dX11_trip_57 : decode cX11_trip 57 = .ok (.ireturn, 1) := by decide +kernel
theorem dX11_trip_58 : decode cX11_trip 58 = .ok (.aload_n 0, 1) := by decide +kernel
theorem dX11_trip_59 : decode cX11_trip 59 = .ok (.getfield 50, 3) := by decide +kernel
theorem dX11_trip_62 : decode cX11_trip 62 = .ok (.aload_n 0, 1) := by decide +kernel
theorem dX11_trip_63 : decode cX11_trip 63 = .ok (.getfield 32, 3) := by decide +kernel
theorem dX11_trip_66 : decode cX11_trip 66 = .ok (.getfield 107, 3) := by decide +kernel
theorem dX11_trip_69 : decode cX11_trip 69 = .ok (.iload_n 1, 1) := by decide +kernel
theorem dX11_trip_70 : decode cX11_trip 70 = .ok (.iload_n 2, 1) := by decide +kernel
theorem dX11_trip_71 : decode cX11_trip 71 = .ok (.iconst 0, 1) := by decide +kernel
theorem dX11_trip_72 : decode cX11_trip 72 = .ok (.invokevirtual 209, 3) := by decide +kernel
theorem dX11_trip_75 : decode cX11_trip 75 = .ok (.aload_n 0, 1) := by decide +kernel
theorem dX11_trip_76 : decode cX11_trip 76 = .ok (.getfield 50, 3) := by decide +kernel
theorem dX11_trip_79 : decode cX11_trip 79 = .ok (.iload_n 3, 1) := by decide +kernel
theorem dX11_trip_80 : decode cX11_trip 80 = .ok (.invokevirtual 212, 3) := by decide +kernel
theorem dX11_trip_83 : decode cX11_trip 83 = .ok (.istore 5, 2) := by decide +kernel
theorem dX11_trip_85 : decode cX11_trip 85 = .ok (.iload 5, 2) := by decide +kernel
theorem dX11_trip_87 : decode cX11_trip 87 = .ok (.sipush 1439, 3) := by decide +kernel
theorem dX11_trip_90 : decode cX11_trip 90 = .ok (.if_icmp .le 6, 3) := by decide +kernel
theorem dX11_trip_93 : decode cX11_trip 93 = .ok (.bipush (-2), 2) := by decide +kernel
theorem dX11_trip_95 : decode cX11_trip 95 = .ok (.ireturn, 1) := by decide +kernel
theorem dX11_trip_96 : decode cX11_trip 96 = .ok (.aload 4, 2) := by decide +kernel
theorem dX11_trip_98 : decode cX11_trip 98 = .ok (.iload_n 1, 1) := by decide +kernel
theorem dX11_trip_99 : decode cX11_trip 99 = .ok (.iload_n 2, 1) := by decide +kernel
theorem dX11_trip_100 : decode cX11_trip 100 = .ok (.iload_n 3, 1) := by decide +kernel
theorem dX11_trip_101 : decode cX11_trip 101 = .ok (.iload 5, 2) := by decide +kernel
theorem dX11_trip_103 : decode cX11_trip 103 = .ok (.invokevirtual 273, 3) := by decide +kernel
theorem dX11_trip_106 : decode cX11_trip 106 = .ok (.ireturn, 1) := by decide +kernel
theorem dX11_trips_0 : decode cX11_trips 0 = .ok (.aload_n 0, 1) := by decide +kernel
theorem dX11_trips_1 : decode cX11_trips 1 = .ok (.getfield 32, 3) := by decide +kernel
theorem dX11_trips_4 : decode cX11_trips 4 = .ok (.getfield 227, 3) := by decide +kernel
theorem dX11_trips_7 : decode cX11_trips 7 = .ok (.astore_n 3, 1) := by decide +kernel
theorem dX11_trips_8 : decode cX11_trips 8 = .ok (.iload_n 1, 1) := by decide +kernel
theorem dX11_trips_9 : decode cX11_trips 9 = .ok (.ifCond .lt 22, 3) := by decide +kernel
theorem dX11_trips_12 : decode cX11_trips 12 = .ok (.iload_n 1, 1) := by decide +kernel
theorem dX11_trips_13 : decode cX11_trips 13 = .ok (.aload_n 3, 1) := by decide +kernel
theorem dX11_trips_14 : decode cX11_trips 14 = .ok (.getfield 270, 3) := by decide +kernel
theorem dX11_trips_17 : decode cX11_trips 17 = .ok (.if_icmp .ge 14, 3) := by decide +kernel
theorem dX11_trips_20 : decode cX11_trips 20 = .ok (.iload_n 1, 1) := by decide +kernel
theorem dX11_trips_21 : decode cX11_trips 21 = .ok (.bipush 12, 2) := by decide +kernel
theorem dX11_trips_23 : decode cX11_trips 23 = .ok (.if_icmp .ge 8, 3) := by decide +kernel
theorem dX11_trips_26 : decode cX11_trips 26 = .ok (.iload_n 2, 1) := by decide +kernel
theorem dX11_trips_27 : decode cX11_trips 27 = .ok (.iconst (-1), 1) := by decide +kernel
theorem dX11_trips_28 : decode cX11_trips 28 = .ok (.if_icmp .ge 5, 3) := by decide +kernel
theorem dX11_trips_31 : decode cX11_trips 31 = .ok (.iconst (-1), 1) := by decide +kernel
theorem dX11_trips_32 : decode cX11_trips 32 = .ok (.ireturn, 1) := by decide +kernel
theorem dX11_trips_33 : decode cX11_trips 33 = .ok (.iload_n 2, 1) := by decide +kernel
theorem dX11_trips_34 : decode cX11_trips 34 = .ok (.iconst (-1), 1) := by decide +kernel
theorem dX11_trips_35 : decode cX11_trips 35 = .ok (.if_icmp .ne 10, 3) := by decide +kernel
theorem dX11_trips_38 : decode cX11_trips 38 = .ok (.aload_n 3, 1) := by decide +kernel
theorem dX11_trips_39 : decode cX11_trips 39 = .ok (.getfield 276, 3) := by decide +kernel
theorem dX11_trips_42 : decode cX11_trips 42 = .ok (.iload_n 1, 1) := by decide +kernel
theorem dX11_trips_43 : decode cX11_trips 43 = .ok (.iaload, 1) := by decide +kernel
theorem dX11_trips_44 : decode cX11_trips 44 = .ok (.ireturn, 1) := by decide +kernel
theorem dX11_trips_45 : decode cX11_trips 45 = .ok (.aload_n 0, 1) := by decide +kernel
theorem dX11_trips_46 : decode cX11_trips 46 = .ok (.getfield 60, 3) := by decide +kernel
theorem dX11_trips_49 : decode cX11_trips 49 = .ok (.aload_n 0, 1) := by decide +kernel
theorem dX11_trips_50 : decode cX11_trips 50 = .ok (.getfield 32, 3) := by decide +kernel
theorem dX11_trips_53 : decode cX11_trips 53 = .ok (.getfield 107, 3) := by decide +kernel
theorem dX11_trips_56 : decode cX11_trips 56 = .ok (.aload_n 3, 1) := by decide +kernel
theorem dX11_trips_57 : decode cX11_trips 57 = .ok (.iload_n 1, 1) := by decide +kernel
theorem dX11_trips_58 : decode cX11_trips 58 = .ok (.invokevirtual 279, 3) := by decide +kernel
theorem dX11_trips_61 : decode cX11_trips 61 = .ok (.iconst 0, 1) := by decide +kernel
theorem dX11_trips_62 : decode cX11_trips 62 = .ok (.istore 4, 2) := by decide +kernel
theorem dX11_trips_64 : decode cX11_trips 64 = .ok (.iload 4, 2) := by decide +kernel
theorem dX11_trips_66 : decode cX11_trips 66 = .ok (.sipush 1440, 3) := by decide +kernel
theorem dX11_trips_69 : decode cX11_trips 69 = .ok (.if_icmp .ge 43, 3) := by decide +kernel
theorem dX11_trips_72 : decode cX11_trips 72 = .ok (.aload_n 0, 1) := by decide +kernel
theorem dX11_trips_73 : decode cX11_trips 73 = .ok (.getfield 60, 3) := by decide +kernel
theorem dX11_trips_76 : decode cX11_trips 76 = .ok (.aload_n 0, 1) := by decide +kernel
theorem dX11_trips_77 : decode cX11_trips 77 = .ok (.getfield 32, 3) := by decide +kernel
theorem dX11_trips_80 : decode cX11_trips 80 = .ok (.getfield 107, 3) := by decide +kernel
theorem dX11_trips_83 : decode cX11_trips 83 = .ok (.invokevirtual 283, 3) := by decide +kernel
theorem dX11_trips_86 : decode cX11_trips 86 = .ok (.ifCond .ne 6, 3) := by decide +kernel
theorem dX11_trips_89 : decode cX11_trips 89 = .ok (.bipush (-2), 2) := by decide +kernel
theorem dX11_trips_91 : decode cX11_trips 91 = .ok (.ireturn, 1) := by decide +kernel
theorem dX11_trips_92 : decode cX11_trips 92 = .ok (.iload 4, 2) := by decide +kernel
theorem dX11_trips_94 : decode cX11_trips 94 = .ok (.iload_n 2, 1) := by decide +kernel
theorem dX11_trips_95 : decode cX11_trips 95 = .ok (.if_icmp .ne 11, 3) := by decide +kernel
theorem dX11_trips_98 : decode cX11_trips 98 = .ok (.aload_n 0, 1) := by decide +kernel
theorem dX11_trips_99 : decode cX11_trips 99 = .ok (.getfield 60, 3) := by decide +kernel
theorem dX11_trips_102 : decode cX11_trips 102 = .ok (.getfield 287, 3) := by decide +kernel
theorem dX11_trips_105 : decode cX11_trips 105 = .ok (.ireturn, 1) := by decide +kernel
theorem dX11_trips_106 : decode cX11_trips 106 = .ok (.iinc 4 1, 3) := by decide +kernel
theorem dX11_trips_109 : decode cX11_trips 109 = .ok (.goto (-45), 3) := by decide +kernel
theorem dX11_trips_112 : decode cX11_trips 112 = .ok (.bipush (-2), 2) := by decide +kernel
theorem dX11_trips_114 : decode cX11_trips 114 = .ok (.ireturn, 1) := by decide +kernel
theorem dX11_brought_0 : decode cX11_brought 0 = .ok (.aload_n 0, 1) := by decide +kernel
theorem dX11_brought_1 : decode cX11_brought 1 = .ok (.iload_n 1, 1) := by decide +kernel
theorem dX11_brought_2 : decode cX11_brought 2 = .ok (.iload_n 2, 1) := by decide +kernel
theorem dX11_brought_3 : decode cX11_brought 3 = .ok (.invokevirtual 205, 3) := by decide +kernel
theorem dX11_brought_6 : decode cX11_brought 6 = .ok (.ifCond .eq 17, 3) := by decide +kernel
theorem dX11_brought_9 : decode cX11_brought 9 = .ok (.aload_n 0, 1) := by decide +kernel
theorem dX11_brought_10 : decode cX11_brought 10 = .ok (.getfield 32, 3) := by decide +kernel
theorem dX11_brought_13 : decode cX11_brought 13 = .ok (.getfield 107, 3) := by decide +kernel
theorem dX11_brought_16 : decode cX11_brought 16 = .ok (.iload_n 3, 1) := by decide +kernel
theorem dX11_brought_17 : decode cX11_brought 17 = .ok (.invokevirtual 123, 3) := by decide +kernel
theorem dX11_brought_20 : decode cX11_brought 20 = .ok (.ifCond .ne 5, 3) := by decide +kernel
theorem dX11_brought_23 : decode cX11_brought 23 = .ok (.iconst (-1), 1) := by decide +kernel
theorem dX11_brought_24 : decode cX11_brought 24 = .ok (.ireturn, 1) := by decide +kernel
theorem dX11_brought_25 : decode cX11_brought 25 = .ok (.aload_n 0, 1) := by decide +kernel
theorem dX11_brought_26 : decode cX11_brought 26 = .ok (.getfield 64, 3) := by decide +kernel
theorem dX11_brought_29 : decode cX11_brought 29 = .ok (.ldc_w 263, 3) := by decide +kernel
theorem dX11_brought_32 : decode cX11_brought 32 = .ok (.invokestatic 290, 3) := by decide +kernel
theorem dX11_brought_35 : decode cX11_brought 35 = .ok (.aload_n 0, 1) := by decide +kernel
theorem dX11_brought_36 : decode cX11_brought 36 = .ok (.getfield 64, 3) := by decide +kernel
theorem dX11_brought_39 : decode cX11_brought 39 = .ok (.iload_n 1, 1) := by decide +kernel
theorem dX11_brought_40 : decode cX11_brought 40 = .ok (.iload_n 2, 1) := by decide +kernel
theorem dX11_brought_41 : decode cX11_brought 41 = .ok (.iastore, 1) := by decide +kernel
theorem dX11_brought_42 : decode cX11_brought 42 = .ok (.iconst 1, 1) := by decide +kernel
theorem dX11_brought_43 : decode cX11_brought 43 = .ok (.istore 4, 2) := by decide +kernel
theorem dX11_brought_45 : decode cX11_brought 45 = .ok (.iconst 0, 1) := by decide +kernel
theorem dX11_brought_46 : decode cX11_brought 46 = .ok (.istore 5, 2) := by decide +kernel
theorem dX11_brought_48 : decode cX11_brought 48 = .ok (.iload 5, 2) := by decide +kernel
theorem dX11_brought_50 : decode cX11_brought 50 = .ok (.bipush 16, 2) := by decide +kernel
theorem dX11_brought_52 : decode cX11_brought 52 = .ok (.if_icmp .gt 52, 3) := by decide +kernel
theorem dX11_brought_55 : decode cX11_brought 55 = .ok (.iload 4, 2) := by decide +kernel
theorem dX11_brought_57 : decode cX11_brought 57 = .ok (.ifCond .eq 47, 3) := by decide +kernel
theorem dX11_brought_60 : decode cX11_brought 60 = .ok (.iconst 0, 1) := by decide +kernel
theorem dX11_brought_61 : decode cX11_brought 61 = .ok (.istore 4, 2) := by decide +kernel
theorem dX11_brought_63 : decode cX11_brought 63 = .ok (.iconst 0, 1) := by decide +kernel
theorem dX11_brought_64 : decode cX11_brought 64 = .ok (.istore 6, 2) := by decide +kernel
theorem dX11_brought_66 : decode cX11_brought 66 = .ok (.iload 6, 2) := by decide +kernel
theorem dX11_brought_68 : decode cX11_brought 68 = .ok (.aload_n 0, 1) := by decide +kernel
theorem dX11_brought_69 : decode cX11_brought 69 = .ok (.getfield 32, 3) := by decide +kernel
theorem dX11_brought_72 : decode cX11_brought 72 = .ok (.getfield 227, 3) := by decide +kernel
theorem dX11_brought_75 : decode cX11_brought 75 = .ok (.getfield 270, 3) := by decide +kernel
theorem dX11_brought_78 : decode cX11_brought 78 = .ok (.if_icmp .ge 20, 3) := by decide +kernel
theorem dX11_brought_81 : decode cX11_brought 81 = .ok (.iload 4, 2) := by decide +kernel
theorem dX11_brought_83 : decode cX11_brought 83 = .ok (.aload_n 0, 1) := by decide +kernel
theorem dX11_brought_84 : decode cX11_brought 84 = .ok (.iload 6, 2) := by decide +kernel
theorem dX11_brought_86 : decode cX11_brought 86 = .ok (.invokevirtual 296, 3) := by decide +kernel
theorem dX11_brought_89 : decode cX11_brought 89 = .ok (.ior, 1) := by decide +kernel
theorem dX11_brought_90 : decode cX11_brought 90 = .ok (.istore 4, 2) := by decide +kernel
theorem dX11_brought_92 : decode cX11_brought 92 = .ok (.iinc 6 1, 3) := by decide +kernel
theorem dX11_brought_95 : decode cX11_brought 95 = .ok (.goto (-29), 3) := by decide +kernel
theorem dX11_brought_98 : decode cX11_brought 98 = .ok (.iinc 5 1, 3) := by decide +kernel
theorem dX11_brought_101 : decode cX11_brought 101 = .ok (.goto (-53), 3) := by decide +kernel
theorem dX11_brought_104 : decode cX11_brought 104 = .ok (.aload_n 0, 1) := by decide +kernel
theorem dX11_brought_105 : decode cX11_brought 105 = .ok (.getfield 64, 3) := by decide +kernel
theorem dX11_brought_108 : decode cX11_brought 108 = .ok (.iload_n 3, 1) := by decide +kernel
theorem dX11_brought_109 : decode cX11_brought 109 = .ok (.iaload, 1) := by decide +kernel
theorem dX11_brought_110 : decode cX11_brought 110 = .ok (.invokestatic 216, 3) := by decide +kernel
theorem dX11_brought_113 : decode cX11_brought 113 = .ok (.ireturn, 1) := by decide +kernel
theorem dX11_takeAlong_0 : decode cX11_takeAlong 0 = .ok (.iconst 0, 1) := by decide +kernel
theorem dX11_takeAlong_1 : decode cX11_takeAlong 1 = .ok (.istore_n 2, 1) := by decide +kernel
theorem dX11_takeAlong_2 : decode cX11_takeAlong 2 = .ok (.iconst 0, 1) := by decide +kernel
theorem dX11_takeAlong_3 : decode cX11_takeAlong 3 = .ok (.istore_n 3, 1) := by decide +kernel
theorem dX11_takeAlong_4 : decode cX11_takeAlong 4 = .ok (.aload_n 0, 1) := by decide +kernel
theorem dX11_takeAlong_5 : decode cX11_takeAlong 5 = .ok (.getfield 60, 3) := by decide +kernel
theorem dX11_takeAlong_8 : decode cX11_takeAlong 8 = .ok (.aload_n 0, 1) := by decide +kernel
theorem dX11_takeAlong_9 : decode cX11_takeAlong 9 = .ok (.getfield 32, 3) := by decide +kernel
theorem dX11_takeAlong_12 : decode cX11_takeAlong 12 = .ok (.getfield 107, 3) := by decide +kernel
theorem dX11_takeAlong_15 : decode cX11_takeAlong 15 = .ok (.aload_n 0, 1) := by decide +kernel
theorem dX11_takeAlong_16 : decode cX11_takeAlong 16 = .ok (.getfield 32, 3) := by decide +kernel
theorem dX11_takeAlong_19 : decode cX11_takeAlong 19 = .ok (.getfield 227, 3) := by decide +kernel
theorem dX11_takeAlong_22 : decode cX11_takeAlong 22 = .ok (.iload_n 1, 1) := by decide +kernel
theorem dX11_takeAlong_23 : decode cX11_takeAlong 23 = .ok (.invokevirtual 279, 3) := by decide +kernel
theorem dX11_takeAlong_26 : decode cX11_takeAlong 26 = .ok (.iconst 0, 1) := by decide +kernel
theorem dX11_takeAlong_27 : decode cX11_takeAlong 27 = .ok (.istore 4, 2) := by decide +kernel
theorem dX11_takeAlong_29 : decode cX11_takeAlong 29 = .ok (.iload 4, 2) := by decide +kernel
theorem dX11_takeAlong_31 : decode cX11_takeAlong 31 = .ok (.sipush 1440, 3) := by decide +kernel
theorem dX11_takeAlong_34 : decode cX11_takeAlong 34 = .ok (.if_icmp .ge 144, 3) := by decide +kernel
theorem dX11_takeAlong_37 : decode cX11_takeAlong 37 = .ok (.aload_n 0, 1) := by decide +kernel
theorem dX11_takeAlong_38 : decode cX11_takeAlong 38 = .ok (.getfield 60, 3) := by decide +kernel
theorem dX11_takeAlong_41 : decode cX11_takeAlong 41 = .ok (.getfield 299, 3) := by decide +kernel
theorem dX11_takeAlong_44 : decode cX11_takeAlong 44 = .ok (.istore 5, 2) := by decide +kernel
theorem dX11_takeAlong_46 : decode cX11_takeAlong 46 = .ok (.aload_n 0, 1) := by decide +kernel
theorem dX11_takeAlong_47 : decode cX11_takeAlong 47 = .ok (.getfield 32, 3) := by decide +kernel
theorem dX11_takeAlong_50 : decode cX11_takeAlong 50 = .ok (.getfield 107, 3) := by decide +kernel
theorem dX11_takeAlong_53 : decode cX11_takeAlong 53 = .ok (.iload 5, 2) := by decide +kernel
theorem dX11_takeAlong_55 : decode cX11_takeAlong 55 = .ok (.invokevirtual 123, 3) := by decide +kernel
theorem dX11_takeAlong_58 : decode cX11_takeAlong 58 = .ok (.ifCond .eq 40, 3) := by decide +kernel
theorem dX11_takeAlong_61 : decode cX11_takeAlong 61 = .ok (.aload_n 0, 1) := by decide +kernel
theorem dX11_takeAlong_62 : decode cX11_takeAlong 62 = .ok (.getfield 60, 3) := by decide +kernel
theorem dX11_takeAlong_65 : decode cX11_takeAlong 65 = .ok (.aload_n 0, 1) := by decide +kernel
theorem dX11_takeAlong_66 : decode cX11_takeAlong 66 = .ok (.getfield 32, 3) := by decide +kernel
theorem dX11_takeAlong_69 : decode cX11_takeAlong 69 = .ok (.getfield 107, 3) := by decide +kernel
theorem dX11_takeAlong_72 : decode cX11_takeAlong 72 = .ok (.invokevirtual 283, 3) := by decide +kernel
theorem dX11_takeAlong_75 : decode cX11_takeAlong 75 = .ok (.ifCond .eq 23, 3) := by decide +kernel
theorem dX11_takeAlong_78 : decode cX11_takeAlong 78 = .ok (.aload_n 0, 1) := by decide +kernel
theorem dX11_takeAlong_79 : decode cX11_takeAlong 79 = .ok (.getfield 32, 3) := by decide +kernel
theorem dX11_takeAlong_82 : decode cX11_takeAlong 82 = .ok (.getfield 107, 3) := by decide +kernel
theorem dX11_takeAlong_85 : decode cX11_takeAlong 85 = .ok (.aload_n 0, 1) := by decide +kernel
theorem dX11_takeAlong_86 : decode cX11_takeAlong 86 = .ok (.getfield 60, 3) := by decide +kernel
theorem dX11_takeAlong_89 : decode cX11_takeAlong 89 = .ok (.getfield 299, 3) := by decide +kernel
theorem dX11_takeAlong_92 : decode cX11_takeAlong 92 = .ok (.invokevirtual 123, 3) := by decide +kernel
theorem dX11_takeAlong_95 : decode cX11_takeAlong 95 = .ok (.ifCond .ne 5, 3) := by decide +kernel
theorem dX11_takeAlong_98 : decode cX11_takeAlong 98 = .ok (.iload_n 2, 1) := by decide +kernel
theorem dX11_takeAlong_99 : decode cX11_takeAlong 99 = .ok (.ireturn, 1) := by decide +kernel
theorem dX11_takeAlong_100 : decode cX11_takeAlong 100 = .ok (.iload_n 3, 1) := by decide +kernel
theorem dX11_takeAlong_101 : decode cX11_takeAlong 101 = .ok (.aload_n 0, 1) := by decide +kernel
theorem dX11_takeAlong_102 : decode cX11_takeAlong 102 = .ok (.getfield 64, 3) := by decide +kernel
theorem dX11_takeAlong_105 : decode cX11_takeAlong 105 = .ok (.iload 5, 2) := by decide +kernel
theorem dX11_takeAlong_107 : decode cX11_takeAlong 107 = .ok (.iaload, 1) := by decide +kernel
theorem dX11_takeAlong_108 : decode cX11_takeAlong 108 = .ok (.aload_n 0, 1) := by decide +kernel
theorem dX11_takeAlong_109 : decode cX11_takeAlong 109 = .ok (.getfield 60, 3) := by decide +kernel
theorem dX11_takeAlong_112 : decode cX11_takeAlong 112 = .ok (.getfield 302, 3) := by decide +kernel
theorem dX11_takeAlong_115 : decode cX11_takeAlong 115 = .ok (.if_icmp .gt 7, 3) := by decide +kernel
theorem dX11_takeAlong_118 : decode cX11_takeAlong 118 = .ok (.iconst 1, 1) := by decide +kernel
theorem dX11_takeAlong_119 : decode cX11_takeAlong 119 = .ok (.goto 4, 3) := by decide +kernel
theorem dX11_takeAlong_122 : decode cX11_takeAlong 122 = .ok (.iconst 0, 1) := by decide +kernel
theorem dX11_takeAlong_123 : decode cX11_takeAlong 123 = .ok (.ior, 1) := by decide +kernel
theorem dX11_takeAlong_124 : decode cX11_takeAlong 124 = .ok (.istore_n 3, 1) := by decide +kernel
theorem dX11_takeAlong_125 : decode cX11_takeAlong 125 = .ok (.iload_n 3, 1) := by decide +kernel
theorem dX11_takeAlong_126 : decode cX11_takeAlong 126 = .ok (.ifCond .eq 46, 3) := by decide +kernel
theorem dX11_takeAlong_129 : decode cX11_takeAlong 129 = .ok (.aload_n 0, 1) := by decide +kernel
theorem dX11_takeAlong_130 : decode cX11_takeAlong 130 = .ok (.getfield 60, 3) := by decide +kernel
theorem dX11_takeAlong_133 : decode cX11_takeAlong 133 = .ok (.getfield 305, 3) := by decide +kernel
theorem dX11_takeAlong_136 : decode cX11_takeAlong 136 = .ok (.aload_n 0, 1) := by decide +kernel
theorem dX11_takeAlong_137 : decode cX11_takeAlong 137 = .ok (.getfield 64, 3) := by decide +kernel
theorem dX11_takeAlong_140 : decode cX11_takeAlong 140 = .ok (.aload_n 0, 1) := by decide +kernel
theorem dX11_takeAlong_141 : decode cX11_takeAlong 141 = .ok (.getfield 60, 3) := by decide +kernel
theorem dX11_takeAlong_144 : decode cX11_takeAlong 144 = .ok (.getfield 299, 3) := by decide +kernel
theorem dX11_takeAlong_147 : decode cX11_takeAlong 147 = .ok (.iaload, 1) := by decide +kernel
theorem dX11_takeAlong_148 : decode cX11_takeAlong 148 = .ok (.if_icmp .ge 24, 3) := by decide +kernel
theorem dX11_takeAlong_151 : decode cX11_takeAlong 151 = .ok (.aload_n 0, 1) := by decide +kernel
theorem dX11_takeAlong_152 : decode cX11_takeAlong 152 = .ok (.getfield 64, 3) := by decide +kernel
theorem dX11_takeAlong_155 : decode cX11_takeAlong 155 = .ok (.aload_n 0, 1) := by decide +kernel
theorem dX11_takeAlong_156 : decode cX11_takeAlong 156 = .ok (.getfield 60, 3) := by decide +kernel
theorem dX11_takeAlong_159 : decode cX11_takeAlong 159 = .ok (.getfield 299, 3) := by decide +kernel
theorem dX11_takeAlong_162 : decode cX11_takeAlong 162 = .ok (.aload_n 0, 1) := by decide +kernel
theorem dX11_takeAlong_163 : decode cX11_takeAlong 163 = .ok (.getfield 60, 3) := by decide +kernel
theorem dX11_takeAlong_166 : decode cX11_takeAlong 166 = .ok (.getfield 305, 3) := by decide +kernel
theorem dX11_takeAlong_169 : decode cX11_takeAlong 169 = .ok (.iastore, 1) := by decide +kernel
theorem dX11_takeAlong_170 : decode cX11_takeAlong 170 = .ok (.iconst 1, 1) := by decide +kernel
theorem dX11_takeAlong_171 : decode cX11_takeAlong 171 = .ok (.istore_n 2, 1) := by decide +kernel
theorem dX11_takeAlong_172 : decode cX11_takeAlong 172 = .ok (.iinc 4 1, 3) := by decide +kernel
theorem dX11_takeAlong_175 : decode cX11_takeAlong 175 = .ok (.goto (-146), 3) := by decide +kernel
theorem dX11_takeAlong_178 : decode cX11_takeAlong 178 = .ok (.iload_n 2, 1) := by decide +kernel
theorem dX11_takeAlong_179 : decode cX11_takeAlong 179 = .ok (.ireturn, 1) := by decide +kernel
theorem dX11_rider_0 : decode cX11_rider 0 = .ok (.aload_n 0, 1) := by decide +kernel
theorem dX11_rider_1 : decode cX11_rider 1 = .ok (.getfield 32, 3) := by decide +kernel
theorem dX11_rider_4 : decode cX11_rider 4 = .ok (.getfield 227, 3) := by decide +kernel
theorem dX11_rider_7 : decode cX11_rider 7 = .ok (.astore_n 2, 1) := by decide +kernel
theorem dX11_rider_8 : decode cX11_rider 8 = .ok (.iload_n 1, 1) := by decide +kernel
theorem dX11_rider_9 : decode cX11_rider 9 = .ok (.iconst (-1), 1) := by decide +kernel
theorem dX11_rider_10 : decode cX11_rider 10 = .ok (.if_icmp .ne 10, 3) := by decide +kernel
theorem dX11_rider_13 : decode cX11_rider 13 = .ok (.aload_n 2, 1) := by decide +kernel
theorem dX11_rider_14 : decode cX11_rider 14 = .ok (.iconst 0, 1) := by decide +kernel
theorem dX11_rider_15 : decode cX11_rider 15 = .ok (.putfield 306, 3) := by decide +kernel
theorem dX11_rider_18 : decode cX11_rider 18 = .ok (.iconst 0, 1) := by decide +kernel
theorem dX11_rider_19 : decode cX11_rider 19 = .ok (.ireturn, 1) := by decide +kernel
theorem dX11_rider_20 : decode cX11_rider 20 = .ok (.iload_n 1, 1) := by decide +kernel
theorem dX11_rider_21 : decode cX11_rider 21 = .ok (.invokestatic 236, 3) := by decide +kernel
theorem dX11_rider_24 : decode cX11_rider 24 = .ok (.ifCond .eq 12, 3) := by decide +kernel
theorem dX11_rider_27 : decode cX11_rider 27 = .ok (.aload_n 2, 1) := by decide +kernel
theorem dX11_rider_28 : decode cX11_rider 28 = .ok (.getfield 306, 3) := by decide +kernel
theorem dX11_rider_31 : decode cX11_rider 31 = .ok (.bipush 20, 2) := by decide +kernel
theorem dX11_rider_33 : decode cX11_rider 33 = .ok (.if_icmp .lt 6, 3) := by decide +kernel
theorem dX11_rider_36 : decode cX11_rider 36 = .ok (.bipush (-2), 2) := by decide +kernel
theorem dX11_rider_38 : decode cX11_rider 38 = .ok (.ireturn, 1) := by decide +kernel
theorem dX11_rider_39 : decode cX11_rider 39 = .ok (.aload_n 2, 1) := by decide +kernel
theorem dX11_rider_40 : decode cX11_rider 40 = .ok (.iload_n 1, 1) := by decide +kernel
theorem dX11_rider_41 : decode cX11_rider 41 = .ok (.invokevirtual 309, 3) := by decide +kernel
theorem dX11_rider_44 : decode cX11_rider 44 = .ok (.ireturn, 1) := by decide +kernel
theorem dX11_rides_0 : decode cX11_rides 0 = .ok (.aload_n 0, 1) := by decide +kernel
theorem dX11_rides_1 : decode cX11_rides 1 = .ok (.getfield 32, 3) := by decide +kernel
theorem dX11_rides_4 : decode cX11_rides 4 = .ok (.getfield 227, 3) := by decide +kernel
theorem dX11_rides_7 : decode cX11_rides 7 = .ok (.astore_n 2, 1) := by decide +kernel
theorem dX11_rides_8 : decode cX11_rides 8 = .ok (.aload_n 0, 1) := by decide +kernel
theorem dX11_rides_9 : decode cX11_rides 9 = .ok (.getfield 32, 3) := by decide +kernel
theorem dX11_rides_12 : decode cX11_rides 12 = .ok (.getfield 107, 3) := by decide +kernel
theorem dX11_rides_15 : decode cX11_rides 15 = .ok (.getfield 312, 3) := by decide +kernel
theorem dX11_rides_18 : decode cX11_rides 18 = .ok (.ifCond .le 13, 3) := by decide +kernel
theorem dX11_rides_21 : decode cX11_rides 21 = .ok (.iload_n 1, 1) := by decide +kernel
theorem dX11_rides_22 : decode cX11_rides 22 = .ok (.ifCond .lt 9, 3) := by decide +kernel
theorem dX11_rides_25 : decode cX11_rides 25 = .ok (.iload_n 1, 1) := by decide +kernel
theorem dX11_rides_26 : decode cX11_rides 26 = .ok (.bipush 20, 2) := by decide +kernel
theorem dX11_rides_28 : decode cX11_rides 28 = .ok (.if_icmp .le 5, 3) := by decide +kernel
theorem dX11_rides_31 : decode cX11_rides 31 = .ok (.iconst (-1), 1) := by decide +kernel
theorem dX11_rides_32 : decode cX11_rides 32 = .ok (.ireturn, 1) := by decide +kernel
theorem dX11_rides_33 : decode cX11_rides 33 = .ok (.iload_n 1, 1) := by decide +kernel
theorem dX11_rides_34 : decode cX11_rides 34 = .ok (.bipush 20, 2) := by decide +kernel
theorem dX11_rides_36 : decode cX11_rides 36 = .ok (.if_icmp .ge 13, 3) := by decide +kernel
theorem dX11_rides_39 : decode cX11_rides 39 = .ok (.iload_n 1, 1) := by decide +kernel
theorem dX11_rides_40 : decode cX11_rides 40 = .ok (.aload_n 2, 1) := by decide +kernel
theorem dX11_rides_41 : decode cX11_rides 41 = .ok (.getfield 306, 3) := by decide +kernel
theorem dX11_rides_44 : decode cX11_rides 44 = .ok (.if_icmp .lt 5, 3) := by decide +kernel
theorem dX11_rides_47 : decode cX11_rides 47 = .ok (.iconst (-1), 1) := by decide +kernel
theorem dX11_rides_48 : decode cX11_rides 48 = .ok (.ireturn, 1) := by decide +kernel
theorem dX11_rides_49 : decode cX11_rides 49 = .ok (.aload_n 0, 1) := by decide +kernel
theorem dX11_rides_50 : decode cX11_rides 50 = .ok (.invokevirtual 315, 3) := by decide +kernel
theorem dX11_rides_53 : decode cX11_rides 53 = .ok (.iload_n 1, 1) := by decide +kernel
theorem dX11_rides_54 : decode cX11_rides 54 = .ok (.bipush 20, 2) := by decide +kernel
theorem dX11_rides_56 : decode cX11_rides 56 = .ok (.if_icmp .ge 10, 3) := by decide +kernel
theorem dX11_rides_59 : decode cX11_rides 59 = .ok (.aload_n 0, 1) := by decide +kernel
theorem dX11_rides_60 : decode cX11_rides 60 = .ok (.getfield 77, 3) := by decide +kernel
theorem dX11_rides_63 : decode cX11_rides 63 = .ok (.iload_n 1, 1) := by decide +kernel
theorem dX11_rides_64 : decode cX11_rides 64 = .ok (.iaload, 1) := by decide +kernel
theorem dX11_rides_65 : decode cX11_rides 65 = .ok (.ireturn, 1) := by decide +kernel
theorem dX11_rides_66 : decode cX11_rides 66 = .ok (.bipush (-2), 2) := by decide +kernel
theorem dX11_rides_68 : decode cX11_rides 68 = .ok (.istore_n 3, 1) := by decide +kernel
theorem dX11_rides_69 : decode cX11_rides 69 = .ok (.iconst 0, 1) := by decide +kernel
theorem dX11_rides_70 : decode cX11_rides 70 = .ok (.istore 4, 2) := by decide +kernel
theorem dX11_rides_72 : decode cX11_rides 72 = .ok (.iload 4, 2) := by decide +kernel
theorem dX11_rides_74 : decode cX11_rides 74 = .ok (.aload_n 2, 1) := by decide +kernel
theorem dX11_rides_75 : decode cX11_rides 75 = .ok (.getfield 306, 3) := by decide +kernel
theorem dX11_rides_78 : decode cX11_rides 78 = .ok (.if_icmp .ge 48, 3) := by decide +kernel
theorem dX11_rides_81 : decode cX11_rides 81 = .ok (.iload 4, 2) := by decide +kernel
theorem dX11_rides_83 : decode cX11_rides 83 = .ok (.bipush 20, 2) := by decide +kernel
theorem dX11_rides_85 : decode cX11_rides 85 = .ok (.if_icmp .ge 41, 3) := by decide +kernel
theorem dX11_rides_88 : decode cX11_rides 88 = .ok (.aload_n 0, 1) := by decide +kernel
theorem dX11_rides_89 : decode cX11_rides 89 = .ok (.getfield 77, 3) := by decide +kernel
theorem dX11_rides_92 : decode cX11_rides 92 = .ok (.iload 4, 2) := by decide +kernel
theorem dX11_rides_94 : decode cX11_rides 94 = .ok (.iaload, 1) := by decide +kernel
theorem dX11_rides_95 : decode cX11_rides 95 = .ok (.bipush (-2), 2) := by decide +kernel
theorem dX11_rides_97 : decode cX11_rides 97 = .ok (.if_icmp .eq 23, 3) := by decide +kernel
theorem dX11_rides_100 : decode cX11_rides 100 = .ok (.iload_n 3, 1) := by decide +kernel
theorem dX11_rides_101 : decode cX11_rides 101 = .ok (.aload_n 0, 1) := by decide +kernel
theorem dX11_rides_102 : decode cX11_rides 102 = .ok (.getfield 77, 3) := by decide +kernel
theorem dX11_rides_105 : decode cX11_rides 105 = .ok (.iload 4, 2) := by decide +kernel
theorem dX11_rides_107 : decode cX11_rides 107 = .ok (.iaload, 1) := by decide +kernel
theorem dX11_rides_108 : decode cX11_rides 108 = .ok (.aload_n 2, 1) := by decide +kernel
theorem dX11_rides_109 : decode cX11_rides 109 = .ok (.getfield 318, 3) := by decide +kernel
theorem dX11_rides_112 : decode cX11_rides 112 = .ok (.iload 4, 2) := by decide +kernel
theorem dX11_rides_114 : decode cX11_rides 114 = .ok (.iaload, 1) := by decide +kernel
theorem dX11_rides_115 : decode cX11_rides 115 = .ok (.isub, 1) := by decide +kernel
theorem dX11_rides_116 : decode cX11_rides 116 = .ok (.invokestatic 264, 3) := by decide +kernel
theorem dX11_rides_119 : decode cX11_rides 119 = .ok (.istore_n 3, 1) := by decide +kernel
theorem dX11_rides_120 : decode cX11_rides 120 = .ok (.iinc 4 1, 3) := by decide +kernel
theorem dX11_rides_123 : decode cX11_rides 123 = .ok (.goto (-51), 3) := by decide +kernel
theorem dX11_rides_126 : decode cX11_rides 126 = .ok (.iload_n 3, 1) := by decide +kernel
theorem dX11_rides_127 : decode cX11_rides 127 = .ok (.ireturn, 1) := by decide +kernel
theorem dX11_seatRiders_0 : decode cX11_seatRiders 0 = .ok (.aload_n 0, 1) := by decide +kernel
theorem dX11_seatRiders_1 : decode cX11_seatRiders 1 = .ok (.getfield 32, 3) := by decide +kernel
theorem dX11_seatRiders_4 : decode cX11_seatRiders 4 = .ok (.getfield 107, 3) := by decide +kernel
theorem dX11_seatRiders_7 : decode cX11_seatRiders 7 = .ok (.astore_n 1, 1) := by decide +kernel
theorem dX11_seatRiders_8 : decode cX11_seatRiders 8 = .ok (.aload_n 0, 1) := by decide +kernel
theorem dX11_seatRiders_9 : decode cX11_seatRiders 9 = .ok (.getfield 77, 3) := by decide +kernel
theorem dX11_seatRiders_12 : decode cX11_seatRiders 12 = .ok (.iconst (-1), 1) := by decide +kernel
theorem dX11_seatRiders_13 : decode cX11_seatRiders 13 = .ok (.invokestatic 290, 3) := by decide +kernel
theorem dX11_seatRiders_16 : decode cX11_seatRiders 16 = .ok (.iconst (-1), 1) := by decide +kernel
theorem dX11_seatRiders_17 : decode cX11_seatRiders 17 = .ok (.istore_n 2, 1) := by decide +kernel
theorem dX11_seatRiders_18 : decode cX11_seatRiders 18 = .ok (.iconst 0, 1) := by decide +kernel
theorem dX11_seatRiders_19 : decode cX11_seatRiders 19 = .ok (.istore_n 3, 1) := by decide +kernel
theorem dX11_seatRiders_20 : decode cX11_seatRiders 20 = .ok (.iconst 0, 1) := by decide +kernel
theorem dX11_seatRiders_21 : decode cX11_seatRiders 21 = .ok (.istore 4, 2) := by decide +kernel
theorem dX11_seatRiders_23 : decode cX11_seatRiders 23 = .ok (.iload 4, 2) := by decide +kernel
theorem dX11_seatRiders_25 : decode cX11_seatRiders 25 = .ok (.aload_n 0, 1) := by decide +kernel
theorem dX11_seatRiders_26 : decode cX11_seatRiders 26 = .ok (.getfield 32, 3) := by decide +kernel
theorem dX11_seatRiders_29 : decode cX11_seatRiders 29 = .ok (.getfield 227, 3) := by decide +kernel
theorem dX11_seatRiders_32 : decode cX11_seatRiders 32 = .ok (.getfield 306, 3) := by decide +kernel
theorem dX11_seatRiders_35 : decode cX11_seatRiders 35 = .ok (.if_icmp .ge 127, 3) := by decide +kernel
theorem dX11_seatRiders_38 : decode cX11_seatRiders 38 = .ok (.aload_n 0, 1) := by decide +kernel
theorem dX11_seatRiders_39 : decode cX11_seatRiders 39 = .ok (.getfield 32, 3) := by decide +kernel
theorem dX11_seatRiders_42 : decode cX11_seatRiders 42 = .ok (.getfield 227, 3) := by decide +kernel
theorem dX11_seatRiders_45 : decode cX11_seatRiders 45 = .ok (.aload_n 0, 1) := by decide +kernel
theorem dX11_seatRiders_46 : decode cX11_seatRiders 46 = .ok (.getfield 77, 3) := by decide +kernel
theorem dX11_seatRiders_49 : decode cX11_seatRiders 49 = .ok (.invokevirtual 321, 3) := by decide +kernel
theorem dX11_seatRiders_52 : decode cX11_seatRiders 52 = .ok (.istore 5, 2) := by decide +kernel
theorem dX11_seatRiders_54 : decode cX11_seatRiders 54 = .ok (.iload 5, 2) := by decide +kernel
theorem dX11_seatRiders_56 : decode cX11_seatRiders 56 = .ok (.iconst (-1), 1) := by decide +kernel
theorem dX11_seatRiders_57 : decode cX11_seatRiders 57 = .ok (.if_icmp .ne 4, 3) := by decide +kernel
theorem dX11_seatRiders_60 : decode cX11_seatRiders 60 = .ok (.return_, 1) := by decide +kernel
theorem dX11_seatRiders_61 : decode cX11_seatRiders 61 = .ok (.aload_n 1, 1) := by decide +kernel
theorem dX11_seatRiders_62 : decode cX11_seatRiders 62 = .ok (.aload_n 0, 1) := by decide +kernel
theorem dX11_seatRiders_63 : decode cX11_seatRiders 63 = .ok (.getfield 32, 3) := by decide +kernel
theorem dX11_seatRiders_66 : decode cX11_seatRiders 66 = .ok (.getfield 227, 3) := by decide +kernel
theorem dX11_seatRiders_69 : decode cX11_seatRiders 69 = .ok (.getfield 318, 3) := by decide +kernel
theorem dX11_seatRiders_72 : decode cX11_seatRiders 72 = .ok (.iload 5, 2) := by decide +kernel
theorem dX11_seatRiders_74 : decode cX11_seatRiders 74 = .ok (.iaload, 1) := by decide +kernel
theorem dX11_seatRiders_75 : decode cX11_seatRiders 75 = .ok (.iload_n 2, 1) := by decide +kernel
theorem dX11_seatRiders_76 : decode cX11_seatRiders 76 = .ok (.invokestatic 264, 3) := by decide +kernel
theorem dX11_seatRiders_79 : decode cX11_seatRiders 79 = .ok (.invokevirtual 325, 3) := by decide +kernel
theorem dX11_seatRiders_82 : decode cX11_seatRiders 82 = .ok (.istore 6, 2) := by decide +kernel
theorem dX11_seatRiders_84 : decode cX11_seatRiders 84 = .ok (.iload 6, 2) := by decide +kernel
theorem dX11_seatRiders_86 : decode cX11_seatRiders 86 = .ok (.iconst (-1), 1) := by decide +kernel
theorem dX11_seatRiders_87 : decode cX11_seatRiders 87 = .ok (.if_icmp .eq 26, 3) := by decide +kernel
theorem dX11_seatRiders_90 : decode cX11_seatRiders 90 = .ok (.iload 6, 2) := by decide +kernel
theorem dX11_seatRiders_92 : decode cX11_seatRiders 92 = .ok (.iload_n 2, 1) := by decide +kernel
theorem dX11_seatRiders_93 : decode cX11_seatRiders 93 = .ok (.if_icmp .ne 20, 3) := by decide +kernel
theorem dX11_seatRiders_96 : decode cX11_seatRiders 96 = .ok (.iload_n 3, 1) := by decide +kernel
theorem dX11_seatRiders_97 : decode cX11_seatRiders 97 = .ok (.aload_n 1, 1) := by decide +kernel
theorem dX11_seatRiders_98 : decode cX11_seatRiders 98 = .ok (.getfield 328, 3) := by decide +kernel
theorem dX11_seatRiders_101 : decode cX11_seatRiders 101 = .ok (.if_icmp .lt 12, 3) := by decide +kernel
theorem dX11_seatRiders_104 : decode cX11_seatRiders 104 = .ok (.aload_n 1, 1) := by decide +kernel
theorem dX11_seatRiders_105 : decode cX11_seatRiders 105 = .ok (.iload_n 2, 1) := by decide +kernel
theorem dX11_seatRiders_106 : decode cX11_seatRiders 106 = .ok (.iconst 1, 1) := by decide +kernel
theorem dX11_seatRiders_107 : decode cX11_seatRiders 107 = .ok (.iadd, 1) := by decide +kernel
theorem dX11_seatRiders_108 : decode cX11_seatRiders 108 = .ok (.invokevirtual 325, 3) := by decide +kernel
theorem dX11_seatRiders_111 : decode cX11_seatRiders 111 = .ok (.istore 6, 2) := by decide +kernel
theorem dX11_seatRiders_113 : decode cX11_seatRiders 113 = .ok (.aload_n 0, 1) := by decide +kernel
theorem dX11_seatRiders_114 : decode cX11_seatRiders 114 = .ok (.getfield 77, 3) := by decide +kernel
theorem dX11_seatRiders_117 : decode cX11_seatRiders 117 = .ok (.iload 5, 2) := by decide +kernel
theorem dX11_seatRiders_119 : decode cX11_seatRiders 119 = .ok (.iload 6, 2) := by decide +kernel
theorem dX11_seatRiders_121 : decode cX11_seatRiders 121 = .ok (.iconst (-1), 1) := by decide +kernel
theorem dX11_seatRiders_122 : decode cX11_seatRiders 122 = .ok (.if_icmp .ne 8, 3) := by decide +kernel
theorem dX11_seatRiders_125 : decode cX11_seatRiders 125 = .ok (.bipush (-2), 2) := by decide +kernel
theorem dX11_seatRiders_127 : decode cX11_seatRiders 127 = .ok (.goto 5, 3) := by decide +kernel
theorem dX11_seatRiders_130 : decode cX11_seatRiders 130 = .ok (.iload 6, 2) := by decide +kernel
theorem dX11_seatRiders_132 : decode cX11_seatRiders 132 = .ok (.iastore, 1) := by decide +kernel
theorem dX11_seatRiders_133 : decode cX11_seatRiders 133 = .ok (.iload 6, 2) := by decide +kernel
theorem dX11_seatRiders_135 : decode cX11_seatRiders 135 = .ok (.iconst (-1), 1) := by decide +kernel
theorem dX11_seatRiders_136 : decode cX11_seatRiders 136 = .ok (.if_icmp .eq 20, 3) := by decide +kernel
theorem dX11_seatRiders_139 : decode cX11_seatRiders 139 = .ok (.iload 6, 2) := by decide +kernel
theorem dX11_seatRiders_141 : decode cX11_seatRiders 141 = .ok (.iload_n 2, 1) := by decide +kernel
theorem dX11_seatRiders_142 : decode cX11_seatRiders 142 = .ok (.if_icmp .ne 9, 3) := by decide +kernel
theorem dX11_seatRiders_145 : decode cX11_seatRiders 145 = .ok (.iload_n 3, 1) := by decide +kernel
theorem dX11_seatRiders_146 : decode cX11_seatRiders 146 = .ok (.iconst 1, 1) := by decide +kernel
theorem dX11_seatRiders_147 : decode cX11_seatRiders 147 = .ok (.iadd, 1) := by decide +kernel
theorem dX11_seatRiders_148 : decode cX11_seatRiders 148 = .ok (.goto 4, 3) := by decide +kernel
theorem dX11_seatRiders_151 : decode cX11_seatRiders 151 = .ok (.iconst 1, 1) := by decide +kernel
theorem dX11_seatRiders_152 : decode cX11_seatRiders 152 = .ok (.istore_n 3, 1) := by decide +kernel
theorem dX11_seatRiders_153 : decode cX11_seatRiders 153 = .ok (.iload 6, 2) := by decide +kernel
theorem dX11_seatRiders_155 : decode cX11_seatRiders 155 = .ok (.istore_n 2, 1) := by decide +kernel
theorem dX11_seatRiders_156 : decode cX11_seatRiders 156 = .ok (.iinc 4 1, 3) := by decide +kernel
theorem dX11_seatRiders_159 : decode cX11_seatRiders 159 = .ok (.goto (-136), 3) := by decide +kernel
theorem dX11_seatRiders_162 : decode cX11_seatRiders 162 = .ok (.return_, 1) := by decide +kernel
theorem dX11_customer_0 : decode cX11_customer 0 = .ok (.aload_n 0, 1) := by decide +kernel
theorem dX11_customer_1 : decode cX11_customer 1 = .ok (.getfield 32, 3) := by decide +kernel
theorem dX11_customer_4 : decode cX11_customer 4 = .ok (.getfield 227, 3) := by decide +kernel
theorem dX11_customer_7 : decode cX11_customer 7 = .ok (.astore_n 3, 1) := by decide +kernel
theorem dX11_customer_8 : decode cX11_customer 8 = .ok (.iload_n 1, 1) := by decide +kernel
theorem dX11_customer_9 : decode cX11_customer 9 = .ok (.iconst (-1), 1) := by decide +kernel
theorem dX11_customer_10 : decode cX11_customer 10 = .ok (.if_icmp .ne 10, 3) := by decide +kernel
theorem dX11_customer_13 : decode cX11_customer 13 = .ok (.aload_n 3, 1) := by decide +kernel
theorem dX11_customer_14 : decode cX11_customer 14 = .ok (.iconst 0, 1) := by decide +kernel
theorem dX11_customer_15 : decode cX11_customer 15 = .ok (.putfield 331, 3) := by decide +kernel
theorem dX11_customer_18 : decode cX11_customer 18 = .ok (.iconst 0, 1) := by decide +kernel
theorem dX11_customer_19 : decode cX11_customer 19 = .ok (.ireturn, 1) := by decide +kernel
theorem dX11_customer_20 : decode cX11_customer 20 = .ok (.iload_n 1, 1) := by decide +kernel
theorem dX11_customer_21 : decode cX11_customer 21 = .ok (.ifCond .lt 24, 3) := by decide +kernel
theorem dX11_customer_24 : decode cX11_customer 24 = .ok (.iload_n 1, 1) := by decide +kernel
theorem dX11_customer_25 : decode cX11_customer 25 = .ok (.bipush 6, 2) := by decide +kernel
theorem dX11_customer_27 : decode cX11_customer 27 = .ok (.if_icmp .ge 18, 3) := by decide +kernel
theorem dX11_customer_30 : decode cX11_customer 30 = .ok (.iload_n 2, 1) := by decide +kernel
theorem dX11_customer_31 : decode cX11_customer 31 = .ok (.ifCond .lt 14, 3) := by decide +kernel
theorem dX11_customer_34 : decode cX11_customer 34 = .ok (.iload_n 2, 1) := by decide +kernel
theorem dX11_customer_35 : decode cX11_customer 35 = .ok (.bipush 6, 2) := by decide +kernel
theorem dX11_customer_37 : decode cX11_customer 37 = .ok (.if_icmp .ge 8, 3) := by decide +kernel
theorem dX11_customer_40 : decode cX11_customer 40 = .ok (.iload_n 1, 1) := by decide +kernel
theorem dX11_customer_41 : decode cX11_customer 41 = .ok (.iload_n 2, 1) := by decide +kernel
theorem dX11_customer_42 : decode cX11_customer 42 = .ok (.if_icmp .ne 6, 3) := by decide +kernel
theorem dX11_customer_45 : decode cX11_customer 45 = .ok (.bipush (-2), 2) := by decide +kernel
theorem dX11_customer_47 : decode cX11_customer 47 = .ok (.ireturn, 1) := by decide +kernel
theorem dX11_customer_48 : decode cX11_customer 48 = .ok (.aload_n 3, 1) := by decide +kernel
theorem dX11_customer_49 : decode cX11_customer 49 = .ok (.getfield 331, 3) := by decide +kernel
theorem dX11_customer_52 : decode cX11_customer 52 = .ok (.bipush 10, 2) := by decide +kernel
theorem dX11_customer_54 : decode cX11_customer 54 = .ok (.if_icmp .lt 8, 3) := by decide +kernel
theorem dX11_customer_57 : decode cX11_customer 57 = .ok (.bipush (-2), 2) := by decide +kernel
theorem dX11_customer_59 : decode cX11_customer 59 = .ok (.goto 9, 3) := by decide +kernel
theorem dX11_customer_62 : decode cX11_customer 62 = .ok (.aload_n 3, 1) := by decide +kernel
theorem dX11_customer_63 : decode cX11_customer 63 = .ok (.iload_n 1, 1) := by decide +kernel
theorem dX11_customer_64 : decode cX11_customer 64 = .ok (.iload_n 2, 1) := by decide +kernel
theorem dX11_customer_65 : decode cX11_customer 65 = .ok (.invokevirtual 334, 3) := by decide +kernel
theorem dX11_customer_68 : decode cX11_customer 68 = .ok (.ireturn, 1) := by decide +kernel
theorem dX11_order_0 : decode cX11_order 0 = .ok (.iload_n 1, 1) := by decide +kernel
theorem dX11_order_1 : decode cX11_order 1 = .ok (.iconst 1, 1) := by decide +kernel
theorem dX11_order_2 : decode cX11_order 2 = .ok (.if_icmp .lt 19, 3) := by decide +kernel
theorem dX11_order_5 : decode cX11_order 5 = .ok (.iload_n 1, 1) := by decide +kernel
theorem dX11_order_6 : decode cX11_order 6 = .ok (.bipush 6, 2) := by decide +kernel
theorem dX11_order_8 : decode cX11_order 8 = .ok (.if_icmp .gt 13, 3) := by decide +kernel
theorem dX11_order_11 : decode cX11_order 11 = .ok (.iload_n 2, 1) := by decide +kernel
theorem dX11_order_12 : decode cX11_order 12 = .ok (.ifCond .lt 9, 3) := by decide +kernel
theorem dX11_order_15 : decode cX11_order 15 = .ok (.iload_n 2, 1) := by decide +kernel
theorem dX11_order_16 : decode cX11_order 16 = .ok (.bipush 6, 2) := by decide +kernel
theorem dX11_order_18 : decode cX11_order 18 = .ok (.if_icmp .le 5, 3) := by decide +kernel
theorem dX11_order_21 : decode cX11_order 21 = .ok (.iconst (-1), 1) := by decide +kernel
theorem dX11_order_22 : decode cX11_order 22 = .ok (.ireturn, 1) := by decide +kernel
theorem dX11_order_23 : decode cX11_order 23 = .ok (.iload_n 2, 1) := by decide +kernel
theorem dX11_order_24 : decode cX11_order 24 = .ok (.bipush 6, 2) := by decide +kernel
theorem dX11_order_26 : decode cX11_order 26 = .ok (.if_icmp .ge 10, 3) := by decide +kernel
theorem dX11_order_29 : decode cX11_order 29 = .ok (.iload_n 2, 1) := by decide +kernel
theorem dX11_order_30 : decode cX11_order 30 = .ok (.iload_n 1, 1) := by decide +kernel
theorem dX11_order_31 : decode cX11_order 31 = .ok (.if_icmp .lt 5, 3) := by decide +kernel
theorem dX11_order_34 : decode cX11_order 34 = .ok (.iconst (-1), 1) := by decide +kernel
theorem dX11_order_35 : decode cX11_order 35 = .ok (.ireturn, 1) := by decide +kernel
theorem dX11_order_36 : decode cX11_order 36 = .ok (.aload_n 0, 1) := by decide +kernel
theorem dX11_order_37 : decode cX11_order 37 = .ok (.iload_n 1, 1) := by decide +kernel
theorem dX11_order_38 : decode cX11_order 38 = .ok (.invokevirtual 337, 3) := by decide +kernel
theorem dX11_order_41 : decode cX11_order 41 = .ok (.iload_n 2, 1) := by decide +kernel
theorem dX11_order_42 : decode cX11_order 42 = .ok (.bipush 6, 2) := by decide +kernel
theorem dX11_order_44 : decode cX11_order 44 = .ok (.if_icmp .ne 10, 3) := by decide +kernel
theorem dX11_order_47 : decode cX11_order 47 = .ok (.aload_n 0, 1) := by decide +kernel
theorem dX11_order_48 : decode cX11_order 48 = .ok (.getfield 80, 3) := by decide +kernel
theorem dX11_order_51 : decode cX11_order 51 = .ok (.iconst 0, 1) := by decide +kernel
theorem dX11_order_52 : decode cX11_order 52 = .ok (.iaload, 1) := by decide +kernel
theorem dX11_order_53 : decode cX11_order 53 = .ok (.ireturn, 1) := by decide +kernel
theorem dX11_order_54 : decode cX11_order 54 = .ok (.iconst 0, 1) := by decide +kernel
theorem dX11_order_55 : decode cX11_order 55 = .ok (.istore_n 3, 1) := by decide +kernel
theorem dX11_order_56 : decode cX11_order 56 = .ok (.iconst (-1), 1) := by decide +kernel
theorem dX11_order_57 : decode cX11_order 57 = .ok (.istore 4, 2) := by decide +kernel
theorem dX11_order_59 : decode cX11_order 59 = .ok (.iconst 0, 1) := by decide +kernel
theorem dX11_order_60 : decode cX11_order 60 = .ok (.istore 5, 2) := by decide +kernel
theorem dX11_order_62 : decode cX11_order 62 = .ok (.iload 5, 2) := by decide +kernel
theorem dX11_order_64 : decode cX11_order 64 = .ok (.iload_n 2, 1) := by decide +kernel
theorem dX11_order_65 : decode cX11_order 65 = .ok (.if_icmp .gt 32, 3) := by decide +kernel
theorem dX11_order_68 : decode cX11_order 68 = .ok (.aload_n 0, 1) := by decide +kernel
theorem dX11_order_69 : decode cX11_order 69 = .ok (.iload_n 1, 1) := by decide +kernel
theorem dX11_order_70 : decode cX11_order 70 = .ok (.iload_n 3, 1) := by decide +kernel
theorem dX11_order_71 : decode cX11_order 71 = .ok (.invokevirtual 340, 3) := by decide +kernel
theorem dX11_order_74 : decode cX11_order 74 = .ok (.istore 4, 2) := by decide +kernel
theorem dX11_order_76 : decode cX11_order 76 = .ok (.iload 4, 2) := by decide +kernel
theorem dX11_order_78 : decode cX11_order 78 = .ok (.iconst (-1), 1) := by decide +kernel
theorem dX11_order_79 : decode cX11_order 79 = .ok (.if_icmp .ne 5, 3) := by decide +kernel
theorem dX11_order_82 : decode cX11_order 82 = .ok (.iconst (-1), 1) := by decide +kernel
theorem dX11_order_83 : decode cX11_order 83 = .ok (.ireturn, 1) := by decide +kernel
theorem dX11_order_84 : decode cX11_order 84 = .ok (.iload_n 3, 1) := by decide +kernel
theorem dX11_order_85 : decode cX11_order 85 = .ok (.iconst 1, 1) := by decide +kernel
theorem dX11_order_86 : decode cX11_order 86 = .ok (.iload 4, 2) := by decide +kernel
theorem dX11_order_88 : decode cX11_order 88 = .ok (.ishl, 1) := by decide +kernel
theorem dX11_order_89 : decode cX11_order 89 = .ok (.ior, 1) := by decide +kernel
theorem dX11_order_90 : decode cX11_order 90 = .ok (.istore_n 3, 1) := by decide +kernel
theorem dX11_order_91 : decode cX11_order 91 = .ok (.iinc 5 1, 3) := by decide +kernel
theorem dX11_order_94 : decode cX11_order 94 = .ok (.goto (-32), 3) := by decide +kernel
theorem dX11_order_97 : decode cX11_order 97 = .ok (.iload 4, 2) := by decide +kernel
theorem dX11_order_99 : decode cX11_order 99 = .ok (.ireturn, 1) := by decide +kernel
theorem dX11_weighOrders_0 : decode cX11_weighOrders 0 = .ok (.iconst 1, 1) := by decide +kernel
theorem dX11_weighOrders_1 : decode cX11_weighOrders 1 = .ok (.iload_n 1, 1) := by decide +kernel
theorem dX11_weighOrders_2 : decode cX11_weighOrders 2 = .ok (.ishl, 1) := by decide +kernel
theorem dX11_weighOrders_3 : decode cX11_weighOrders 3 = .ok (.iconst 1, 1) := by decide +kernel
theorem dX11_weighOrders_4 : decode cX11_weighOrders 4 = .ok (.isub, 1) := by decide +kernel
theorem dX11_weighOrders_5 : decode cX11_weighOrders 5 = .ok (.istore_n 2, 1) := by decide +kernel
theorem dX11_weighOrders_6 : decode cX11_weighOrders 6 = .ok (.iload_n 2, 1) := by decide +kernel
theorem dX11_weighOrders_7 : decode cX11_weighOrders 7 = .ok (.aload_n 0, 1) := by decide +kernel
theorem dX11_weighOrders_8 : decode cX11_weighOrders 8 = .ok (.getfield 80, 3) := by decide +kernel
theorem dX11_weighOrders_11 : decode cX11_weighOrders 11 = .ok (.arraylength, 1) := by decide +kernel
theorem dX11_weighOrders_12 : decode cX11_weighOrders 12 = .ok (.iconst 1, 1) := by decide +kernel
theorem dX11_weighOrders_13 : decode cX11_weighOrders 13 = .ok (.isub, 1) := by decide +kernel
theorem dX11_weighOrders_14 : decode cX11_weighOrders 14 = .ok (.invokestatic 343, 3) := by decide +kernel
theorem dX11_weighOrders_17 : decode cX11_weighOrders 17 = .ok (.istore_n 3, 1) := by decide +kernel
theorem dX11_weighOrders_18 : decode cX11_weighOrders 18 = .ok (.iload_n 3, 1) := by decide +kernel
theorem dX11_weighOrders_19 : decode cX11_weighOrders 19 = .ok (.ifCond .lt 63, 3) := by decide +kernel
theorem dX11_weighOrders_22 : decode cX11_weighOrders 22 = .ok (.aload_n 0, 1) := by decide +kernel
theorem dX11_weighOrders_23 : decode cX11_weighOrders 23 = .ok (.getfield 80, 3) := by decide +kernel
theorem dX11_weighOrders_26 : decode cX11_weighOrders 26 = .ok (.iload_n 3, 1) := by decide +kernel
theorem dX11_weighOrders_27 : decode cX11_weighOrders 27 = .ok (.iconst 0, 1) := by decide +kernel
theorem dX11_weighOrders_28 : decode cX11_weighOrders 28 = .ok (.iastore, 1) := by decide +kernel
theorem dX11_weighOrders_29 : decode cX11_weighOrders 29 = .ok (.iconst 0, 1) := by decide +kernel
theorem dX11_weighOrders_30 : decode cX11_weighOrders 30 = .ok (.istore 4, 2) := by decide +kernel
theorem dX11_weighOrders_32 : decode cX11_weighOrders 32 = .ok (.iload 4, 2) := by decide +kernel
theorem dX11_weighOrders_34 : decode cX11_weighOrders 34 = .ok (.iload_n 1, 1) := by decide +kernel
theorem dX11_weighOrders_35 : decode cX11_weighOrders 35 = .ok (.if_icmp .ge 41, 3) := by decide +kernel
theorem dX11_weighOrders_38 : decode cX11_weighOrders 38 = .ok (.iload_n 3, 1) := by decide +kernel
theorem dX11_weighOrders_39 : decode cX11_weighOrders 39 = .ok (.iload 4, 2) := by decide +kernel
theorem dX11_weighOrders_41 : decode cX11_weighOrders 41 = .ok (.ishr, 1) := by decide +kernel
theorem dX11_weighOrders_42 : decode cX11_weighOrders 42 = .ok (.iconst 1, 1) := by decide +kernel
theorem dX11_weighOrders_43 : decode cX11_weighOrders 43 = .ok (.iand, 1) := by decide +kernel
theorem dX11_weighOrders_44 : decode cX11_weighOrders 44 = .ok (.ifCond .ne 26, 3) := by decide +kernel
theorem dX11_weighOrders_47 : decode cX11_weighOrders 47 = .ok (.aload_n 0, 1) := by decide +kernel
theorem dX11_weighOrders_48 : decode cX11_weighOrders 48 = .ok (.getfield 80, 3) := by decide +kernel
theorem dX11_weighOrders_51 : decode cX11_weighOrders 51 = .ok (.iload_n 3, 1) := by decide +kernel
theorem dX11_weighOrders_52 : decode cX11_weighOrders 52 = .ok (.aload_n 0, 1) := by decide +kernel
theorem dX11_weighOrders_53 : decode cX11_weighOrders 53 = .ok (.getfield 80, 3) := by decide +kernel
theorem dX11_weighOrders_56 : decode cX11_weighOrders 56 = .ok (.iload_n 3, 1) := by decide +kernel
theorem dX11_weighOrders_57 : decode cX11_weighOrders 57 = .ok (.iaload, 1) := by decide +kernel
theorem dX11_weighOrders_58 : decode cX11_weighOrders 58 = .ok (.aload_n 0, 1) := by decide +kernel
theorem dX11_weighOrders_59 : decode cX11_weighOrders 59 = .ok (.iload_n 2, 1) := by decide +kernel
theorem dX11_weighOrders_60 : decode cX11_weighOrders 60 = .ok (.iload_n 3, 1) := by decide +kernel
theorem dX11_weighOrders_61 : decode cX11_weighOrders 61 = .ok (.iload 4, 2) := by decide +kernel
theorem dX11_weighOrders_63 : decode cX11_weighOrders 63 = .ok (.invokevirtual 346, 3) := by decide +kernel
theorem dX11_weighOrders_66 : decode cX11_weighOrders 66 = .ok (.invokestatic 264, 3) := by decide +kernel
theorem dX11_weighOrders_69 : decode cX11_weighOrders 69 = .ok (.iastore, 1) := by decide +kernel
theorem dX11_weighOrders_70 : decode cX11_weighOrders 70 = .ok (.iinc 4 1, 3) := by decide +kernel
theorem dX11_weighOrders_73 : decode cX11_weighOrders 73 = .ok (.goto (-41), 3) := by decide +kernel
theorem dX11_weighOrders_76 : decode cX11_weighOrders 76 = .ok (.iinc 3 (-1), 3) := by decide +kernel
theorem dX11_weighOrders_79 : decode cX11_weighOrders 79 = .ok (.goto (-61), 3) := by decide +kernel
theorem dX11_weighOrders_82 : decode cX11_weighOrders 82 = .ok (.return_, 1) := by decide +kernel
theorem dX11_goDownWith_0 : decode cX11_goDownWith 0 = .ok (.iload_n 2, 1) := by decide +kernel
theorem dX11_goDownWith_1 : decode cX11_goDownWith 1 = .ok (.iconst 1, 1) := by decide +kernel
theorem dX11_goDownWith_2 : decode cX11_goDownWith 2 = .ok (.iload_n 3, 1) := by decide +kernel
theorem dX11_goDownWith_3 : decode cX11_goDownWith 3 = .ok (.ishl, 1) := by decide +kernel
theorem dX11_goDownWith_4 : decode cX11_goDownWith 4 = .ok (.ior, 1) := by decide +kernel
theorem dX11_goDownWith_5 : decode cX11_goDownWith 5 = .ok (.istore 4, 2) := by decide +kernel
theorem dX11_goDownWith_7 : decode cX11_goDownWith 7 = .ok (.iload 4, 2) := by decide +kernel
theorem dX11_goDownWith_9 : decode cX11_goDownWith 9 = .ok (.ifCond .lt 23, 3) := by decide +kernel
theorem dX11_goDownWith_12 : decode cX11_goDownWith 12 = .ok (.iload 4, 2) := by decide +kernel
theorem dX11_goDownWith_14 : decode cX11_goDownWith 14 = .ok (.aload_n 0, 1) := by decide +kernel
theorem dX11_goDownWith_15 : decode cX11_goDownWith 15 = .ok (.getfield 80, 3) := by decide +kernel
theorem dX11_goDownWith_18 : decode cX11_goDownWith 18 = .ok (.arraylength, 1) := by decide +kernel
theorem dX11_goDownWith_19 : decode cX11_goDownWith 19 = .ok (.if_icmp .ge 13, 3) := by decide +kernel
theorem dX11_goDownWith_22 : decode cX11_goDownWith 22 = .ok (.aload_n 0, 1) := by decide +kernel
theorem dX11_goDownWith_23 : decode cX11_goDownWith 23 = .ok (.getfield 80, 3) := by decide +kernel
theorem dX11_goDownWith_26 : decode cX11_goDownWith 26 = .ok (.iload 4, 2) := by decide +kernel
theorem dX11_goDownWith_28 : decode cX11_goDownWith 28 = .ok (.iaload, 1) := by decide +kernel
theorem dX11_goDownWith_29 : decode cX11_goDownWith 29 = .ok (.goto 4, 3) := by decide +kernel
theorem dX11_goDownWith_32 : decode cX11_goDownWith 32 = .ok (.iconst 0, 1) := by decide +kernel
theorem dX11_goDownWith_33 : decode cX11_goDownWith 33 = .ok (.istore 5, 2) := by decide +kernel
theorem dX11_goDownWith_35 : decode cX11_goDownWith 35 = .ok (.iload 5, 2) := by decide +kernel
theorem dX11_goDownWith_37 : decode cX11_goDownWith 37 = .ok (.aload_n 0, 1) := by decide +kernel
theorem dX11_goDownWith_38 : decode cX11_goDownWith 38 = .ok (.getfield 32, 3) := by decide +kernel
theorem dX11_goDownWith_41 : decode cX11_goDownWith 41 = .ok (.getfield 227, 3) := by decide +kernel
theorem dX11_goDownWith_44 : decode cX11_goDownWith 44 = .ok (.iload_n 3, 1) := by decide +kernel
theorem dX11_goDownWith_45 : decode cX11_goDownWith 45 = .ok (.iload_n 1, 1) := by decide +kernel
theorem dX11_goDownWith_46 : decode cX11_goDownWith 46 = .ok (.iload 4, 2) := by decide +kernel
theorem dX11_goDownWith_48 : decode cX11_goDownWith 48 = .ok (.iconst (-1), 1) := by decide +kernel
theorem dX11_goDownWith_49 : decode cX11_goDownWith 49 = .ok (.ixor, 1) := by decide +kernel
theorem dX11_goDownWith_50 : decode cX11_goDownWith 50 = .ok (.iand, 1) := by decide +kernel
theorem dX11_goDownWith_51 : decode cX11_goDownWith 51 = .ok (.invokevirtual 350, 3) := by decide +kernel
theorem dX11_goDownWith_54 : decode cX11_goDownWith 54 = .ok (.iadd, 1) := by decide +kernel
theorem dX11_goDownWith_55 : decode cX11_goDownWith 55 = .ok (.ireturn, 1) := by decide +kernel
theorem dX11_nextShop_0 : decode cX11_nextShop 0 = .ok (.iconst 1, 1) := by decide +kernel
theorem dX11_nextShop_1 : decode cX11_nextShop 1 = .ok (.iload_n 1, 1) := by decide +kernel
theorem dX11_nextShop_2 : decode cX11_nextShop 2 = .ok (.ishl, 1) := by decide +kernel
theorem dX11_nextShop_3 : decode cX11_nextShop 3 = .ok (.iconst 1, 1) := by decide +kernel
theorem dX11_nextShop_4 : decode cX11_nextShop 4 = .ok (.isub, 1) := by decide +kernel
theorem dX11_nextShop_5 : decode cX11_nextShop 5 = .ok (.istore_n 3, 1) := by decide +kernel
theorem dX11_nextShop_6 : decode cX11_nextShop 6 = .ok (.iload_n 2, 1) := by decide +kernel
theorem dX11_nextShop_7 : decode cX11_nextShop 7 = .ok (.ifCond .lt 12, 3) := by decide +kernel
theorem dX11_nextShop_10 : decode cX11_nextShop 10 = .ok (.iload_n 2, 1) := by decide +kernel
theorem dX11_nextShop_11 : decode cX11_nextShop 11 = .ok (.aload_n 0, 1) := by decide +kernel
theorem dX11_nextShop_12 : decode cX11_nextShop 12 = .ok (.getfield 80, 3) := by decide +kernel
theorem dX11_nextShop_15 : decode cX11_nextShop 15 = .ok (.arraylength, 1) := by decide +kernel
theorem dX11_nextShop_16 : decode cX11_nextShop 16 = .ok (.if_icmp .lt 5, 3) := by decide +kernel
theorem dX11_nextShop_19 : decode cX11_nextShop 19 = .ok (.iconst (-1), 1) := by decide +kernel
theorem dX11_nextShop_20 : decode cX11_nextShop 20 = .ok (.ireturn, 1) := by decide +kernel
theorem dX11_nextShop_21 : decode cX11_nextShop 21 = .ok (.iconst 0, 1) := by decide +kernel
theorem dX11_nextShop_22 : decode cX11_nextShop 22 = .ok (.istore 4, 2) := by decide +kernel
theorem dX11_nextShop_24 : decode cX11_nextShop 24 = .ok (.iload 4, 2) := by decide +kernel
theorem dX11_nextShop_26 : decode cX11_nextShop 26 = .ok (.iload_n 1, 1) := by decide +kernel
theorem dX11_nextShop_27 : decode cX11_nextShop 27 = .ok (.if_icmp .ge 38, 3) := by decide +kernel
theorem dX11_nextShop_30 : decode cX11_nextShop 30 = .ok (.iload_n 2, 1) := by decide +kernel
theorem dX11_nextShop_31 : decode cX11_nextShop 31 = .ok (.iload 4, 2) := by decide +kernel
theorem dX11_nextShop_33 : decode cX11_nextShop 33 = .ok (.ishr, 1) := by decide +kernel
theorem dX11_nextShop_34 : decode cX11_nextShop 34 = .ok (.iconst 1, 1) := by decide +kernel
theorem dX11_nextShop_35 : decode cX11_nextShop 35 = .ok (.iand, 1) := by decide +kernel
theorem dX11_nextShop_36 : decode cX11_nextShop 36 = .ok (.ifCond .ne 23, 3) := by decide +kernel
theorem dX11_nextShop_39 : decode cX11_nextShop 39 = .ok (.aload_n 0, 1) := by decide +kernel
theorem dX11_nextShop_40 : decode cX11_nextShop 40 = .ok (.iload_n 3, 1) := by decide +kernel
theorem dX11_nextShop_41 : decode cX11_nextShop 41 = .ok (.iload_n 2, 1) := by decide +kernel
theorem dX11_nextShop_42 : decode cX11_nextShop 42 = .ok (.iload 4, 2) := by decide +kernel
theorem dX11_nextShop_44 : decode cX11_nextShop 44 = .ok (.invokevirtual 346, 3) := by decide +kernel
theorem dX11_nextShop_47 : decode cX11_nextShop 47 = .ok (.aload_n 0, 1) := by decide +kernel
theorem dX11_nextShop_48 : decode cX11_nextShop 48 = .ok (.getfield 80, 3) := by decide +kernel
theorem dX11_nextShop_51 : decode cX11_nextShop 51 = .ok (.iload_n 2, 1) := by decide +kernel
theorem dX11_nextShop_52 : decode cX11_nextShop 52 = .ok (.iaload, 1) := by decide +kernel
theorem dX11_nextShop_53 : decode cX11_nextShop 53 = .ok (.if_icmp .ne 6, 3) := by decide +kernel
theorem dX11_nextShop_56 : decode cX11_nextShop 56 = .ok (.iload 4, 2) := by decide +kernel
theorem dX11_nextShop_58 : decode cX11_nextShop 58 = .ok (.ireturn, 1) := by decide +kernel
theorem dX11_nextShop_59 : decode cX11_nextShop 59 = .ok (.iinc 4 1, 3) := by decide +kernel
theorem dX11_nextShop_62 : decode cX11_nextShop 62 = .ok (.goto (-38), 3) := by decide +kernel
theorem dX11_nextShop_65 : decode cX11_nextShop 65 = .ok (.iconst (-1), 1) := by decide +kernel
theorem dX11_nextShop_66 : decode cX11_nextShop 66 = .ok (.ireturn, 1) := by decide +kernel
theorem dX11_beds_0 : decode cX11_beds 0 = .ok (.aload_n 0, 1) := by decide +kernel
theorem dX11_beds_1 : decode cX11_beds 1 = .ok (.getfield 32, 3) := by decide +kernel
theorem dX11_beds_4 : decode cX11_beds 4 = .ok (.getfield 107, 3) := by decide +kernel
theorem dX11_beds_7 : decode cX11_beds 7 = .ok (.getfield 110, 3) := by decide +kernel
theorem dX11_beds_10 : decode cX11_beds 10 = .ok (.ifCond .ne 5, 3) := by decide +kernel
theorem dX11_beds_13 : decode cX11_beds 13 = .ok (.iconst (-1), 1) := by decide +kernel
theorem dX11_beds_14 : decode cX11_beds 14 = .ok (.ireturn, 1) := by decide +kernel
theorem dX11_beds_15 : decode cX11_beds 15 = .ok (.iconst 0, 1) := by decide +kernel
theorem dX11_beds_16 : decode cX11_beds 16 = .ok (.istore_n 1, 1) := by decide +kernel
theorem dX11_beds_17 : decode cX11_beds 17 = .ok (.iconst 0, 1) := by decide +kernel
theorem dX11_beds_18 : decode cX11_beds 18 = .ok (.istore_n 2, 1) := by decide +kernel
theorem dX11_beds_19 : decode cX11_beds 19 = .ok (.iload_n 2, 1) := by decide +kernel
theorem dX11_beds_20 : decode cX11_beds 20 = .ok (.aload_n 0, 1) := by decide +kernel
theorem dX11_beds_21 : decode cX11_beds 21 = .ok (.getfield 32, 3) := by decide +kernel
theorem dX11_beds_24 : decode cX11_beds 24 = .ok (.getfield 107, 3) := by decide +kernel
theorem dX11_beds_27 : decode cX11_beds 27 = .ok (.getfield 353, 3) := by decide +kernel
theorem dX11_beds_30 : decode cX11_beds 30 = .ok (.if_icmp .ge 29, 3) := by decide +kernel
theorem dX11_beds_33 : decode cX11_beds 33 = .ok (.iload_n 2, 1) := by decide +kernel
theorem dX11_beds_34 : decode cX11_beds 34 = .ok (.bipush 8, 2) := by decide +kernel
theorem dX11_beds_36 : decode cX11_beds 36 = .ok (.if_icmp .ge 23, 3) := by decide +kernel
theorem dX11_beds_39 : decode cX11_beds 39 = .ok (.aload_n 0, 1) := by decide +kernel
theorem dX11_beds_40 : decode cX11_beds 40 = .ok (.iload_n 2, 1) := by decide +kernel
theorem dX11_beds_41 : decode cX11_beds 41 = .ok (.invokevirtual 356, 3) := by decide +kernel
theorem dX11_beds_44 : decode cX11_beds 44 = .ok (.ifCond .ne 9, 3) := by decide +kernel
theorem dX11_beds_47 : decode cX11_beds 47 = .ok (.iload_n 1, 1) := by decide +kernel
theorem dX11_beds_48 : decode cX11_beds 48 = .ok (.iconst 1, 1) := by decide +kernel
theorem dX11_beds_49 : decode cX11_beds 49 = .ok (.iload_n 2, 1) := by decide +kernel
theorem dX11_beds_50 : decode cX11_beds 50 = .ok (.ishl, 1) := by decide +kernel
theorem dX11_beds_51 : decode cX11_beds 51 = .ok (.ior, 1) := by decide +kernel
theorem dX11_beds_52 : decode cX11_beds 52 = .ok (.istore_n 1, 1) := by decide +kernel
theorem dX11_beds_53 : decode cX11_beds 53 = .ok (.iinc 2 1, 3) := by decide +kernel
theorem dX11_beds_56 : decode cX11_beds 56 = .ok (.goto (-37), 3) := by decide +kernel
theorem dX11_beds_59 : decode cX11_beds 59 = .ok (.iload_n 1, 1) := by decide +kernel
theorem dX11_beds_60 : decode cX11_beds 60 = .ok (.ireturn, 1) := by decide +kernel
theorem dX11_comesHome_0 : decode cX11_comesHome 0 = .ok (.aload_n 0, 1) := by decide +kernel
theorem dX11_comesHome_1 : decode cX11_comesHome 1 = .ok (.getfield 32, 3) := by decide +kernel
theorem dX11_comesHome_4 : decode cX11_comesHome 4 = .ok (.getfield 130, 3) := by decide +kernel
theorem dX11_comesHome_7 : decode cX11_comesHome 7 = .ok (.astore_n 2, 1) := by decide +kernel
theorem dX11_comesHome_8 : decode cX11_comesHome 8 = .ok (.aload_n 0, 1) := by decide +kernel
theorem dX11_comesHome_9 : decode cX11_comesHome 9 = .ok (.getfield 32, 3) := by decide +kernel
theorem dX11_comesHome_12 : decode cX11_comesHome 12 = .ok (.getfield 107, 3) := by decide +kernel
theorem dX11_comesHome_15 : decode cX11_comesHome 15 = .ok (.iload_n 1, 1) := by decide +kernel
theorem dX11_comesHome_16 : decode cX11_comesHome 16 = .ok (.invokevirtual 161, 3) := by decide +kernel
theorem dX11_comesHome_19 : decode cX11_comesHome 19 = .ok (.ifCond .ne 5, 3) := by decide +kernel
theorem dX11_comesHome_22 : decode cX11_comesHome 22 = .ok (.iconst 1, 1) := by decide +kernel
theorem dX11_comesHome_23 : decode cX11_comesHome 23 = .ok (.ireturn, 1) := by decide +kernel
theorem dX11_comesHome_24 : decode cX11_comesHome 24 = .ok (.aload_n 0, 1) := by decide +kernel
theorem dX11_comesHome_25 : decode cX11_comesHome 25 = .ok (.getfield 32, 3) := by decide +kernel
theorem dX11_comesHome_28 : decode cX11_comesHome 28 = .ok (.getfield 107, 3) := by decide +kernel
theorem dX11_comesHome_31 : decode cX11_comesHome 31 = .ok (.getfield 167, 3) := by decide +kernel
theorem dX11_comesHome_34 : decode cX11_comesHome 34 = .ok (.iload_n 1, 1) := by decide +kernel
theorem dX11_comesHome_35 : decode cX11_comesHome 35 = .ok (.iaload, 1) := by decide +kernel
theorem dX11_comesHome_36 : decode cX11_comesHome 36 = .ok (.istore_n 3, 1) := by decide +kernel
theorem dX11_comesHome_37 : decode cX11_comesHome 37 = .ok (.aload_n 2, 1) := by decide +kernel
theorem dX11_comesHome_38 : decode cX11_comesHome 38 = .ok (.getfield 164, 3) := by decide +kernel
theorem dX11_comesHome_41 : decode cX11_comesHome 41 = .ok (.iload_n 1, 1) := by decide +kernel
theorem dX11_comesHome_42 : decode cX11_comesHome 42 = .ok (.iaload, 1) := by decide +kernel
theorem dX11_comesHome_43 : decode cX11_comesHome 43 = .ok (.iconst (-1), 1) := by decide +kernel
theorem dX11_comesHome_44 : decode cX11_comesHome 44 = .ok (.if_icmp .ne 7, 3) := by decide +kernel
theorem dX11_comesHome_47 : decode cX11_comesHome 47 = .ok (.iconst 1, 1) := by decide +kernel
theorem dX11_comesHome_48 : decode cX11_comesHome 48 = .ok (.goto 4, 3) := by decide +kernel
theorem dX11_comesHome_51 : decode cX11_comesHome 51 = .ok (.iconst 0, 1) := by decide +kernel
theorem dX11_comesHome_52 : decode cX11_comesHome 52 = .ok (.istore 4, 2) := by decide +kernel
theorem dX11_comesHome_54 : decode cX11_comesHome 54 = .ok (.aload_n 2, 1) := by decide +kernel
theorem dX11_comesHome_55 : decode cX11_comesHome 55 = .ok (.getfield 179, 3) := by decide +kernel
theorem dX11_comesHome_58 : decode cX11_comesHome 58 = .ok (.sipush 1439, 3) := by decide +kernel
theorem dX11_comesHome_61 : decode cX11_comesHome 61 = .ok (.if_icmp .le 19, 3) := by decide +kernel
theorem dX11_comesHome_64 : decode cX11_comesHome 64 = .ok (.aload_n 2, 1) := by decide +kernel
theorem dX11_comesHome_65 : decode cX11_comesHome 65 = .ok (.getfield 164, 3) := by decide +kernel
theorem dX11_comesHome_68 : decode cX11_comesHome 68 = .ok (.iload_n 1, 1) := by decide +kernel
theorem dX11_comesHome_69 : decode cX11_comesHome 69 = .ok (.iaload, 1) := by decide +kernel
theorem dX11_comesHome_70 : decode cX11_comesHome 70 = .ok (.iload_n 3, 1) := by decide +kernel
theorem dX11_comesHome_71 : decode cX11_comesHome 71 = .ok (.if_icmp .ne 7, 3) := by decide +kernel
theorem dX11_comesHome_74 : decode cX11_comesHome 74 = .ok (.iconst 1, 1) := by decide +kernel
theorem dX11_comesHome_75 : decode cX11_comesHome 75 = .ok (.goto 4, 3) := by decide +kernel
theorem dX11_comesHome_78 : decode cX11_comesHome 78 = .ok (.iconst 0, 1) := by decide +kernel
theorem dX11_comesHome_79 : decode cX11_comesHome 79 = .ok (.ireturn, 1) := by decide +kernel
theorem dX11_comesHome_80 : decode cX11_comesHome 80 = .ok (.iload 4, 2) := by decide +kernel
theorem dX11_comesHome_82 : decode cX11_comesHome 82 = .ok (.ifCond .eq 12, 3) := by decide +kernel
theorem dX11_comesHome_85 : decode cX11_comesHome 85 = .ok (.aload_n 2, 1) := by decide +kernel
theorem dX11_comesHome_86 : decode cX11_comesHome 86 = .ok (.getfield 173, 3) := by decide +kernel
theorem dX11_comesHome_89 : decode cX11_comesHome 89 = .ok (.iload_n 1, 1) := by decide +kernel
theorem dX11_comesHome_90 : decode cX11_comesHome 90 = .ok (.iaload, 1) := by decide +kernel
theorem dX11_comesHome_91 : decode cX11_comesHome 91 = .ok (.goto 9, 3) := by decide +kernel
theorem dX11_comesHome_94 : decode cX11_comesHome 94 = .ok (.aload_n 2, 1) := by decide +kernel
theorem dX11_comesHome_95 : decode cX11_comesHome 95 = .ok (.getfield 164, 3) := by decide +kernel
theorem dX11_comesHome_98 : decode cX11_comesHome 98 = .ok (.iload_n 1, 1) := by decide +kernel
theorem dX11_comesHome_99 : decode cX11_comesHome 99 = .ok (.iaload, 1) := by decide +kernel
theorem dX11_comesHome_100 : decode cX11_comesHome 100 = .ok (.istore 5, 2) := by decide +kernel
theorem dX11_comesHome_102 : decode cX11_comesHome 102 = .ok (.iload 4, 2) := by decide +kernel
theorem dX11_comesHome_104 : decode cX11_comesHome 104 = .ok (.ifCond .eq 12, 3) := by decide +kernel
theorem dX11_comesHome_107 : decode cX11_comesHome 107 = .ok (.aload_n 2, 1) := by decide +kernel
theorem dX11_comesHome_108 : decode cX11_comesHome 108 = .ok (.getfield 176, 3) := by decide +kernel
theorem dX11_comesHome_111 : decode cX11_comesHome 111 = .ok (.iload_n 1, 1) := by decide +kernel
theorem dX11_comesHome_112 : decode cX11_comesHome 112 = .ok (.iaload, 1) := by decide +kernel
theorem dX11_comesHome_113 : decode cX11_comesHome 113 = .ok (.goto 7, 3) := by decide +kernel
theorem dX11_comesHome_116 : decode cX11_comesHome 116 = .ok (.aload_n 2, 1) := by decide +kernel
theorem dX11_comesHome_117 : decode cX11_comesHome 117 = .ok (.getfield 179, 3) := by decide +kernel
theorem dX11_comesHome_120 : decode cX11_comesHome 120 = .ok (.istore 6, 2) := by decide +kernel
theorem dX11_comesHome_122 : decode cX11_comesHome 122 = .ok (.aload_n 0, 1) := by decide +kernel
theorem dX11_comesHome_123 : decode cX11_comesHome 123 = .ok (.getfield 50, 3) := by decide +kernel
theorem dX11_comesHome_126 : decode cX11_comesHome 126 = .ok (.aload_n 0, 1) := by decide +kernel
theorem dX11_comesHome_127 : decode cX11_comesHome 127 = .ok (.getfield 32, 3) := by decide +kernel
theorem dX11_comesHome_130 : decode cX11_comesHome 130 = .ok (.getfield 107, 3) := by decide +kernel
theorem dX11_comesHome_133 : decode cX11_comesHome 133 = .ok (.iload 5, 2) := by decide +kernel
theorem dX11_comesHome_135 : decode cX11_comesHome 135 = .ok (.iload 6, 2) := by decide +kernel
theorem dX11_comesHome_137 : decode cX11_comesHome 137 = .ok (.aload_n 2, 1) := by decide +kernel
theorem dX11_comesHome_138 : decode cX11_comesHome 138 = .ok (.getfield 170, 3) := by decide +kernel
theorem dX11_comesHome_141 : decode cX11_comesHome 141 = .ok (.iload_n 1, 1) := by decide +kernel
theorem dX11_comesHome_142 : decode cX11_comesHome 142 = .ok (.iaload, 1) := by decide +kernel
theorem dX11_comesHome_143 : decode cX11_comesHome 143 = .ok (.ifCond .ne 7, 3) := by decide +kernel
theorem dX11_comesHome_146 : decode cX11_comesHome 146 = .ok (.iconst 1, 1) := by decide +kernel
theorem dX11_comesHome_147 : decode cX11_comesHome 147 = .ok (.goto 4, 3) := by decide +kernel
theorem dX11_comesHome_150 : decode cX11_comesHome 150 = .ok (.iconst 0, 1) := by decide +kernel
theorem dX11_comesHome_151 : decode cX11_comesHome 151 = .ok (.invokevirtual 209, 3) := by decide +kernel
theorem dX11_comesHome_154 : decode cX11_comesHome 154 = .ok (.aload_n 0, 1) := by decide +kernel
theorem dX11_comesHome_155 : decode cX11_comesHome 155 = .ok (.getfield 50, 3) := by decide +kernel
theorem dX11_comesHome_158 : decode cX11_comesHome 158 = .ok (.iload_n 3, 1) := by decide +kernel
theorem dX11_comesHome_159 : decode cX11_comesHome 159 = .ok (.invokevirtual 212, 3) := by decide +kernel
theorem dX11_comesHome_162 : decode cX11_comesHome 162 = .ok (.sipush 1439, 3) := by decide +kernel
theorem dX11_comesHome_165 : decode cX11_comesHome 165 = .ok (.if_icmp .gt 7, 3) := by decide +kernel
theorem dX11_comesHome_168 : decode cX11_comesHome 168 = .ok (.iconst 1, 1) := by decide +kernel
theorem dX11_comesHome_169 : decode cX11_comesHome 169 = .ok (.goto 4, 3) := by decide +kernel
theorem dX11_comesHome_172 : decode cX11_comesHome 172 = .ok (.iconst 0, 1) := by decide +kernel
theorem dX11_comesHome_173 : decode cX11_comesHome 173 = .ok (.ireturn, 1) := by decide +kernel
theorem dX11_upward_0 : decode cX11_upward 0 = .ok (.aload_n 0, 1) := by decide +kernel
theorem dX11_upward_1 : decode cX11_upward 1 = .ok (.getfield 32, 3) := by decide +kernel
theorem dX11_upward_4 : decode cX11_upward 4 = .ok (.getfield 107, 3) := by decide +kernel
theorem dX11_upward_7 : decode cX11_upward 7 = .ok (.astore_n 2, 1) := by decide +kernel
theorem dX11_upward_8 : decode cX11_upward 8 = .ok (.aload_n 2, 1) := by decide +kernel
theorem dX11_upward_9 : decode cX11_upward 9 = .ok (.getfield 110, 3) := by decide +kernel
theorem dX11_upward_12 : decode cX11_upward 12 = .ok (.ifCond .eq 12, 3) := by decide +kernel
theorem dX11_upward_15 : decode cX11_upward 15 = .ok (.iload_n 1, 1) := by decide +kernel
theorem dX11_upward_16 : decode cX11_upward 16 = .ok (.ifCond .lt 8, 3) := by decide +kernel
theorem dX11_upward_19 : decode cX11_upward 19 = .ok (.iload_n 1, 1) := by decide +kernel
theorem dX11_upward_20 : decode cX11_upward 20 = .ok (.iconst 2, 1) := by decide +kernel
theorem dX11_upward_21 : decode cX11_upward 21 = .ok (.if_icmp .le 5, 3) := by decide +kernel
theorem dX11_upward_24 : decode cX11_upward 24 = .ok (.iconst (-1), 1) := by decide +kernel
theorem dX11_upward_25 : decode cX11_upward 25 = .ok (.ireturn, 1) := by decide +kernel
theorem dX11_upward_26 : decode cX11_upward 26 = .ok (.iload_n 1, 1) := by decide +kernel
theorem dX11_upward_27 : decode cX11_upward 27 = .ok (.iconst 2, 1) := by decide +kernel
theorem dX11_upward_28 : decode cX11_upward 28 = .ok (.if_icmp .ne 13, 3) := by decide +kernel
theorem dX11_upward_31 : decode cX11_upward 31 = .ok (.aload_n 2, 1) := by decide +kernel
theorem dX11_upward_32 : decode cX11_upward 32 = .ok (.iconst (-1), 1) := by decide +kernel
theorem dX11_upward_33 : decode cX11_upward 33 = .ok (.aload_n 0, 1) := by decide +kernel
theorem dX11_upward_34 : decode cX11_upward 34 = .ok (.getfield 74, 3) := by decide +kernel
theorem dX11_upward_37 : decode cX11_upward 37 = .ok (.invokevirtual 359, 3) := by decide +kernel
theorem dX11_upward_40 : decode cX11_upward 40 = .ok (.ireturn, 1) := by decide +kernel
theorem dX11_upward_41 : decode cX11_upward 41 = .ok (.bipush (-2), 2) := by decide +kernel
theorem dX11_upward_43 : decode cX11_upward 43 = .ok (.istore_n 3, 1) := by decide +kernel
theorem dX11_upward_44 : decode cX11_upward 44 = .ok (.bipush (-2), 2) := by decide +kernel
theorem dX11_upward_46 : decode cX11_upward 46 = .ok (.istore 4, 2) := by decide +kernel
theorem dX11_upward_48 : decode cX11_upward 48 = .ok (.iconst 0, 1) := by decide +kernel
theorem dX11_upward_49 : decode cX11_upward 49 = .ok (.istore 5, 2) := by decide +kernel
theorem dX11_upward_51 : decode cX11_upward 51 = .ok (.iload 5, 2) := by decide +kernel
theorem dX11_upward_53 : decode cX11_upward 53 = .ok (.aload_n 2, 1) := by decide +kernel
theorem dX11_upward_54 : decode cX11_upward 54 = .ok (.getfield 362, 3) := by decide +kernel
theorem dX11_upward_57 : decode cX11_upward 57 = .ok (.if_icmp .ge 57, 3) := by decide +kernel
theorem dX11_upward_60 : decode cX11_upward 60 = .ok (.iload 5, 2) := by decide +kernel
theorem dX11_upward_62 : decode cX11_upward 62 = .ok (.bipush 24, 2) := by decide +kernel
theorem dX11_upward_64 : decode cX11_upward 64 = .ok (.if_icmp .ge 50, 3) := by decide +kernel
theorem dX11_upward_67 : decode cX11_upward 67 = .ok (.aload_n 2, 1) := by decide +kernel
theorem dX11_upward_68 : decode cX11_upward 68 = .ok (.getfield 152, 3) := by decide +kernel
theorem dX11_upward_71 : decode cX11_upward 71 = .ok (.iload 5, 2) := by decide +kernel
theorem dX11_upward_73 : decode cX11_upward 73 = .ok (.iaload, 1) := by decide +kernel
theorem dX11_upward_74 : decode cX11_upward 74 = .ok (.ifCond .ne 16, 3) := by decide +kernel
theorem dX11_upward_77 : decode cX11_upward 77 = .ok (.aload_n 2, 1) := by decide +kernel
theorem dX11_upward_78 : decode cX11_upward 78 = .ok (.iload 5, 2) := by decide +kernel
theorem dX11_upward_80 : decode cX11_upward 80 = .ok (.aload_n 0, 1) := by decide +kernel
theorem dX11_upward_81 : decode cX11_upward 81 = .ok (.getfield 74, 3) := by decide +kernel
theorem dX11_upward_84 : decode cX11_upward 84 = .ok (.invokevirtual 359, 3) := by decide +kernel
theorem dX11_upward_87 : decode cX11_upward 87 = .ok (.goto 5, 3) := by decide +kernel
theorem dX11_upward_90 : decode cX11_upward 90 = .ok (.bipush (-2), 2) := by decide +kernel
theorem dX11_upward_92 : decode cX11_upward 92 = .ok (.istore 6, 2) := by decide +kernel
theorem dX11_upward_94 : decode cX11_upward 94 = .ok (.iload 6, 2) := by decide +kernel
theorem dX11_upward_96 : decode cX11_upward 96 = .ok (.iload 4, 2) := by decide +kernel
theorem dX11_upward_98 : decode cX11_upward 98 = .ok (.if_icmp .le 10, 3) := by decide +kernel
theorem dX11_upward_101 : decode cX11_upward 101 = .ok (.iload 6, 2) := by decide +kernel
theorem dX11_upward_103 : decode cX11_upward 103 = .ok (.istore 4, 2) := by decide +kernel
theorem dX11_upward_105 : decode cX11_upward 105 = .ok (.iload 5, 2) := by decide +kernel
theorem dX11_upward_107 : decode cX11_upward 107 = .ok (.istore_n 3, 1) := by decide +kernel
theorem dX11_upward_108 : decode cX11_upward 108 = .ok (.iinc 5 1, 3) := by decide +kernel
theorem dX11_upward_111 : decode cX11_upward 111 = .ok (.goto (-60), 3) := by decide +kernel
theorem dX11_upward_114 : decode cX11_upward 114 = .ok (.iload_n 1, 1) := by decide +kernel
theorem dX11_upward_115 : decode cX11_upward 115 = .ok (.ifCond .ne 7, 3) := by decide +kernel
theorem dX11_upward_118 : decode cX11_upward 118 = .ok (.iload_n 3, 1) := by decide +kernel
theorem dX11_upward_119 : decode cX11_upward 119 = .ok (.goto 5, 3) := by decide +kernel
theorem dX11_upward_122 : decode cX11_upward 122 = .ok (.iload 4, 2) := by decide +kernel
theorem dX11_upward_124 : decode cX11_upward 124 = .ok (.ireturn, 1) := by decide +kernel
theorem dX11_seed_0 : decode cX11_seed 0 = .ok (.iload_n 1, 1) := by decide +kernel
theorem dX11_seed_1 : decode cX11_seed 1 = .ok (.ifCond .ge 5, 3) := by decide +kernel
theorem dX11_seed_4 : decode cX11_seed 4 = .ok (.iconst (-1), 1) := by decide +kernel
theorem dX11_seed_5 : decode cX11_seed 5 = .ok (.ireturn, 1) := by decide +kernel
theorem dX11_seed_6 : decode cX11_seed 6 = .ok (.aload_n 0, 1) := by decide +kernel
theorem dX11_seed_7 : decode cX11_seed 7 = .ok (.getfield 32, 3) := by decide +kernel
theorem dX11_seed_10 : decode cX11_seed 10 = .ok (.getfield 227, 3) := by decide +kernel
theorem dX11_seed_13 : decode cX11_seed 13 = .ok (.getfield 365, 3) := by decide +kernel
theorem dX11_seed_16 : decode cX11_seed 16 = .ok (.istore_n 2, 1) := by decide +kernel
theorem dX11_seed_17 : decode cX11_seed 17 = .ok (.aload_n 0, 1) := by decide +kernel
theorem dX11_seed_18 : decode cX11_seed 18 = .ok (.getfield 32, 3) := by decide +kernel
theorem dX11_seed_21 : decode cX11_seed 21 = .ok (.getfield 227, 3) := by decide +kernel
theorem dX11_seed_24 : decode cX11_seed 24 = .ok (.iload_n 1, 1) := by decide +kernel
theorem dX11_seed_25 : decode cX11_seed 25 = .ok (.putfield 365, 3) := by decide +kernel
theorem dX11_seed_28 : decode cX11_seed 28 = .ok (.iload_n 2, 1) := by decide +kernel
theorem dX11_seed_29 : decode cX11_seed 29 = .ok (.ireturn, 1) := by decide +kernel
theorem dX11_drawn_0 : decode cX11_drawn 0 = .ok (.aload_n 0, 1) := by decide +kernel
theorem dX11_drawn_1 : decode cX11_drawn 1 = .ok (.iload_n 1, 1) := by decide +kernel
theorem dX11_drawn_2 : decode cX11_drawn 2 = .ok (.invokevirtual 190, 3) := by decide +kernel
theorem dX11_drawn_5 : decode cX11_drawn 5 = .ok (.astore 4, 2) := by decide +kernel
theorem dX11_drawn_7 : decode cX11_drawn 7 = .ok (.aload_n 0, 1) := by decide +kernel
theorem dX11_drawn_8 : decode cX11_drawn 8 = .ok (.getfield 32, 3) := by decide +kernel
theorem dX11_drawn_11 : decode cX11_drawn 11 = .ok (.getfield 107, 3) := by decide +kernel
theorem dX11_drawn_14 : decode cX11_drawn 14 = .ok (.getfield 110, 3) := by decide +kernel
theorem dX11_drawn_17 : decode cX11_drawn 17 = .ok (.ifCond .eq 28, 3) := by decide +kernel
theorem dX11_drawn_20 : decode cX11_drawn 20 = .ok (.aload 4, 2) := by decide +kernel
theorem dX11_drawn_22 : decode cX11_drawn 22 = .ok (.ifnull 23, 3) := by decide +kernel
theorem dX11_drawn_25 : decode cX11_drawn 25 = .ok (.iload_n 2, 1) := by decide +kernel
theorem dX11_drawn_26 : decode cX11_drawn 26 = .ok (.iconst 1, 1) := by decide +kernel
theorem dX11_drawn_27 : decode cX11_drawn 27 = .ok (.if_icmp .lt 18, 3) := by decide +kernel
theorem dX11_drawn_30 : decode cX11_drawn 30 = .ok (.iload_n 2, 1) := by decide +kernel
theorem dX11_drawn_31 : decode cX11_drawn 31 = .ok (.bipush 20, 2) := by decide +kernel
theorem dX11_drawn_33 : decode cX11_drawn 33 = .ok (.if_icmp .gt 12, 3) := by decide +kernel
theorem dX11_drawn_36 : decode cX11_drawn 36 = .ok (.iload_n 3, 1) := by decide +kernel
theorem dX11_drawn_37 : decode cX11_drawn 37 = .ok (.ifCond .lt 8, 3) := by decide +kernel
theorem dX11_drawn_40 : decode cX11_drawn 40 = .ok (.iload_n 3, 1) := by decide +kernel
theorem dX11_drawn_41 : decode cX11_drawn 41 = .ok (.iconst 1, 1) := by decide +kernel
theorem dX11_drawn_42 : decode cX11_drawn 42 = .ok (.if_icmp .le 5, 3) := by decide +kernel
theorem dX11_drawn_45 : decode cX11_drawn 45 = .ok (.iconst (-1), 1) := by decide +kernel
theorem dX11_drawn_46 : decode cX11_drawn 46 = .ok (.ireturn, 1) := by decide +kernel
theorem dX11_drawn_47 : decode cX11_drawn 47 = .ok (.aload_n 0, 1) := by decide +kernel
theorem dX11_drawn_48 : decode cX11_drawn 48 = .ok (.getfield 32, 3) := by decide +kernel
theorem dX11_drawn_51 : decode cX11_drawn 51 = .ok (.getfield 227, 3) := by decide +kernel
theorem dX11_drawn_54 : decode cX11_drawn 54 = .ok (.getfield 365, 3) := by decide +kernel
theorem dX11_drawn_57 : decode cX11_drawn 57 = .ok (.istore 5, 2) := by decide +kernel
theorem dX11_drawn_59 : decode cX11_drawn 59 = .ok (.iconst 0, 1) := by decide +kernel
theorem dX11_drawn_60 : decode cX11_drawn 60 = .ok (.istore 6, 2) := by decide +kernel
theorem dX11_drawn_62 : decode cX11_drawn 62 = .ok (.iconst 0, 1) := by decide +kernel
theorem dX11_drawn_63 : decode cX11_drawn 63 = .ok (.istore 7, 2) := by decide +kernel
theorem dX11_drawn_65 : decode cX11_drawn 65 = .ok (.iload 7, 2) := by decide +kernel
theorem dX11_drawn_67 : decode cX11_drawn 67 = .ok (.iload_n 2, 1) := by decide +kernel
theorem dX11_drawn_68 : decode cX11_drawn 68 = .ok (.if_icmp .ge 66, 3) := by decide +kernel
theorem dX11_drawn_71 : decode cX11_drawn 71 = .ok (.aload_n 0, 1) := by decide +kernel
theorem dX11_drawn_72 : decode cX11_drawn 72 = .ok (.getfield 43, 3) := by decide +kernel
theorem dX11_drawn_75 : decode cX11_drawn 75 = .ok (.aload_n 0, 1) := by decide +kernel
theorem dX11_drawn_76 : decode cX11_drawn 76 = .ok (.getfield 32, 3) := by decide +kernel
theorem dX11_drawn_79 : decode cX11_drawn 79 = .ok (.getfield 107, 3) := by decide +kernel
theorem dX11_drawn_82 : decode cX11_drawn 82 = .ok (.iload 5, 2) := by decide +kernel
theorem dX11_drawn_84 : decode cX11_drawn 84 = .ok (.invokevirtual 368, 3) := by decide +kernel
theorem dX11_drawn_87 : decode cX11_drawn 87 = .ok (.istore 5, 2) := by decide +kernel
theorem dX11_drawn_89 : decode cX11_drawn 89 = .ok (.aload_n 0, 1) := by decide +kernel
theorem dX11_drawn_90 : decode cX11_drawn 90 = .ok (.getfield 43, 3) := by decide +kernel
theorem dX11_drawn_93 : decode cX11_drawn 93 = .ok (.aload_n 0, 1) := by decide +kernel
theorem dX11_drawn_94 : decode cX11_drawn 94 = .ok (.getfield 32, 3) := by decide +kernel
theorem dX11_drawn_97 : decode cX11_drawn 97 = .ok (.getfield 107, 3) := by decide +kernel
theorem dX11_drawn_100 : decode cX11_drawn 100 = .ok (.aload 4, 2) := by decide +kernel
theorem dX11_drawn_102 : decode cX11_drawn 102 = .ok (.sipush 1440, 3) := by decide +kernel
theorem dX11_drawn_105 : decode cX11_drawn 105 = .ok (.invokevirtual 194, 3) := by decide +kernel
theorem dX11_drawn_108 : decode cX11_drawn 108 = .ok (.iload 6, 2) := by decide +kernel
theorem dX11_drawn_110 : decode cX11_drawn 110 = .ok (.aload_n 0, 1) := by decide +kernel
theorem dX11_drawn_111 : decode cX11_drawn 111 = .ok (.getfield 43, 3) := by decide +kernel
theorem dX11_drawn_114 : decode cX11_drawn 114 = .ok (.aload_n 0, 1) := by decide +kernel
theorem dX11_drawn_115 : decode cX11_drawn 115 = .ok (.getfield 32, 3) := by decide +kernel
theorem dX11_drawn_118 : decode cX11_drawn 118 = .ok (.getfield 107, 3) := by decide +kernel
theorem dX11_drawn_121 : decode cX11_drawn 121 = .ok (.iload_n 3, 1) := by decide +kernel
theorem dX11_drawn_122 : decode cX11_drawn 122 = .ok (.invokevirtual 202, 3) := by decide +kernel
theorem dX11_drawn_125 : decode cX11_drawn 125 = .ok (.iadd, 1) := by decide +kernel
theorem dX11_drawn_126 : decode cX11_drawn 126 = .ok (.istore 6, 2) := by decide +kernel
theorem dX11_drawn_128 : decode cX11_drawn 128 = .ok (.iinc 7 1, 3) := by decide +kernel
theorem dX11_drawn_131 : decode cX11_drawn 131 = .ok (.goto (-66), 3) := by decide +kernel
theorem dX11_drawn_134 : decode cX11_drawn 134 = .ok (.iload 6, 2) := by decide +kernel
theorem dX11_drawn_136 : decode cX11_drawn 136 = .ok (.ireturn, 1) := by decide +kernel
theorem dX11_count_0 : decode cX11_count 0 = .ok (.iload_n 1, 1) := by decide +kernel
theorem dX11_count_1 : decode cX11_count 1 = .ok (.tableswitch 216 0 13 #[71, 82, 93, 104, 109, 120, 131, 142, 153, 164, 175, 183, 194, 205], 71) := by decide +kernel
theorem dX11_count_72 : decode cX11_count 72 = .ok (.aload_n 0, 1) := by decide +kernel
theorem dX11_count_73 : decode cX11_count 73 = .ok (.getfield 32, 3) := by decide +kernel
theorem dX11_count_76 : decode cX11_count 76 = .ok (.getfield 107, 3) := by decide +kernel
theorem dX11_count_79 : decode cX11_count 79 = .ok (.getfield 110, 3) := by decide +kernel
theorem dX11_count_82 : decode cX11_count 82 = .ok (.ireturn, 1) := by decide +kernel
theorem dX11_count_83 : decode cX11_count 83 = .ok (.aload_n 0, 1) := by decide +kernel
theorem dX11_count_84 : decode cX11_count 84 = .ok (.getfield 32, 3) := by decide +kernel
theorem dX11_count_87 : decode cX11_count 87 = .ok (.getfield 107, 3) := by decide +kernel
theorem dX11_count_90 : decode cX11_count 90 = .ok (.getfield 362, 3) := by decide +kernel
theorem dX11_count_93 : decode cX11_count 93 = .ok (.ireturn, 1) := by decide +kernel
theorem dX11_count_94 : decode cX11_count 94 = .ok (.aload_n 0, 1) := by decide +kernel
theorem dX11_count_95 : decode cX11_count 95 = .ok (.getfield 32, 3) := by decide +kernel
theorem dX11_count_98 : decode cX11_count 98 = .ok (.getfield 107, 3) := by decide +kernel
theorem dX11_count_101 : decode cX11_count 101 = .ok (.getfield 353, 3) := by decide +kernel
theorem dX11_count_104 : decode cX11_count 104 = .ok (.ireturn, 1) := by decide +kernel
theorem dX11_count_105 : decode cX11_count 105 = .ok (.aload_n 0, 1) := by decide +kernel
theorem dX11_count_106 : decode cX11_count 106 = .ok (.getfield 113, 3) := by decide +kernel
theorem dX11_count_109 : decode cX11_count 109 = .ok (.ireturn, 1) := by decide +kernel
theorem dX11_count_110 : decode cX11_count 110 = .ok (.aload_n 0, 1) := by decide +kernel
theorem dX11_count_111 : decode cX11_count 111 = .ok (.getfield 32, 3) := by decide +kernel
theorem dX11_count_114 : decode cX11_count 114 = .ok (.getfield 130, 3) := by decide +kernel
theorem dX11_count_117 : decode cX11_count 117 = .ok (.getfield 179, 3) := by decide +kernel
theorem dX11_count_120 : decode cX11_count 120 = .ok (.ireturn, 1) := by decide +kernel
theorem dX11_count_121 : decode cX11_count 121 = .ok (.aload_n 0, 1) := by decide +kernel
theorem dX11_count_122 : decode cX11_count 122 = .ok (.getfield 32, 3) := by decide +kernel
theorem dX11_count_125 : decode cX11_count 125 = .ok (.getfield 227, 3) := by decide +kernel
theorem dX11_count_128 : decode cX11_count 128 = .ok (.getfield 231, 3) := by decide +kernel
theorem dX11_count_131 : decode cX11_count 131 = .ok (.ireturn, 1) := by decide +kernel
theorem dX11_count_132 : decode cX11_count 132 = .ok (.aload_n 0, 1) := by decide +kernel
theorem dX11_count_133 : decode cX11_count 133 = .ok (.getfield 32, 3) := by decide +kernel
theorem dX11_count_136 : decode cX11_count 136 = .ok (.getfield 227, 3) := by decide +kernel
theorem dX11_count_139 : decode cX11_count 139 = .ok (.getfield 270, 3) := by decide +kernel
theorem dX11_count_142 : decode cX11_count 142 = .ok (.ireturn, 1) := by decide +kernel
theorem dX11_count_143 : decode cX11_count 143 = .ok (.aload_n 0, 1) := by decide +kernel
theorem dX11_count_144 : decode cX11_count 144 = .ok (.getfield 32, 3) := by decide +kernel
theorem dX11_count_147 : decode cX11_count 147 = .ok (.getfield 227, 3) := by decide +kernel
theorem dX11_count_150 : decode cX11_count 150 = .ok (.getfield 306, 3) := by decide +kernel
theorem dX11_count_153 : decode cX11_count 153 = .ok (.ireturn, 1) := by decide +kernel
theorem dX11_count_154 : decode cX11_count 154 = .ok (.aload_n 0, 1) := by decide +kernel
theorem dX11_count_155 : decode cX11_count 155 = .ok (.getfield 32, 3) := by decide +kernel
theorem dX11_count_158 : decode cX11_count 158 = .ok (.getfield 227, 3) := by decide +kernel
theorem dX11_count_161 : decode cX11_count 161 = .ok (.getfield 331, 3) := by decide +kernel
theorem dX11_count_164 : decode cX11_count 164 = .ok (.ireturn, 1) := by decide +kernel
theorem dX11_count_165 : decode cX11_count 165 = .ok (.aload_n 0, 1) := by decide +kernel
theorem dX11_count_166 : decode cX11_count 166 = .ok (.getfield 32, 3) := by decide +kernel
theorem dX11_count_169 : decode cX11_count 169 = .ok (.getfield 227, 3) := by decide +kernel
theorem dX11_count_172 : decode cX11_count 172 = .ok (.getfield 365, 3) := by decide +kernel
theorem dX11_count_175 : decode cX11_count 175 = .ok (.ireturn, 1) := by decide +kernel
theorem dX11_count_176 : decode cX11_count 176 = .ok (.aload_n 0, 1) := by decide +kernel
theorem dX11_count_177 : decode cX11_count 177 = .ok (.getfield 10, 3) := by decide +kernel
theorem dX11_count_180 : decode cX11_count 180 = .ok (.getfield 83, 3) := by decide +kernel
theorem dX11_count_183 : decode cX11_count 183 = .ok (.ireturn, 1) := by decide +kernel
theorem dX11_count_184 : decode cX11_count 184 = .ok (.aload_n 0, 1) := by decide +kernel
theorem dX11_count_185 : decode cX11_count 185 = .ok (.getfield 32, 3) := by decide +kernel
theorem dX11_count_188 : decode cX11_count 188 = .ok (.getfield 107, 3) := by decide +kernel
theorem dX11_count_191 : decode cX11_count 191 = .ok (.getfield 371, 3) := by decide +kernel
theorem dX11_count_194 : decode cX11_count 194 = .ok (.ireturn, 1) := by decide +kernel
theorem dX11_count_195 : decode cX11_count 195 = .ok (.aload_n 0, 1) := by decide +kernel
theorem dX11_count_196 : decode cX11_count 196 = .ok (.getfield 32, 3) := by decide +kernel
theorem dX11_count_199 : decode cX11_count 199 = .ok (.getfield 107, 3) := by decide +kernel
theorem dX11_count_202 : decode cX11_count 202 = .ok (.getfield 328, 3) := by decide +kernel
theorem dX11_count_205 : decode cX11_count 205 = .ok (.ireturn, 1) := by decide +kernel
theorem dX11_count_206 : decode cX11_count 206 = .ok (.aload_n 0, 1) := by decide +kernel
theorem dX11_count_207 : decode cX11_count 207 = .ok (.getfield 32, 3) := by decide +kernel
theorem dX11_count_210 : decode cX11_count 210 = .ok (.getfield 107, 3) := by decide +kernel
theorem dX11_count_213 : decode cX11_count 213 = .ok (.getfield 312, 3) := by decide +kernel
theorem dX11_count_216 : decode cX11_count 216 = .ok (.ireturn, 1) := by decide +kernel
theorem dX11_count_217 : decode cX11_count 217 = .ok (.iconst (-1), 1) := by decide +kernel
theorem dX11_count_218 : decode cX11_count 218 = .ok (.ireturn, 1) := by decide +kernel
theorem dX11_image_0 : decode cX11_image 0 = .ok (.iload_n 1, 1) := by decide +kernel
theorem dX11_image_1 : decode cX11_image 1 = .ok (.ifCond .lt 8, 3) := by decide +kernel
theorem dX11_image_4 : decode cX11_image 4 = .ok (.iload_n 1, 1) := by decide +kernel
theorem dX11_image_5 : decode cX11_image 5 = .ok (.iconst 4, 1) := by decide +kernel
theorem dX11_image_6 : decode cX11_image 6 = .ok (.if_icmp .lt 5, 3) := by decide +kernel
theorem dX11_image_9 : decode cX11_image 9 = .ok (.iconst (-1), 1) := by decide +kernel
theorem dX11_image_10 : decode cX11_image 10 = .ok (.ireturn, 1) := by decide +kernel
theorem dX11_image_11 : decode cX11_image 11 = .ok (.aload_n 0, 1) := by decide +kernel
theorem dX11_image_12 : decode cX11_image 12 = .ok (.getfield 36, 3) := by decide +kernel
theorem dX11_image_15 : decode cX11_image 15 = .ok (.iload_n 1, 1) := by decide +kernel
theorem dX11_image_16 : decode cX11_image 16 = .ok (.aaload, 1) := by decide +kernel
theorem dX11_image_17 : decode cX11_image 17 = .ok (.astore_n 2, 1) := by decide +kernel
theorem dX11_image_18 : decode cX11_image 18 = .ok (.aload_n 2, 1) := by decide +kernel
theorem dX11_image_19 : decode cX11_image 19 = .ok (.ifnonnull 18, 3) := by decide +kernel
theorem dX11_image_22 : decode cX11_image 22 = .ok (.new 29, 3) := by decide +kernel
theorem dX11_image_25 : decode cX11_image 25 = .ok (.dup, 1) := by decide +kernel
theorem dX11_image_26 : decode cX11_image 26 = .ok (.invokespecial 31, 3) := by decide +kernel
theorem dX11_image_29 : decode cX11_image 29 = .ok (.astore_n 2, 1) := by decide +kernel
theorem dX11_image_30 : decode cX11_image 30 = .ok (.aload_n 0, 1) := by decide +kernel
theorem dX11_image_31 : decode cX11_image 31 = .ok (.getfield 36, 3) := by decide +kernel
theorem dX11_image_34 : decode cX11_image 34 = .ok (.iload_n 1, 1) := by decide +kernel
theorem dX11_image_35 : decode cX11_image 35 = .ok (.aload_n 2, 1) := by decide +kernel
theorem dX11_image_36 : decode cX11_image 36 = .ok (.aastore, 1) := by decide +kernel
theorem dX11_image_37 : decode cX11_image 37 = .ok (.aload_n 2, 1) := by decide +kernel
theorem dX11_image_38 : decode cX11_image 38 = .ok (.aload_n 0, 1) := by decide +kernel
theorem dX11_image_39 : decode cX11_image 39 = .ok (.getfield 32, 3) := by decide +kernel
theorem dX11_image_42 : decode cX11_image 42 = .ok (.invokevirtual 374, 3) := by decide +kernel
theorem dX11_image_45 : decode cX11_image 45 = .ok (.aload_n 0, 1) := by decide +kernel
theorem dX11_image_46 : decode cX11_image 46 = .ok (.getfield 32, 3) := by decide +kernel
theorem dX11_image_49 : decode cX11_image 49 = .ok (.getfield 130, 3) := by decide +kernel
theorem dX11_image_52 : decode cX11_image 52 = .ok (.getfield 179, 3) := by decide +kernel
theorem dX11_image_55 : decode cX11_image 55 = .ok (.ireturn, 1) := by decide +kernel
theorem dX11_back_0 : decode cX11_back 0 = .ok (.iload_n 1, 1) := by decide +kernel
theorem dX11_back_1 : decode cX11_back 1 = .ok (.ifCond .lt 17, 3) := by decide +kernel
theorem dX11_back_4 : decode cX11_back 4 = .ok (.iload_n 1, 1) := by decide +kernel
theorem dX11_back_5 : decode cX11_back 5 = .ok (.iconst 4, 1) := by decide +kernel
theorem dX11_back_6 : decode cX11_back 6 = .ok (.if_icmp .ge 12, 3) := by decide +kernel
theorem dX11_back_9 : decode cX11_back 9 = .ok (.aload_n 0, 1) := by decide +kernel
theorem dX11_back_10 : decode cX11_back 10 = .ok (.getfield 36, 3) := by decide +kernel
theorem dX11_back_13 : decode cX11_back 13 = .ok (.iload_n 1, 1) := by decide +kernel
theorem dX11_back_14 : decode cX11_back 14 = .ok (.aaload, 1) := by decide +kernel
theorem dX11_back_15 : decode cX11_back 15 = .ok (.ifnonnull 5, 3) := by decide +kernel
theorem dX11_back_18 : decode cX11_back 18 = .ok (.iconst (-1), 1) := by decide +kernel
theorem dX11_back_19 : decode cX11_back 19 = .ok (.ireturn, 1) := by decide +kernel
theorem dX11_back_20 : decode cX11_back 20 = .ok (.aload_n 0, 1) := by decide +kernel
theorem dX11_back_21 : decode cX11_back 21 = .ok (.getfield 32, 3) := by decide +kernel
theorem dX11_back_24 : decode cX11_back 24 = .ok (.aload_n 0, 1) := by decide +kernel
theorem dX11_back_25 : decode cX11_back 25 = .ok (.getfield 36, 3) := by decide +kernel
theorem dX11_back_28 : decode cX11_back 28 = .ok (.iload_n 1, 1) := by decide +kernel
theorem dX11_back_29 : decode cX11_back 29 = .ok (.aaload, 1) := by decide +kernel
theorem dX11_back_30 : decode cX11_back 30 = .ok (.invokevirtual 374, 3) := by decide +kernel
theorem dX11_back_33 : decode cX11_back 33 = .ok (.aload_n 0, 1) := by decide +kernel
theorem dX11_back_34 : decode cX11_back 34 = .ok (.getfield 32, 3) := by decide +kernel
theorem dX11_back_37 : decode cX11_back 37 = .ok (.getfield 130, 3) := by decide +kernel
theorem dX11_back_40 : decode cX11_back 40 = .ok (.getfield 179, 3) := by decide +kernel
theorem dX11_back_43 : decode cX11_back 43 = .ok (.ireturn, 1) := by decide +kernel
theorem dX11_ruleTold_0 : decode cX11_ruleTold 0 = .ok (.iload_n 1, 1) := by decide +kernel
theorem dX11_ruleTold_1 : decode cX11_ruleTold 1 = .ok (.ifCond .lt 17, 3) := by decide +kernel
theorem dX11_ruleTold_4 : decode cX11_ruleTold 4 = .ok (.iload_n 1, 1) := by decide +kernel
theorem dX11_ruleTold_5 : decode cX11_ruleTold 5 = .ok (.aload_n 0, 1) := by decide +kernel
theorem dX11_ruleTold_6 : decode cX11_ruleTold 6 = .ok (.getfield 113, 3) := by decide +kernel
theorem dX11_ruleTold_9 : decode cX11_ruleTold 9 = .ok (.if_icmp .ge 9, 3) := by decide +kernel
theorem dX11_ruleTold_12 : decode cX11_ruleTold 12 = .ok (.iload_n 1, 1) := by decide +kernel
theorem dX11_ruleTold_13 : decode cX11_ruleTold 13 = .ok (.bipush 6, 2) := by decide +kernel
theorem dX11_ruleTold_15 : decode cX11_ruleTold 15 = .ok (.if_icmp .lt 7, 3) := by decide +kernel
theorem dX11_ruleTold_18 : decode cX11_ruleTold 18 = .ok (.aconst_null, 1) := by decide +kernel
theorem dX11_ruleTold_19 : decode cX11_ruleTold 19 = .ok (.goto 9, 3) := by decide +kernel
theorem dX11_ruleTold_22 : decode cX11_ruleTold 22 = .ok (.aload_n 0, 1) := by decide +kernel
theorem dX11_ruleTold_23 : decode cX11_ruleTold 23 = .ok (.getfield 25, 3) := by decide +kernel
theorem dX11_ruleTold_26 : decode cX11_ruleTold 26 = .ok (.iload_n 1, 1) := by decide +kernel
theorem dX11_ruleTold_27 : decode cX11_ruleTold 27 = .ok (.aaload, 1) := by decide +kernel
theorem dX11_ruleTold_28 : decode cX11_ruleTold 28 = .ok (.areturn, 1) := by decide +kernel
theorem dX11_isStart_0 : decode cX11_isStart 0 = .ok (.aload_n 0, 1) := by decide +kernel
theorem dX11_isStart_1 : decode cX11_isStart 1 = .ok (.getfield 32, 3) := by decide +kernel
theorem dX11_isStart_4 : decode cX11_isStart 4 = .ok (.getfield 107, 3) := by decide +kernel
theorem dX11_isStart_7 : decode cX11_isStart 7 = .ok (.iload_n 1, 1) := by decide +kernel
theorem dX11_isStart_8 : decode cX11_isStart 8 = .ok (.invokevirtual 123, 3) := by decide +kernel
theorem dX11_isStart_11 : decode cX11_isStart 11 = .ok (.ifCond .eq 14, 3) := by decide +kernel
theorem dX11_isStart_14 : decode cX11_isStart 14 = .ok (.iload_n 2, 1) := by decide +kernel
theorem dX11_isStart_15 : decode cX11_isStart 15 = .ok (.invokestatic 236, 3) := by decide +kernel
theorem dX11_isStart_18 : decode cX11_isStart 18 = .ok (.ifCond .eq 7, 3) := by decide +kernel
theorem dX11_isStart_21 : decode cX11_isStart 21 = .ok (.iconst 1, 1) := by decide +kernel
theorem dX11_isStart_22 : decode cX11_isStart 22 = .ok (.goto 4, 3) := by decide +kernel
theorem dX11_isStart_25 : decode cX11_isStart 25 = .ok (.iconst 0, 1) := by decide +kernel
theorem dX11_isStart_26 : decode cX11_isStart 26 = .ok (.ireturn, 1) := by decide +kernel
theorem dX11_isMinute_0 : decode cX11_isMinute 0 = .ok (.iload_n 0, 1) := by decide +kernel
theorem dX11_isMinute_1 : decode cX11_isMinute 1 = .ok (.ifCond .lt 14, 3) := by decide +kernel
theorem dX11_isMinute_4 : decode cX11_isMinute 4 = .ok (.iload_n 0, 1) := by decide +kernel
theorem dX11_isMinute_5 : decode cX11_isMinute 5 = .ok (.sipush 1439, 3) := by decide +kernel
theorem dX11_isMinute_8 : decode cX11_isMinute 8 = .ok (.if_icmp .gt 7, 3) := by decide +kernel
theorem dX11_isMinute_11 : decode cX11_isMinute 11 = .ok (.iconst 1, 1) := by decide +kernel
theorem dX11_isMinute_12 : decode cX11_isMinute 12 = .ok (.goto 4, 3) := by decide +kernel
theorem dX11_isMinute_15 : decode cX11_isMinute 15 = .ok (.iconst 0, 1) := by decide +kernel
theorem dX11_isMinute_16 : decode cX11_isMinute 16 = .ok (.ireturn, 1) := by decide +kernel
theorem dX11_orNotToday_0 : decode cX11_orNotToday 0 = .ok (.iload_n 0, 1) := by decide +kernel
theorem dX11_orNotToday_1 : decode cX11_orNotToday 1 = .ok (.sipush 1439, 3) := by decide +kernel
theorem dX11_orNotToday_4 : decode cX11_orNotToday 4 = .ok (.if_icmp .le 8, 3) := by decide +kernel
theorem dX11_orNotToday_7 : decode cX11_orNotToday 7 = .ok (.bipush (-2), 2) := by decide +kernel
theorem dX11_orNotToday_9 : decode cX11_orNotToday 9 = .ok (.goto 4, 3) := by decide +kernel
theorem dX11_orNotToday_12 : decode cX11_orNotToday 12 = .ok (.iload_n 0, 1) := by decide +kernel
theorem dX11_orNotToday_13 : decode cX11_orNotToday 13 = .ok (.ireturn, 1) := by decide +kernel
theorem dX11_copyRow_0 : decode cX11_copyRow 0 = .ok (.aload_n 0, 1) := by decide +kernel
theorem dX11_copyRow_1 : decode cX11_copyRow 1 = .ok (.iconst 0, 1) := by decide +kernel
theorem dX11_copyRow_2 : decode cX11_copyRow 2 = .ok (.aload_n 1, 1) := by decide +kernel
theorem dX11_copyRow_3 : decode cX11_copyRow 3 = .ok (.iconst 0, 1) := by decide +kernel
theorem dX11_copyRow_4 : decode cX11_copyRow 4 = .ok (.aload_n 0, 1) := by decide +kernel
theorem dX11_copyRow_5 : decode cX11_copyRow 5 = .ok (.arraylength, 1) := by decide +kernel
theorem dX11_copyRow_6 : decode cX11_copyRow 6 = .ok (.aload_n 1, 1) := by decide +kernel
theorem dX11_copyRow_7 : decode cX11_copyRow 7 = .ok (.arraylength, 1) := by decide +kernel
theorem dX11_copyRow_8 : decode cX11_copyRow 8 = .ok (.invokestatic 343, 3) := by decide +kernel
theorem dX11_copyRow_11 : decode cX11_copyRow 11 = .ok (.invokestatic 377, 3) := by decide +kernel
theorem dX11_copyRow_14 : decode cX11_copyRow 14 = .ok (.return_, 1) := by decide +kernel
theorem dX12_init_0 : decode cX12_init 0 = .ok (.aload_n 0, 1) := by decide +kernel
theorem dX12_init_1 : decode cX12_init 1 = .ok (.invokespecial 1, 3) := by decide +kernel
theorem dX12_init_4 : decode cX12_init 4 = .ok (.aload_n 0, 1) := by decide +kernel
theorem dX12_init_5 : decode cX12_init 5 = .ok (.sipush 400, 3) := by decide +kernel
theorem dX12_init_8 : decode cX12_init 8 = .ok (.newarray .byte, 2) := by decide +kernel
theorem dX12_init_10 : decode cX12_init 10 = .ok (.putfield 7, 3) := by decide +kernel
theorem dX12_init_13 : decode cX12_init 13 = .ok (.aload_n 0, 1) := by decide +kernel
theorem dX12_init_14 : decode cX12_init 14 = .ok (.sipush 2400, 3) := by decide +kernel
theorem dX12_init_17 : decode cX12_init 17 = .ok (.newarray .int, 2) := by decide +kernel
theorem dX12_init_19 : decode cX12_init 19 = .ok (.putfield 13, 3) := by decide +kernel
theorem dX12_init_22 : decode cX12_init 22 = .ok (.aload_n 0, 1) := by decide +kernel
theorem dX12_init_23 : decode cX12_init 23 = .ok (.bipush 7, 2) := by decide +kernel
theorem dX12_init_25 : decode cX12_init 25 = .ok (.newarray .int, 2) := by decide +kernel
theorem dX12_init_27 : decode cX12_init 27 = .ok (.putfield 17, 3) := by decide +kernel
theorem dX12_init_30 : decode cX12_init 30 = .ok (.aload_n 0, 1) := by decide +kernel
theorem dX12_init_31 : decode cX12_init 31 = .ok (.sipush 288, 3) := by decide +kernel
theorem dX12_init_34 : decode cX12_init 34 = .ok (.newarray .int, 2) := by decide +kernel
theorem dX12_init_36 : decode cX12_init 36 = .ok (.putfield 20, 3) := by decide +kernel
theorem dX12_init_39 : decode cX12_init 39 = .ok (.aload_n 0, 1) := by decide +kernel
theorem dX12_init_40 : decode cX12_init 40 = .ok (.bipush 6, 2) := by decide +kernel
theorem dX12_init_42 : decode cX12_init 42 = .ok (.newarray .int, 2) := by decide +kernel
theorem dX12_init_44 : decode cX12_init 44 = .ok (.putfield 23, 3) := by decide +kernel
theorem dX12_init_47 : decode cX12_init 47 = .ok (.aload_n 0, 1) := by decide +kernel
theorem dX12_init_48 : decode cX12_init 48 = .ok (.iconst 3, 1) := by decide +kernel
theorem dX12_init_49 : decode cX12_init 49 = .ok (.newarray .int, 2) := by decide +kernel
theorem dX12_init_51 : decode cX12_init 51 = .ok (.putfield 26, 3) := by decide +kernel
theorem dX12_init_54 : decode cX12_init 54 = .ok (.aload_n 0, 1) := by decide +kernel
theorem dX12_init_55 : decode cX12_init 55 = .ok (.bipush 16, 2) := by decide +kernel
theorem dX12_init_57 : decode cX12_init 57 = .ok (.newarray .int, 2) := by decide +kernel
theorem dX12_init_59 : decode cX12_init 59 = .ok (.putfield 29, 3) := by decide +kernel
theorem dX12_init_62 : decode cX12_init 62 = .ok (.aload_n 0, 1) := by decide +kernel
theorem dX12_init_63 : decode cX12_init 63 = .ok (.sipush 144, 3) := by decide +kernel
theorem dX12_init_66 : decode cX12_init 66 = .ok (.newarray .int, 2) := by decide +kernel
theorem dX12_init_68 : decode cX12_init 68 = .ok (.putfield 32, 3) := by decide +kernel
theorem dX12_init_71 : decode cX12_init 71 = .ok (.aload_n 0, 1) := by decide +kernel
theorem dX12_init_72 : decode cX12_init 72 = .ok (.bipush 8, 2) := by decide +kernel
theorem dX12_init_74 : decode cX12_init 74 = .ok (.newarray .int, 2) := by decide +kernel
theorem dX12_init_76 : decode cX12_init 76 = .ok (.putfield 35, 3) := by decide +kernel
theorem dX12_init_79 : decode cX12_init 79 = .ok (.aload_n 0, 1) := by decide +kernel
theorem dX12_init_80 : decode cX12_init 80 = .ok (.sipush 400, 3) := by decide +kernel
theorem dX12_init_83 : decode cX12_init 83 = .ok (.newarray .int, 2) := by decide +kernel
theorem dX12_init_85 : decode cX12_init 85 = .ok (.putfield 38, 3) := by decide +kernel
theorem dX12_init_88 : decode cX12_init 88 = .ok (.aload_n 0, 1) := by decide +kernel
theorem dX12_init_89 : decode cX12_init 89 = .ok (.bipush 64, 2) := by decide +kernel
theorem dX12_init_91 : decode cX12_init 91 = .ok (.newarray .long, 2) := by decide +kernel
theorem dX12_init_93 : decode cX12_init 93 = .ok (.putfield 41, 3) := by decide +kernel
theorem dX12_init_96 : decode cX12_init 96 = .ok (.aload_n 0, 1) := by decide +kernel
theorem dX12_init_97 : decode cX12_init 97 = .ok (.bipush 8, 2) := by decide +kernel
theorem dX12_init_99 : decode cX12_init 99 = .ok (.newarray .long, 2) := by decide +kernel
theorem dX12_init_101 : decode cX12_init 101 = .ok (.putfield 45, 3) := by decide +kernel
theorem dX12_init_104 : decode cX12_init 104 = .ok (.aload_n 0, 1) := by decide +kernel
theorem dX12_init_105 : decode cX12_init 105 = .ok (.sipush 328, 3) := by decide +kernel
theorem dX12_init_108 : decode cX12_init 108 = .ok (.newarray .int, 2) := by decide +kernel
theorem dX12_init_110 : decode cX12_init 110 = .ok (.putfield 48, 3) := by decide +kernel
theorem dX12_init_113 : decode cX12_init 113 = .ok (.aload_n 0, 1) := by decide +kernel
theorem dX12_init_114 : decode cX12_init 114 = .ok (.sipush 328, 3) := by decide +kernel
theorem dX12_init_117 : decode cX12_init 117 = .ok (.newarray .int, 2) := by decide +kernel
theorem dX12_init_119 : decode cX12_init 119 = .ok (.putfield 51, 3) := by decide +kernel
theorem dX12_init_122 : decode cX12_init 122 = .ok (.aload_n 0, 1) := by decide +kernel
theorem dX12_init_123 : decode cX12_init 123 = .ok (.bipush 32, 2) := by decide +kernel
theorem dX12_init_125 : decode cX12_init 125 = .ok (.newarray .int, 2) := by decide +kernel
theorem dX12_init_127 : decode cX12_init 127 = .ok (.putfield 54, 3) := by decide +kernel
theorem dX12_init_130 : decode cX12_init 130 = .ok (.aload_n 0, 1) := by decide +kernel
theorem dX12_init_131 : decode cX12_init 131 = .ok (.bipush 32, 2) := by decide +kernel
theorem dX12_init_133 : decode cX12_init 133 = .ok (.newarray .boolean, 2) := by decide +kernel
theorem dX12_init_135 : decode cX12_init 135 = .ok (.putfield 57, 3) := by decide +kernel
theorem dX12_init_138 : decode cX12_init 138 = .ok (.aload_n 0, 1) := by decide +kernel
theorem dX12_init_139 : decode cX12_init 139 = .ok (.bipush 16, 2) := by decide +kernel
theorem dX12_init_141 : decode cX12_init 141 = .ok (.newarray .int, 2) := by decide +kernel
theorem dX12_init_143 : decode cX12_init 143 = .ok (.putfield 61, 3) := by decide +kernel
theorem dX12_init_146 : decode cX12_init 146 = .ok (.aload_n 0, 1) := by decide +kernel
theorem dX12_init_147 : decode cX12_init 147 = .ok (.bipush 16, 2) := by decide +kernel
theorem dX12_init_149 : decode cX12_init 149 = .ok (.newarray .int, 2) := by decide +kernel
theorem dX12_init_151 : decode cX12_init 151 = .ok (.putfield 64, 3) := by decide +kernel
theorem dX12_init_154 : decode cX12_init 154 = .ok (.aload_n 0, 1) := by decide +kernel
theorem dX12_init_155 : decode cX12_init 155 = .ok (.sipush 20480, 3) := by decide +kernel
theorem dX12_init_158 : decode cX12_init 158 = .ok (.newarray .int, 2) := by decide +kernel
theorem dX12_init_160 : decode cX12_init 160 = .ok (.putfield 67, 3) := by decide +kernel
theorem dX12_init_163 : decode cX12_init 163 = .ok (.aload_n 0, 1) := by decide +kernel
theorem dX12_init_164 : decode cX12_init 164 = .ok (.bipush 16, 2) := by decide +kernel
theorem dX12_init_166 : decode cX12_init 166 = .ok (.newarray .int, 2) := by decide +kernel
theorem dX12_init_168 : decode cX12_init 168 = .ok (.putfield 70, 3) := by decide +kernel
theorem dX12_init_171 : decode cX12_init 171 = .ok (.aload_n 0, 1) := by decide +kernel
theorem dX12_init_172 : decode cX12_init 172 = .ok (.sipush 1440, 3) := by decide +kernel
theorem dX12_init_175 : decode cX12_init 175 = .ok (.newarray .int, 2) := by decide +kernel
theorem dX12_init_177 : decode cX12_init 177 = .ok (.putfield 73, 3) := by decide +kernel
theorem dX12_init_180 : decode cX12_init 180 = .ok (.aload_n 0, 1) := by decide +kernel
theorem dX12_init_181 : decode cX12_init 181 = .ok (.sipush 1440, 3) := by decide +kernel
theorem dX12_init_184 : decode cX12_init 184 = .ok (.newarray .int, 2) := by decide +kernel
theorem dX12_init_186 : decode cX12_init 186 = .ok (.putfield 76, 3) := by decide +kernel
theorem dX12_init_189 : decode cX12_init 189 = .ok (.aload_n 0, 1) := by decide +kernel
theorem dX12_init_190 : decode cX12_init 190 = .ok (.sipush 1440, 3) := by decide +kernel
theorem dX12_init_193 : decode cX12_init 193 = .ok (.newarray .int, 2) := by decide +kernel
theorem dX12_init_195 : decode cX12_init 195 = .ok (.putfield 79, 3) := by decide +kernel
theorem dX12_init_198 : decode cX12_init 198 = .ok (.aload_n 0, 1) := by decide +kernel
theorem dX12_init_199 : decode cX12_init 199 = .ok (.sipush 1440, 3) := by decide +kernel
theorem dX12_init_202 : decode cX12_init 202 = .ok (.newarray .int, 2) := by decide +kernel
theorem dX12_init_204 : decode cX12_init 204 = .ok (.putfield 82, 3) := by decide +kernel
theorem dX12_init_207 : decode cX12_init 207 = .ok (.aload_n 0, 1) := by decide +kernel
theorem dX12_init_208 : decode cX12_init 208 = .ok (.sipush 1440, 3) := by decide +kernel
theorem dX12_init_211 : decode cX12_init 211 = .ok (.newarray .int, 2) := by decide +kernel
theorem dX12_init_213 : decode cX12_init 213 = .ok (.putfield 85, 3) := by decide +kernel
theorem dX12_init_216 : decode cX12_init 216 = .ok (.aload_n 0, 1) := by decide +kernel
theorem dX12_init_217 : decode cX12_init 217 = .ok (.bipush 16, 2) := by decide +kernel
theorem dX12_init_219 : decode cX12_init 219 = .ok (.newarray .int, 2) := by decide +kernel
theorem dX12_init_221 : decode cX12_init 221 = .ok (.putfield 88, 3) := by decide +kernel
theorem dX12_init_224 : decode cX12_init 224 = .ok (.aload_n 0, 1) := by decide +kernel
theorem dX12_init_225 : decode cX12_init 225 = .ok (.bipush 20, 2) := by decide +kernel
theorem dX12_init_227 : decode cX12_init 227 = .ok (.newarray .int, 2) := by decide +kernel
theorem dX12_init_229 : decode cX12_init 229 = .ok (.putfield 91, 3) := by decide +kernel
theorem dX12_init_232 : decode cX12_init 232 = .ok (.aload_n 0, 1) := by decide +kernel
theorem dX12_init_233 : decode cX12_init 233 = .ok (.bipush 6, 2) := by decide +kernel
theorem dX12_init_235 : decode cX12_init 235 = .ok (.newarray .int, 2) := by decide +kernel
theorem dX12_init_237 : decode cX12_init 237 = .ok (.putfield 94, 3) := by decide +kernel
theorem dX12_init_240 : decode cX12_init 240 = .ok (.aload_n 0, 1) := by decide +kernel
theorem dX12_init_241 : decode cX12_init 241 = .ok (.bipush 6, 2) := by decide +kernel
theorem dX12_init_243 : decode cX12_init 243 = .ok (.newarray .int, 2) := by decide +kernel
theorem dX12_init_245 : decode cX12_init 245 = .ok (.putfield 97, 3) := by decide +kernel
theorem dX12_init_248 : decode cX12_init 248 = .ok (.aload_n 0, 1) := by decide +kernel
theorem dX12_init_249 : decode cX12_init 249 = .ok (.bipush 16, 2) := by decide +kernel
theorem dX12_init_251 : decode cX12_init 251 = .ok (.newarray .int, 2) := by decide +kernel
theorem dX12_init_253 : decode cX12_init 253 = .ok (.putfield 100, 3) := by decide +kernel
theorem dX12_init_256 : decode cX12_init 256 = .ok (.aload_n 0, 1) := by decide +kernel
theorem dX12_init_257 : decode cX12_init 257 = .ok (.sipush 1312, 3) := by decide +kernel
theorem dX12_init_260 : decode cX12_init 260 = .ok (.newarray .int, 2) := by decide +kernel
theorem dX12_init_262 : decode cX12_init 262 = .ok (.putfield 103, 3) := by decide +kernel
theorem dX12_init_265 : decode cX12_init 265 = .ok (.aload_n 0, 1) := by decide +kernel
theorem dX12_init_266 : decode cX12_init 266 = .ok (.iconst 4, 1) := by decide +kernel
theorem dX12_init_267 : decode cX12_init 267 = .ok (.newarray .boolean, 2) := by decide +kernel
theorem dX12_init_269 : decode cX12_init 269 = .ok (.putfield 106, 3) := by decide +kernel
theorem dX12_init_272 : decode cX12_init 272 = .ok (.return_, 1) := by decide +kernel
theorem dX12_in_0 : decode cX12_in 0 = .ok (.lload_n 0, 1) := by decide +kernel
theorem dX12_in_1 : decode cX12_in 1 = .ok (.lload_n 2, 1) := by decide +kernel
theorem dX12_in_2 : decode cX12_in 2 = .ok (.lcmp, 1) := by decide +kernel
theorem dX12_in_3 : decode cX12_in 3 = .ok (.ifCond .lt 14, 3) := by decide +kernel
theorem dX12_in_6 : decode cX12_in 6 = .ok (.lload_n 0, 1) := by decide +kernel
theorem dX12_in_7 : decode cX12_in 7 = .ok (.lload 4, 2) := by decide +kernel
theorem dX12_in_9 : decode cX12_in 9 = .ok (.lcmp, 1) := by decide +kernel
theorem dX12_in_10 : decode cX12_in 10 = .ok (.ifCond .gt 7, 3) := by decide +kernel
theorem dX12_in_13 : decode cX12_in 13 = .ok (.iconst 1, 1) := by decide +kernel
theorem dX12_in_14 : decode cX12_in 14 = .ok (.goto 4, 3) := by decide +kernel
theorem dX12_in_17 : decode cX12_in 17 = .ok (.iconst 0, 1) := by decide +kernel
theorem dX12_in_18 : decode cX12_in 18 = .ok (.ireturn, 1) := by decide +kernel
theorem dX12_isOf_0 : decode cX12_isOf 0 = .ok (.iload_n 0, 1) := by decide +kernel
theorem dX12_isOf_1 : decode cX12_isOf 1 = .ok (.iload_n 1, 1) := by decide +kernel
theorem dX12_isOf_2 : decode cX12_isOf 2 = .ok (.ishr, 1) := by decide +kernel
theorem dX12_isOf_3 : decode cX12_isOf 3 = .ok (.iconst 1, 1) := by decide +kernel
theorem dX12_isOf_4 : decode cX12_isOf 4 = .ok (.iand, 1) := by decide +kernel
theorem dX12_isOf_5 : decode cX12_isOf 5 = .ok (.iconst 1, 1) := by decide +kernel
theorem dX12_isOf_6 : decode cX12_isOf 6 = .ok (.if_icmp .ne 7, 3) := by decide +kernel
theorem dX12_isOf_9 : decode cX12_isOf 9 = .ok (.iconst 1, 1) := by decide +kernel
theorem dX12_isOf_10 : decode cX12_isOf 10 = .ok (.goto 4, 3) := by decide +kernel
theorem dX12_isOf_13 : decode cX12_isOf 13 = .ok (.iconst 0, 1) := by decide +kernel
theorem dX12_isOf_14 : decode cX12_isOf 14 = .ok (.ireturn, 1) := by decide +kernel
theorem dX12_later_0 : decode cX12_later 0 = .ok (.iload_n 0, 1) := by decide +kernel
theorem dX12_later_1 : decode cX12_later 1 = .ok (.iload_n 1, 1) := by decide +kernel
theorem dX12_later_2 : decode cX12_later 2 = .ok (.if_icmp .le 7, 3) := by decide +kernel
theorem dX12_later_5 : decode cX12_later 5 = .ok (.iload_n 0, 1) := by decide +kernel
theorem dX12_later_6 : decode cX12_later 6 = .ok (.goto 4, 3) := by decide +kernel
theorem dX12_later_9 : decode cX12_later 9 = .ok (.iload_n 1, 1) := by decide +kernel
theorem dX12_later_10 : decode cX12_later 10 = .ok (.ireturn, 1) := by decide +kernel
theorem dX12_four_0 : decode cX12_four 0 = .ok (.bipush 24, 2) := by decide +kernel
theorem dX12_four_2 : decode cX12_four 2 = .ok (.istore_n 2, 1) := by decide +kernel
theorem dX12_four_3 : decode cX12_four 3 = .ok (.iload_n 2, 1) := by decide +kernel
theorem dX12_four_4 : decode cX12_four 4 = .ok (.ifCond .lt 32, 3) := by decide +kernel
theorem dX12_four_7 : decode cX12_four 7 = .ok (.aload_n 0, 1) := by decide +kernel
theorem dX12_four_8 : decode cX12_four 8 = .ok (.getfield 7, 3) := by decide +kernel
theorem dX12_four_11 : decode cX12_four 11 = .ok (.aload_n 0, 1) := by decide +kernel
theorem dX12_four_12 : decode cX12_four 12 = .ok (.getfield 109, 3) := by decide +kernel
theorem dX12_four_15 : decode cX12_four 15 = .ok (.iload_n 1, 1) := by decide +kernel
theorem dX12_four_16 : decode cX12_four 16 = .ok (.iload_n 2, 1) := by decide +kernel
theorem dX12_four_17 : decode cX12_four 17 = .ok (.ishr, 1) := by decide +kernel
theorem dX12_four_18 : decode cX12_four 18 = .ok (.i2b, 1) := by decide +kernel
theorem dX12_four_19 : decode cX12_four 19 = .ok (.bastore, 1) := by decide +kernel
theorem dX12_four_20 : decode cX12_four 20 = .ok (.aload_n 0, 1) := by decide +kernel
theorem dX12_four_21 : decode cX12_four 21 = .ok (.dup, 1) := by decide +kernel
theorem dX12_four_22 : decode cX12_four 22 = .ok (.getfield 109, 3) := by decide +kernel
theorem dX12_four_25 : decode cX12_four 25 = .ok (.iconst 1, 1) := by decide +kernel
theorem dX12_four_26 : decode cX12_four 26 = .ok (.iadd, 1) := by decide +kernel
theorem dX12_four_27 : decode cX12_four 27 = .ok (.putfield 109, 3) := by decide +kernel
theorem dX12_four_30 : decode cX12_four 30 = .ok (.iinc 2 (-8), 3) := by decide +kernel
theorem dX12_four_33 : decode cX12_four 33 = .ok (.goto (-30), 3) := by decide +kernel
theorem dX12_four_36 : decode cX12_four 36 = .ok (.return_, 1) := by decide +kernel
theorem dX12_feed_0 : decode cX12_feed 0 = .ok (.aload_n 0, 1) := by decide +kernel
theorem dX12_feed_1 : decode cX12_feed 1 = .ok (.getfield 109, 3) := by decide +kernel
theorem dX12_feed_4 : decode cX12_feed 4 = .ok (.bipush 20, 2) := by decide +kernel
theorem dX12_feed_6 : decode cX12_feed 6 = .ok (.iadd, 1) := by decide +kernel
theorem dX12_feed_7 : decode cX12_feed 7 = .ok (.sipush 400, 3) := by decide +kernel
theorem dX12_feed_10 : decode cX12_feed 10 = .ok (.if_icmp .le 5, 3) := by decide +kernel
theorem dX12_feed_13 : decode cX12_feed 13 = .ok (.iconst (-1), 1) := by decide +kernel
theorem dX12_feed_14 : decode cX12_feed 14 = .ok (.ireturn, 1) := by decide +kernel
theorem dX12_feed_15 : decode cX12_feed 15 = .ok (.aload_n 0, 1) := by decide +kernel
theorem dX12_feed_16 : decode cX12_feed 16 = .ok (.iload_n 1, 1) := by decide +kernel
theorem dX12_feed_17 : decode cX12_feed 17 = .ok (.invokevirtual 113, 3) := by decide +kernel
theorem dX12_feed_20 : decode cX12_feed 20 = .ok (.aload_n 0, 1) := by decide +kernel
theorem dX12_feed_21 : decode cX12_feed 21 = .ok (.iload_n 2, 1) := by decide +kernel
theorem dX12_feed_22 : decode cX12_feed 22 = .ok (.invokevirtual 113, 3) := by decide +kernel
theorem dX12_feed_25 : decode cX12_feed 25 = .ok (.aload_n 0, 1) := by decide +kernel
theorem dX12_feed_26 : decode cX12_feed 26 = .ok (.iload_n 3, 1) := by decide +kernel
theorem dX12_feed_27 : decode cX12_feed 27 = .ok (.invokevirtual 113, 3) := by decide +kernel
theorem dX12_feed_30 : decode cX12_feed 30 = .ok (.aload_n 0, 1) := by decide +kernel
theorem dX12_feed_31 : decode cX12_feed 31 = .ok (.iload 4, 2) := by decide +kernel
theorem dX12_feed_33 : decode cX12_feed 33 = .ok (.invokevirtual 113, 3) := by decide +kernel
theorem dX12_feed_36 : decode cX12_feed 36 = .ok (.aload_n 0, 1) := by decide +kernel
theorem dX12_feed_37 : decode cX12_feed 37 = .ok (.iload 5, 2) := by decide +kernel
theorem dX12_feed_39 : decode cX12_feed 39 = .ok (.invokevirtual 113, 3) := by decide +kernel
theorem dX12_feed_42 : decode cX12_feed 42 = .ok (.aload_n 0, 1) := by decide +kernel
theorem dX12_feed_43 : decode cX12_feed 43 = .ok (.getfield 109, 3) := by decide +kernel
theorem dX12_feed_46 : decode cX12_feed 46 = .ok (.ireturn, 1) := by decide +kernel
theorem dX12_end_0 : decode cX12_end 0 = .ok (.iload_n 1, 1) := by decide +kernel
theorem dX12_end_1 : decode cX12_end 1 = .ok (.ifCond .lt 11, 3) := by decide +kernel
theorem dX12_end_4 : decode cX12_end 4 = .ok (.iload_n 1, 1) := by decide +kernel
theorem dX12_end_5 : decode cX12_end 5 = .ok (.aload_n 0, 1) := by decide +kernel
theorem dX12_end_6 : decode cX12_end 6 = .ok (.getfield 109, 3) := by decide +kernel
theorem dX12_end_9 : decode cX12_end 9 = .ok (.if_icmp .le 5, 3) := by decide +kernel
theorem dX12_end_12 : decode cX12_end 12 = .ok (.iconst (-1), 1) := by decide +kernel
theorem dX12_end_13 : decode cX12_end 13 = .ok (.ireturn, 1) := by decide +kernel
theorem dX12_end_14 : decode cX12_end 14 = .ok (.aload_n 0, 1) := by decide +kernel
theorem dX12_end_15 : decode cX12_end 15 = .ok (.iload_n 1, 1) := by decide +kernel
theorem dX12_end_16 : decode cX12_end 16 = .ok (.putfield 109, 3) := by decide +kernel
theorem dX12_end_19 : decode cX12_end 19 = .ok (.iload_n 1, 1) := by decide +kernel
theorem dX12_end_20 : decode cX12_end 20 = .ok (.ireturn, 1) := by decide +kernel
theorem dX12_fails_0 : decode cX12_fails 0 = .ok (.aload_n 0, 1) := by decide +kernel
theorem dX12_fails_1 : decode cX12_fails 1 = .ok (.getfield 117, 3) := by decide +kernel
theorem dX12_fails_4 : decode cX12_fails 4 = .ok (.ifCond .ne 15, 3) := by decide +kernel
theorem dX12_fails_7 : decode cX12_fails 7 = .ok (.aload_n 0, 1) := by decide +kernel
theorem dX12_fails_8 : decode cX12_fails 8 = .ok (.iconst 1, 1) := by decide +kernel
theorem dX12_fails_9 : decode cX12_fails 9 = .ok (.bipush 8, 2) := by decide +kernel
theorem dX12_fails_11 : decode cX12_fails 11 = .ok (.iload_n 2, 1) := by decide +kernel
theorem dX12_fails_12 : decode cX12_fails 12 = .ok (.imul, 1) := by decide +kernel
theorem dX12_fails_13 : decode cX12_fails 13 = .ok (.iadd, 1) := by decide +kernel
theorem dX12_fails_14 : decode cX12_fails 14 = .ok (.iload_n 1, 1) := by decide +kernel
theorem dX12_fails_15 : decode cX12_fails 15 = .ok (.iadd, 1) := by decide +kernel
theorem dX12_fails_16 : decode cX12_fails 16 = .ok (.putfield 117, 3) := by decide +kernel
theorem dX12_fails_19 : decode cX12_fails 19 = .ok (.iconst 0, 1) := by decide +kernel
theorem dX12_fails_20 : decode cX12_fails 20 = .ok (.ireturn, 1) := by decide +kernel
theorem dX12_see_0 : decode cX12_see 0 = .ok (.aload_n 0, 1) := by decide +kernel
theorem dX12_see_1 : decode cX12_see 1 = .ok (.getfield 120, 3) := by decide +kernel
theorem dX12_see_4 : decode cX12_see 4 = .ok (.aload_n 0, 1) := by decide +kernel
theorem dX12_see_5 : decode cX12_see 5 = .ok (.getfield 109, 3) := by decide +kernel
theorem dX12_see_8 : decode cX12_see 8 = .ok (.if_icmp .ge 30, 3) := by decide +kernel
theorem dX12_see_11 : decode cX12_see 11 = .ok (.aload_n 0, 1) := by decide +kernel
theorem dX12_see_12 : decode cX12_see 12 = .ok (.getfield 7, 3) := by decide +kernel
theorem dX12_see_15 : decode cX12_see 15 = .ok (.aload_n 0, 1) := by decide +kernel
theorem dX12_see_16 : decode cX12_see 16 = .ok (.getfield 120, 3) := by decide +kernel
theorem dX12_see_19 : decode cX12_see 19 = .ok (.baload, 1) := by decide +kernel
theorem dX12_see_20 : decode cX12_see 20 = .ok (.bipush 32, 2) := by decide +kernel
theorem dX12_see_22 : decode cX12_see 22 = .ok (.if_icmp .ne 16, 3) := by decide +kernel
theorem dX12_see_25 : decode cX12_see 25 = .ok (.aload_n 0, 1) := by decide +kernel
theorem dX12_see_26 : decode cX12_see 26 = .ok (.dup, 1) := by decide +kernel
theorem dX12_see_27 : decode cX12_see 27 = .ok (.getfield 120, 3) := by decide +kernel
theorem dX12_see_30 : decode cX12_see 30 = .ok (.iconst 1, 1) := by decide +kernel
theorem dX12_see_31 : decode cX12_see 31 = .ok (.iadd, 1) := by decide +kernel
theorem dX12_see_32 : decode cX12_see 32 = .ok (.putfield 120, 3) := by decide +kernel
theorem dX12_see_35 : decode cX12_see 35 = .ok (.goto (-35), 3) := by decide +kernel
theorem dX12_see_38 : decode cX12_see 38 = .ok (.aload_n 0, 1) := by decide +kernel
theorem dX12_see_39 : decode cX12_see 39 = .ok (.getfield 120, 3) := by decide +kernel
theorem dX12_see_42 : decode cX12_see 42 = .ok (.aload_n 0, 1) := by decide +kernel
theorem dX12_see_43 : decode cX12_see 43 = .ok (.getfield 109, 3) := by decide +kernel
theorem dX12_see_46 : decode cX12_see 46 = .ok (.if_icmp .ge 19, 3) := by decide +kernel
theorem dX12_see_49 : decode cX12_see 49 = .ok (.aload_n 0, 1) := by decide +kernel
theorem dX12_see_50 : decode cX12_see 50 = .ok (.getfield 7, 3) := by decide +kernel
theorem dX12_see_53 : decode cX12_see 53 = .ok (.aload_n 0, 1) := by decide +kernel
theorem dX12_see_54 : decode cX12_see 54 = .ok (.getfield 120, 3) := by decide +kernel
theorem dX12_see_57 : decode cX12_see 57 = .ok (.baload, 1) := by decide +kernel
theorem dX12_see_58 : decode cX12_see 58 = .ok (.sipush 255, 3) := by decide +kernel
theorem dX12_see_61 : decode cX12_see 61 = .ok (.iand, 1) := by decide +kernel
theorem dX12_see_62 : decode cX12_see 62 = .ok (.goto 4, 3) := by decide +kernel
theorem dX12_see_65 : decode cX12_see 65 = .ok (.iconst (-1), 1) := by decide +kernel
theorem dX12_see_66 : decode cX12_see 66 = .ok (.ireturn, 1) := by decide +kernel
theorem dX12_isDigit_0 : decode cX12_isDigit 0 = .ok (.iload_n 1, 1) := by decide +kernel
theorem dX12_isDigit_1 : decode cX12_isDigit 1 = .ok (.aload_n 0, 1) := by decide +kernel
theorem dX12_isDigit_2 : decode cX12_isDigit 2 = .ok (.getfield 109, 3) := by decide +kernel
theorem dX12_isDigit_5 : decode cX12_isDigit 5 = .ok (.if_icmp .ge 29, 3) := by decide +kernel
theorem dX12_isDigit_8 : decode cX12_isDigit 8 = .ok (.aload_n 0, 1) := by decide +kernel
theorem dX12_isDigit_9 : decode cX12_isDigit 9 = .ok (.getfield 7, 3) := by decide +kernel
theorem dX12_isDigit_12 : decode cX12_isDigit 12 = .ok (.iload_n 1, 1) := by decide +kernel
theorem dX12_isDigit_13 : decode cX12_isDigit 13 = .ok (.baload, 1) := by decide +kernel
theorem dX12_isDigit_14 : decode cX12_isDigit 14 = .ok (.bipush 48, 2) := by decide +kernel
theorem dX12_isDigit_16 : decode cX12_isDigit 16 = .ok (.if_icmp .lt 18, 3) := by decide +kernel
theorem dX12_isDigit_19 : decode cX12_isDigit 19 = .ok (.aload_n 0, 1) := by decide +kernel
theorem dX12_isDigit_20 : decode cX12_isDigit 20 = .ok (.getfield 7, 3) := by decide +kernel
theorem dX12_isDigit_23 : decode cX12_isDigit 23 = .ok (.iload_n 1, 1) := by decide +kernel
theorem dX12_isDigit_24 : decode cX12_isDigit 24 = .ok (.baload, 1) := by decide +kernel
theorem dX12_isDigit_25 : decode cX12_isDigit 25 = .ok (.bipush 57, 2) := by decide +kernel
theorem dX12_isDigit_27 : decode cX12_isDigit 27 = .ok (.if_icmp .gt 7, 3) := by decide +kernel
theorem dX12_isDigit_30 : decode cX12_isDigit 30 = .ok (.iconst 1, 1) := by decide +kernel
theorem dX12_isDigit_31 : decode cX12_isDigit 31 = .ok (.goto 4, 3) := by decide +kernel
theorem dX12_isDigit_34 : decode cX12_isDigit 34 = .ok (.iconst 0, 1) := by decide +kernel
theorem dX12_isDigit_35 : decode cX12_isDigit 35 = .ok (.ireturn, 1) := by decide +kernel
theorem dX12_isLetter_0 : decode cX12_isLetter 0 = .ok (.iload_n 1, 1) := by decide +kernel
theorem dX12_isLetter_1 : decode cX12_isLetter 1 = .ok (.aload_n 0, 1) := by decide +kernel
theorem dX12_isLetter_2 : decode cX12_isLetter 2 = .ok (.getfield 109, 3) := by decide +kernel
theorem dX12_isLetter_5 : decode cX12_isLetter 5 = .ok (.if_icmp .ge 29, 3) := by decide +kernel
theorem dX12_isLetter_8 : decode cX12_isLetter 8 = .ok (.aload_n 0, 1) := by decide +kernel
theorem dX12_isLetter_9 : decode cX12_isLetter 9 = .ok (.getfield 7, 3) := by decide +kernel
theorem dX12_isLetter_12 : decode cX12_isLetter 12 = .ok (.iload_n 1, 1) := by decide +kernel
theorem dX12_isLetter_13 : decode cX12_isLetter 13 = .ok (.baload, 1) := by decide +kernel
theorem dX12_isLetter_14 : decode cX12_isLetter 14 = .ok (.bipush 97, 2) := by decide +kernel
theorem dX12_isLetter_16 : decode cX12_isLetter 16 = .ok (.if_icmp .lt 18, 3) := by decide +kernel
theorem dX12_isLetter_19 : decode cX12_isLetter 19 = .ok (.aload_n 0, 1) := by decide +kernel
theorem dX12_isLetter_20 : decode cX12_isLetter 20 = .ok (.getfield 7, 3) := by decide +kernel
theorem dX12_isLetter_23 : decode cX12_isLetter 23 = .ok (.iload_n 1, 1) := by decide +kernel
theorem dX12_isLetter_24 : decode cX12_isLetter 24 = .ok (.baload, 1) := by decide +kernel
theorem dX12_isLetter_25 : decode cX12_isLetter 25 = .ok (.bipush 122, 2) := by decide +kernel
theorem dX12_isLetter_27 : decode cX12_isLetter 27 = .ok (.if_icmp .gt 7, 3) := by decide +kernel
theorem dX12_isLetter_30 : decode cX12_isLetter 30 = .ok (.iconst 1, 1) := by decide +kernel
theorem dX12_isLetter_31 : decode cX12_isLetter 31 = .ok (.goto 4, 3) := by decide +kernel
theorem dX12_isLetter_34 : decode cX12_isLetter 34 = .ok (.iconst 0, 1) := by decide +kernel
theorem dX12_isLetter_35 : decode cX12_isLetter 35 = .ok (.ireturn, 1) := by decide +kernel
theorem dX12_isWord_0 : decode cX12_isWord 0 = .ok (.aload_n 0, 1) := by decide +kernel
theorem dX12_isWord_1 : decode cX12_isWord 1 = .ok (.invokevirtual 123, 3) := by decide +kernel
theorem dX12_isWord_4 : decode cX12_isWord 4 = .ok (.pop, 1) := by decide +kernel
theorem dX12_isWord_5 : decode cX12_isWord 5 = .ok (.lconst 0, 1) := by decide +kernel
theorem dX12_isWord_6 : decode cX12_isWord 6 = .ok (.lstore_n 3, 1) := by decide +kernel
theorem dX12_isWord_7 : decode cX12_isWord 7 = .ok (.iconst 0, 1) := by decide +kernel
theorem dX12_isWord_8 : decode cX12_isWord 8 = .ok (.istore 5, 2) := by decide +kernel
theorem dX12_isWord_10 : decode cX12_isWord 10 = .ok (.aload_n 0, 1) := by decide +kernel
theorem dX12_isWord_11 : decode cX12_isWord 11 = .ok (.aload_n 0, 1) := by decide +kernel
theorem dX12_isWord_12 : decode cX12_isWord 12 = .ok (.getfield 120, 3) := by decide +kernel
theorem dX12_isWord_15 : decode cX12_isWord 15 = .ok (.iload 5, 2) := by decide +kernel
theorem dX12_isWord_17 : decode cX12_isWord 17 = .ok (.iadd, 1) := by decide +kernel
theorem dX12_isWord_18 : decode cX12_isWord 18 = .ok (.invokevirtual 127, 3) := by decide +kernel
theorem dX12_isWord_21 : decode cX12_isWord 21 = .ok (.ifCond .eq 35, 3) := by decide +kernel
theorem dX12_isWord_24 : decode cX12_isWord 24 = .ok (.iload 5, 2) := by decide +kernel
theorem dX12_isWord_26 : decode cX12_isWord 26 = .ok (.bipush 8, 2) := by decide +kernel
theorem dX12_isWord_28 : decode cX12_isWord 28 = .ok (.if_icmp .ge 22, 3) := by decide +kernel
theorem dX12_isWord_31 : decode cX12_isWord 31 = .ok (.lload_n 3, 1) := by decide +kernel
theorem dX12_isWord_32 : decode cX12_isWord 32 = .ok (.bipush 8, 2) := by decide +kernel
theorem dX12_isWord_34 : decode cX12_isWord 34 = .ok (.lshl, 1) := by decide +kernel
theorem dX12_isWord_35 : decode cX12_isWord 35 = .ok (.aload_n 0, 1) := by decide +kernel
theorem dX12_isWord_36 : decode cX12_isWord 36 = .ok (.getfield 7, 3) := by decide +kernel
theorem dX12_isWord_39 : decode cX12_isWord 39 = .ok (.aload_n 0, 1) := by decide +kernel
theorem dX12_isWord_40 : decode cX12_isWord 40 = .ok (.getfield 120, 3) := by decide +kernel
theorem dX12_isWord_43 : decode cX12_isWord 43 = .ok (.iload 5, 2) := by decide +kernel
theorem dX12_isWord_45 : decode cX12_isWord 45 = .ok (.iadd, 1) := by decide +kernel
theorem dX12_isWord_46 : decode cX12_isWord 46 = .ok (.baload, 1) := by decide +kernel
theorem dX12_isWord_47 : decode cX12_isWord 47 = .ok (.i2l, 1) := by decide +kernel
theorem dX12_isWord_48 : decode cX12_isWord 48 = .ok (.lor, 1) := by decide +kernel
theorem dX12_isWord_49 : decode cX12_isWord 49 = .ok (.lstore_n 3, 1) := by decide +kernel
theorem dX12_isWord_50 : decode cX12_isWord 50 = .ok (.iinc 5 1, 3) := by decide +kernel
theorem dX12_isWord_53 : decode cX12_isWord 53 = .ok (.goto (-43), 3) := by decide +kernel
theorem dX12_isWord_56 : decode cX12_isWord 56 = .ok (.iload 5, 2) := by decide +kernel
theorem dX12_isWord_58 : decode cX12_isWord 58 = .ok (.ifCond .le 20, 3) := by decide +kernel
theorem dX12_isWord_61 : decode cX12_isWord 61 = .ok (.iload 5, 2) := by decide +kernel
theorem dX12_isWord_63 : decode cX12_isWord 63 = .ok (.bipush 8, 2) := by decide +kernel
theorem dX12_isWord_65 : decode cX12_isWord 65 = .ok (.if_icmp .ge 13, 3) := by decide +kernel
theorem dX12_isWord_68 : decode cX12_isWord 68 = .ok (.lload_n 3, 1) := by decide +kernel
theorem dX12_isWord_69 : decode cX12_isWord 69 = .ok (.lload_n 1, 1) := by decide +kernel
theorem dX12_isWord_70 : decode cX12_isWord 70 = .ok (.lcmp, 1) := by decide +kernel
theorem dX12_isWord_71 : decode cX12_isWord 71 = .ok (.ifCond .ne 7, 3) := by decide +kernel
theorem dX12_isWord_74 : decode cX12_isWord 74 = .ok (.iconst 1, 1) := by decide +kernel
theorem dX12_isWord_75 : decode cX12_isWord 75 = .ok (.goto 4, 3) := by decide +kernel
theorem dX12_isWord_78 : decode cX12_isWord 78 = .ok (.iconst 0, 1) := by decide +kernel
theorem dX12_isWord_79 : decode cX12_isWord 79 = .ok (.ireturn, 1) := by decide +kernel
theorem dX12_passWord_0 : decode cX12_passWord 0 = .ok (.aload_n 0, 1) := by decide +kernel
theorem dX12_passWord_1 : decode cX12_passWord 1 = .ok (.aload_n 0, 1) := by decide +kernel
theorem dX12_passWord_2 : decode cX12_passWord 2 = .ok (.getfield 120, 3) := by decide +kernel
theorem dX12_passWord_5 : decode cX12_passWord 5 = .ok (.invokevirtual 127, 3) := by decide +kernel
theorem dX12_passWord_8 : decode cX12_passWord 8 = .ok (.ifCond .eq 16, 3) := by decide +kernel
theorem dX12_passWord_11 : decode cX12_passWord 11 = .ok (.aload_n 0, 1) := by decide +kernel
theorem dX12_passWord_12 : decode cX12_passWord 12 = .ok (.dup, 1) := by decide +kernel
theorem dX12_passWord_13 : decode cX12_passWord 13 = .ok (.getfield 120, 3) := by decide +kernel
theorem dX12_passWord_16 : decode cX12_passWord 16 = .ok (.iconst 1, 1) := by decide +kernel
theorem dX12_passWord_17 : decode cX12_passWord 17 = .ok (.iadd, 1) := by decide +kernel
theorem dX12_passWord_18 : decode cX12_passWord 18 = .ok (.putfield 120, 3) := by decide +kernel
theorem dX12_passWord_21 : decode cX12_passWord 21 = .ok (.goto (-21), 3) := by decide +kernel
theorem dX12_passWord_24 : decode cX12_passWord 24 = .ok (.return_, 1) := by decide +kernel
theorem dX12_takesWord_0 : decode cX12_takesWord 0 = .ok (.aload_n 0, 1) := by decide +kernel
theorem dX12_takesWord_1 : decode cX12_takesWord 1 = .ok (.lload_n 1, 1) := by decide +kernel
theorem dX12_takesWord_2 : decode cX12_takesWord 2 = .ok (.invokevirtual 131, 3) := by decide +kernel
theorem dX12_takesWord_5 : decode cX12_takesWord 5 = .ok (.ifCond .ne 5, 3) := by decide +kernel
theorem dX12_takesWord_8 : decode cX12_takesWord 8 = .ok (.iconst 0, 1) := by decide +kernel
theorem dX12_takesWord_9 : decode cX12_takesWord 9 = .ok (.ireturn, 1) := by decide +kernel
theorem dX12_takesWord_10 : decode cX12_takesWord 10 = .ok (.aload_n 0, 1) := by decide +kernel
theorem dX12_takesWord_11 : decode cX12_takesWord 11 = .ok (.invokevirtual 135, 3) := by decide +kernel
theorem dX12_takesWord_14 : decode cX12_takesWord 14 = .ok (.iconst 1, 1) := by decide +kernel
theorem dX12_takesWord_15 : decode cX12_takesWord 15 = .ok (.ireturn, 1) := by decide +kernel
theorem dX12_numberHere_0 : decode cX12_numberHere 0 = .ok (.aload_n 0, 1) := by decide +kernel
theorem dX12_numberHere_1 : decode cX12_numberHere 1 = .ok (.invokevirtual 123, 3) := by decide +kernel
theorem dX12_numberHere_4 : decode cX12_numberHere 4 = .ok (.pop, 1) := by decide +kernel
theorem dX12_numberHere_5 : decode cX12_numberHere 5 = .ok (.aload_n 0, 1) := by decide +kernel
theorem dX12_numberHere_6 : decode cX12_numberHere 6 = .ok (.aload_n 0, 1) := by decide +kernel
theorem dX12_numberHere_7 : decode cX12_numberHere 7 = .ok (.getfield 120, 3) := by decide +kernel
theorem dX12_numberHere_10 : decode cX12_numberHere 10 = .ok (.invokevirtual 138, 3) := by decide +kernel
theorem dX12_numberHere_13 : decode cX12_numberHere 13 = .ok (.ifCond .ne 13, 3) := by decide +kernel
theorem dX12_numberHere_16 : decode cX12_numberHere 16 = .ok (.aload_n 0, 1) := by decide +kernel
theorem dX12_numberHere_17 : decode cX12_numberHere 17 = .ok (.iconst 0, 1) := by decide +kernel
theorem dX12_numberHere_18 : decode cX12_numberHere 18 = .ok (.aload_n 0, 1) := by decide +kernel
theorem dX12_numberHere_19 : decode cX12_numberHere 19 = .ok (.getfield 120, 3) := by decide +kernel
theorem dX12_numberHere_22 : decode cX12_numberHere 22 = .ok (.invokevirtual 141, 3) := by decide +kernel
theorem dX12_numberHere_25 : decode cX12_numberHere 25 = .ok (.ireturn, 1) := by decide +kernel
theorem dX12_numberHere_26 : decode cX12_numberHere 26 = .ok (.aload_n 0, 1) := by decide +kernel
theorem dX12_numberHere_27 : decode cX12_numberHere 27 = .ok (.getfield 120, 3) := by decide +kernel
theorem dX12_numberHere_30 : decode cX12_numberHere 30 = .ok (.istore_n 3, 1) := by decide +kernel
theorem dX12_numberHere_31 : decode cX12_numberHere 31 = .ok (.iconst 0, 1) := by decide +kernel
theorem dX12_numberHere_32 : decode cX12_numberHere 32 = .ok (.istore 4, 2) := by decide +kernel
theorem dX12_numberHere_34 : decode cX12_numberHere 34 = .ok (.aload_n 0, 1) := by decide +kernel
theorem dX12_numberHere_35 : decode cX12_numberHere 35 = .ok (.aload_n 0, 1) := by decide +kernel
theorem dX12_numberHere_36 : decode cX12_numberHere 36 = .ok (.getfield 120, 3) := by decide +kernel
theorem dX12_numberHere_39 : decode cX12_numberHere 39 = .ok (.invokevirtual 138, 3) := by decide +kernel
theorem dX12_numberHere_42 : decode cX12_numberHere 42 = .ok (.ifCond .eq 46, 3) := by decide +kernel
theorem dX12_numberHere_45 : decode cX12_numberHere 45 = .ok (.aload_n 0, 1) := by decide +kernel
theorem dX12_numberHere_46 : decode cX12_numberHere 46 = .ok (.getfield 120, 3) := by decide +kernel
theorem dX12_numberHere_49 : decode cX12_numberHere 49 = .ok (.iload_n 3, 1) := by decide +kernel
theorem dX12_numberHere_50 : decode cX12_numberHere 50 = .ok (.isub, 1) := by decide +kernel
theorem dX12_numberHere_51 : decode cX12_numberHere 51 = .ok (.iconst 5, 1) := by decide +kernel
theorem dX12_numberHere_52 : decode cX12_numberHere 52 = .ok (.if_icmp .ge 23, 3) := by decide +kernel
theorem dX12_numberHere_55 : decode cX12_numberHere 55 = .ok (.bipush 10, 2) := by decide +kernel
theorem dX12_numberHere_57 : decode cX12_numberHere 57 = .ok (.iload 4, 2) := by decide +kernel
theorem dX12_numberHere_59 : decode cX12_numberHere 59 = .ok (.imul, 1) := by decide +kernel
theorem dX12_numberHere_60 : decode cX12_numberHere 60 = .ok (.aload_n 0, 1) := by decide +kernel
theorem dX12_numberHere_61 : decode cX12_numberHere 61 = .ok (.getfield 7, 3) := by decide +kernel
theorem dX12_numberHere_64 : decode cX12_numberHere 64 = .ok (.aload_n 0, 1) := by decide +kernel
theorem dX12_numberHere_65 : decode cX12_numberHere 65 = .ok (.getfield 120, 3) := by decide +kernel
theorem dX12_numberHere_68 : decode cX12_numberHere 68 = .ok (.baload, 1) := by decide +kernel
theorem dX12_numberHere_69 : decode cX12_numberHere 69 = .ok (.iadd, 1) := by decide +kernel
theorem dX12_numberHere_70 : decode cX12_numberHere 70 = .ok (.bipush 48, 2) := by decide +kernel
theorem dX12_numberHere_72 : decode cX12_numberHere 72 = .ok (.isub, 1) := by decide +kernel
theorem dX12_numberHere_73 : decode cX12_numberHere 73 = .ok (.istore 4, 2) := by decide +kernel
theorem dX12_numberHere_75 : decode cX12_numberHere 75 = .ok (.aload_n 0, 1) := by decide +kernel
theorem dX12_numberHere_76 : decode cX12_numberHere 76 = .ok (.dup, 1) := by decide +kernel
theorem dX12_numberHere_77 : decode cX12_numberHere 77 = .ok (.getfield 120, 3) := by decide +kernel
theorem dX12_numberHere_80 : decode cX12_numberHere 80 = .ok (.iconst 1, 1) := by decide +kernel
theorem dX12_numberHere_81 : decode cX12_numberHere 81 = .ok (.iadd, 1) := by decide +kernel
theorem dX12_numberHere_82 : decode cX12_numberHere 82 = .ok (.putfield 120, 3) := by decide +kernel
theorem dX12_numberHere_85 : decode cX12_numberHere 85 = .ok (.goto (-51), 3) := by decide +kernel
theorem dX12_numberHere_88 : decode cX12_numberHere 88 = .ok (.aload_n 0, 1) := by decide +kernel
theorem dX12_numberHere_89 : decode cX12_numberHere 89 = .ok (.iload 4, 2) := by decide +kernel
theorem dX12_numberHere_91 : decode cX12_numberHere 91 = .ok (.putfield 145, 3) := by decide +kernel
theorem dX12_numberHere_94 : decode cX12_numberHere 94 = .ok (.aload_n 0, 1) := by decide +kernel
theorem dX12_numberHere_95 : decode cX12_numberHere 95 = .ok (.getfield 120, 3) := by decide +kernel
theorem dX12_numberHere_98 : decode cX12_numberHere 98 = .ok (.iload_n 3, 1) := by decide +kernel
theorem dX12_numberHere_99 : decode cX12_numberHere 99 = .ok (.isub, 1) := by decide +kernel
theorem dX12_numberHere_100 : decode cX12_numberHere 100 = .ok (.iconst 5, 1) := by decide +kernel
theorem dX12_numberHere_101 : decode cX12_numberHere 101 = .ok (.if_icmp .gt 16, 3) := by decide +kernel
theorem dX12_numberHere_104 : decode cX12_numberHere 104 = .ok (.iload 4, 2) := by decide +kernel
theorem dX12_numberHere_106 : decode cX12_numberHere 106 = .ok (.i2l, 1) := by decide +kernel
theorem dX12_numberHere_107 : decode cX12_numberHere 107 = .ok (.iload_n 1, 1) := by decide +kernel
theorem dX12_numberHere_108 : decode cX12_numberHere 108 = .ok (.i2l, 1) := by decide +kernel
theorem dX12_numberHere_109 : decode cX12_numberHere 109 = .ok (.iload_n 2, 1) := by decide +kernel
theorem dX12_numberHere_110 : decode cX12_numberHere 110 = .ok (.i2l, 1) := by decide +kernel
theorem dX12_numberHere_111 : decode cX12_numberHere 111 = .ok (.invokestatic 148, 3) := by decide +kernel
theorem dX12_numberHere_114 : decode cX12_numberHere 114 = .ok (.ifCond .ne 12, 3) := by decide +kernel
theorem dX12_numberHere_117 : decode cX12_numberHere 117 = .ok (.aload_n 0, 1) := by decide +kernel
theorem dX12_numberHere_118 : decode cX12_numberHere 118 = .ok (.iconst 1, 1) := by decide +kernel
theorem dX12_numberHere_119 : decode cX12_numberHere 119 = .ok (.iload_n 3, 1) := by decide +kernel
theorem dX12_numberHere_120 : decode cX12_numberHere 120 = .ok (.invokevirtual 141, 3) := by decide +kernel
theorem dX12_numberHere_123 : decode cX12_numberHere 123 = .ok (.ifCond .eq 7, 3) := by decide +kernel
theorem dX12_numberHere_126 : decode cX12_numberHere 126 = .ok (.iconst 1, 1) := by decide +kernel
theorem dX12_numberHere_127 : decode cX12_numberHere 127 = .ok (.goto 4, 3) := by decide +kernel
theorem dX12_numberHere_130 : decode cX12_numberHere 130 = .ok (.iconst 0, 1) := by decide +kernel
theorem dX12_numberHere_131 : decode cX12_numberHere 131 = .ok (.ireturn, 1) := by decide +kernel
theorem dX12_wordHere_0 : decode cX12_wordHere 0 = .ok (.aload_n 0, 1) := by decide +kernel
theorem dX12_wordHere_1 : decode cX12_wordHere 1 = .ok (.ldc2_w 152, 3) := by decide +kernel
theorem dX12_wordHere_4 : decode cX12_wordHere 4 = .ok (.invokevirtual 131, 3) := by decide +kernel
theorem dX12_wordHere_7 : decode cX12_wordHere 7 = .ok (.ifCond .eq 5, 3) := by decide +kernel
theorem dX12_wordHere_10 : decode cX12_wordHere 10 = .ok (.iconst 0, 1) := by decide +kernel
theorem dX12_wordHere_11 : decode cX12_wordHere 11 = .ok (.ireturn, 1) := by decide +kernel
theorem dX12_wordHere_12 : decode cX12_wordHere 12 = .ok (.aload_n 0, 1) := by decide +kernel
theorem dX12_wordHere_13 : decode cX12_wordHere 13 = .ok (.ldc2_w 154, 3) := by decide +kernel
theorem dX12_wordHere_16 : decode cX12_wordHere 16 = .ok (.invokevirtual 131, 3) := by decide +kernel
theorem dX12_wordHere_19 : decode cX12_wordHere 19 = .ok (.ifCond .eq 5, 3) := by decide +kernel
theorem dX12_wordHere_22 : decode cX12_wordHere 22 = .ok (.iconst 1, 1) := by decide +kernel
theorem dX12_wordHere_23 : decode cX12_wordHere 23 = .ok (.ireturn, 1) := by decide +kernel
theorem dX12_wordHere_24 : decode cX12_wordHere 24 = .ok (.aload_n 0, 1) := by decide +kernel
theorem dX12_wordHere_25 : decode cX12_wordHere 25 = .ok (.ldc2_w 156, 3) := by decide +kernel
theorem dX12_wordHere_28 : decode cX12_wordHere 28 = .ok (.invokevirtual 131, 3) := by decide +kernel
theorem dX12_wordHere_31 : decode cX12_wordHere 31 = .ok (.ifCond .eq 5, 3) := by decide +kernel
theorem dX12_wordHere_34 : decode cX12_wordHere 34 = .ok (.iconst 2, 1) := by decide +kernel
theorem dX12_wordHere_35 : decode cX12_wordHere 35 = .ok (.ireturn, 1) := by decide +kernel
theorem dX12_wordHere_36 : decode cX12_wordHere 36 = .ok (.aload_n 0, 1) := by decide +kernel
theorem dX12_wordHere_37 : decode cX12_wordHere 37 = .ok (.ldc2_w 158, 3) := by decide +kernel
theorem dX12_wordHere_40 : decode cX12_wordHere 40 = .ok (.invokevirtual 131, 3) := by decide +kernel
theorem dX12_wordHere_43 : decode cX12_wordHere 43 = .ok (.ifCond .eq 5, 3) := by decide +kernel
theorem dX12_wordHere_46 : decode cX12_wordHere 46 = .ok (.iconst 3, 1) := by decide +kernel
theorem dX12_wordHere_47 : decode cX12_wordHere 47 = .ok (.ireturn, 1) := by decide +kernel
theorem dX12_wordHere_48 : decode cX12_wordHere 48 = .ok (.aload_n 0, 1) := by decide +kernel
theorem dX12_wordHere_49 : decode cX12_wordHere 49 = .ok (.ldc2_w 160, 3) := by decide +kernel
theorem dX12_wordHere_52 : decode cX12_wordHere 52 = .ok (.invokevirtual 131, 3) := by decide +kernel
theorem dX12_wordHere_55 : decode cX12_wordHere 55 = .ok (.ifCond .eq 5, 3) := by decide +kernel
theorem dX12_wordHere_58 : decode cX12_wordHere 58 = .ok (.iconst 4, 1) := by decide +kernel
theorem dX12_wordHere_59 : decode cX12_wordHere 59 = .ok (.ireturn, 1) := by decide +kernel
theorem dX12_wordHere_60 : decode cX12_wordHere 60 = .ok (.aload_n 0, 1) := by decide +kernel
theorem dX12_wordHere_61 : decode cX12_wordHere 61 = .ok (.ldc2_w 162, 3) := by decide +kernel
theorem dX12_wordHere_64 : decode cX12_wordHere 64 = .ok (.invokevirtual 131, 3) := by decide +kernel
theorem dX12_wordHere_67 : decode cX12_wordHere 67 = .ok (.ifCond .eq 5, 3) := by decide +kernel
theorem dX12_wordHere_70 : decode cX12_wordHere 70 = .ok (.iconst 5, 1) := by decide +kernel
theorem dX12_wordHere_71 : decode cX12_wordHere 71 = .ok (.ireturn, 1) := by decide +kernel
theorem dX12_wordHere_72 : decode cX12_wordHere 72 = .ok (.aload_n 0, 1) := by decide +kernel
theorem dX12_wordHere_73 : decode cX12_wordHere 73 = .ok (.ldc2_w 164, 3) := by decide +kernel
theorem dX12_wordHere_76 : decode cX12_wordHere 76 = .ok (.invokevirtual 131, 3) := by decide +kernel
theorem dX12_wordHere_79 : decode cX12_wordHere 79 = .ok (.ifCond .eq 8, 3) := by decide +kernel
theorem dX12_wordHere_82 : decode cX12_wordHere 82 = .ok (.bipush 6, 2) := by decide +kernel
theorem dX12_wordHere_84 : decode cX12_wordHere 84 = .ok (.goto 19, 3) := by decide +kernel
theorem dX12_wordHere_87 : decode cX12_wordHere 87 = .ok (.aload_n 0, 1) := by decide +kernel
theorem dX12_wordHere_88 : decode cX12_wordHere 88 = .ok (.ldc2_w 166, 3) := by decide +kernel
theorem dX12_wordHere_91 : decode cX12_wordHere 91 = .ok (.invokevirtual 131, 3) := by decide +kernel
theorem dX12_wordHere_94 : decode cX12_wordHere 94 = .ok (.ifCond .eq 8, 3) := by decide +kernel
theorem dX12_wordHere_97 : decode cX12_wordHere 97 = .ok (.bipush 7, 2) := by decide +kernel
theorem dX12_wordHere_99 : decode cX12_wordHere 99 = .ok (.goto 4, 3) := by decide +kernel
theorem dX12_wordHere_102 : decode cX12_wordHere 102 = .ok (.iconst (-1), 1) := by decide +kernel
theorem dX12_wordHere_103 : decode cX12_wordHere 103 = .ok (.ireturn, 1) := by decide +kernel
theorem dX12_puts_0 : decode cX12_puts 0 = .ok (.aload_n 0, 1) := by decide +kernel
theorem dX12_puts_1 : decode cX12_puts 1 = .ok (.getfield 13, 3) := by decide +kernel
theorem dX12_puts_4 : decode cX12_puts 4 = .ok (.sipush 400, 3) := by decide +kernel
theorem dX12_puts_7 : decode cX12_puts 7 = .ok (.aload_n 0, 1) := by decide +kernel
theorem dX12_puts_8 : decode cX12_puts 8 = .ok (.getfield 168, 3) := by decide +kernel
