theorem dX2_joins_68 : decode cX2_joins 68 = .ok (.iaload, 1) := by decide +kernel
theorem dX2_joins_69 : decode cX2_joins 69 = .ok (.aload_n 0, 1) := by decide +kernel
theorem dX2_joins_70 : decode cX2_joins 70 = .ok (.getfield 15, 3) := by decide +kernel
theorem dX2_joins_73 : decode cX2_joins 73 = .ok (.getfield 102, 3) := by decide +kernel
theorem dX2_joins_76 : decode cX2_joins 76 = .ok (.iload_n 1, 1) := by decide +kernel
theorem dX2_joins_77 : decode cX2_joins 77 = .ok (.iaload, 1) := by decide +kernel
theorem dX2_joins_78 : decode cX2_joins 78 = .ok (.if_icmp .ge 7, 3) := by decide +kernel
theorem dX2_joins_81 : decode cX2_joins 81 = .ok (.iconst 1, 1) := by decide +kernel
theorem dX2_joins_82 : decode cX2_joins 82 = .ok (.goto 4, 3) := by decide +kernel
theorem dX2_joins_85 : decode cX2_joins 85 = .ok (.iconst 0, 1) := by decide +kernel
theorem dX2_joins_86 : decode cX2_joins 86 = .ok (.ireturn, 1) := by decide +kernel
theorem dX2_readDoor_0 : decode cX2_readDoor 0 = .ok (.aload_n 0, 1) := by decide +kernel
theorem dX2_readDoor_1 : decode cX2_readDoor 1 = .ok (.getfield 9, 3) := by decide +kernel
theorem dX2_readDoor_4 : decode cX2_readDoor 4 = .ok (.iconst 0, 1) := by decide +kernel
theorem dX2_readDoor_5 : decode cX2_readDoor 5 = .ok (.aload_n 0, 1) := by decide +kernel
theorem dX2_readDoor_6 : decode cX2_readDoor 6 = .ok (.getfield 15, 3) := by decide +kernel
theorem dX2_readDoor_9 : decode cX2_readDoor 9 = .ok (.getfield 66, 3) := by decide +kernel
theorem dX2_readDoor_12 : decode cX2_readDoor 12 = .ok (.iconst 1, 1) := by decide +kernel
theorem dX2_readDoor_13 : decode cX2_readDoor 13 = .ok (.isub, 1) := by decide +kernel
theorem dX2_readDoor_14 : decode cX2_readDoor 14 = .ok (.invokevirtual 98, 3) := by decide +kernel
theorem dX2_readDoor_17 : decode cX2_readDoor 17 = .ok (.ifCond .ne 5, 3) := by decide +kernel
theorem dX2_readDoor_20 : decode cX2_readDoor 20 = .ok (.iconst 0, 1) := by decide +kernel
theorem dX2_readDoor_21 : decode cX2_readDoor 21 = .ok (.ireturn, 1) := by decide +kernel
theorem dX2_readDoor_22 : decode cX2_readDoor 22 = .ok (.aload_n 0, 1) := by decide +kernel
theorem dX2_readDoor_23 : decode cX2_readDoor 23 = .ok (.getfield 9, 3) := by decide +kernel
theorem dX2_readDoor_26 : decode cX2_readDoor 26 = .ok (.invokevirtual 106, 3) := by decide +kernel
theorem dX2_readDoor_29 : decode cX2_readDoor 29 = .ok (.istore_n 1, 1) := by decide +kernel
theorem dX2_readDoor_30 : decode cX2_readDoor 30 = .ok (.aload_n 0, 1) := by decide +kernel
theorem dX2_readDoor_31 : decode cX2_readDoor 31 = .ok (.getfield 9, 3) := by decide +kernel
theorem dX2_readDoor_34 : decode cX2_readDoor 34 = .ok (.iconst 0, 1) := by decide +kernel
theorem dX2_readDoor_35 : decode cX2_readDoor 35 = .ok (.sipush 1439, 3) := by decide +kernel
theorem dX2_readDoor_38 : decode cX2_readDoor 38 = .ok (.invokevirtual 98, 3) := by decide +kernel
theorem dX2_readDoor_41 : decode cX2_readDoor 41 = .ok (.ifCond .ne 5, 3) := by decide +kernel
theorem dX2_readDoor_44 : decode cX2_readDoor 44 = .ok (.iconst 0, 1) := by decide +kernel
theorem dX2_readDoor_45 : decode cX2_readDoor 45 = .ok (.ireturn, 1) := by decide +kernel
theorem dX2_readDoor_46 : decode cX2_readDoor 46 = .ok (.aload_n 0, 1) := by decide +kernel
theorem dX2_readDoor_47 : decode cX2_readDoor 47 = .ok (.getfield 9, 3) := by decide +kernel
theorem dX2_readDoor_50 : decode cX2_readDoor 50 = .ok (.invokevirtual 106, 3) := by decide +kernel
theorem dX2_readDoor_53 : decode cX2_readDoor 53 = .ok (.istore_n 2, 1) := by decide +kernel
theorem dX2_readDoor_54 : decode cX2_readDoor 54 = .ok (.aload_n 0, 1) := by decide +kernel
theorem dX2_readDoor_55 : decode cX2_readDoor 55 = .ok (.getfield 9, 3) := by decide +kernel
theorem dX2_readDoor_58 : decode cX2_readDoor 58 = .ok (.iload_n 2, 1) := by decide +kernel
theorem dX2_readDoor_59 : decode cX2_readDoor 59 = .ok (.sipush 1439, 3) := by decide +kernel
theorem dX2_readDoor_62 : decode cX2_readDoor 62 = .ok (.invokevirtual 98, 3) := by decide +kernel
theorem dX2_readDoor_65 : decode cX2_readDoor 65 = .ok (.ifCond .eq 14, 3) := by decide +kernel
theorem dX2_readDoor_68 : decode cX2_readDoor 68 = .ok (.aload_n 0, 1) := by decide +kernel
theorem dX2_readDoor_69 : decode cX2_readDoor 69 = .ok (.getfield 15, 3) := by decide +kernel
theorem dX2_readDoor_72 : decode cX2_readDoor 72 = .ok (.iload_n 1, 1) := by decide +kernel
theorem dX2_readDoor_73 : decode cX2_readDoor 73 = .ok (.invokevirtual 139, 3) := by decide +kernel
theorem dX2_readDoor_76 : decode cX2_readDoor 76 = .ok (.ifCond .ne 5, 3) := by decide +kernel
theorem dX2_readDoor_79 : decode cX2_readDoor 79 = .ok (.iconst 0, 1) := by decide +kernel
theorem dX2_readDoor_80 : decode cX2_readDoor 80 = .ok (.ireturn, 1) := by decide +kernel
theorem dX2_readDoor_81 : decode cX2_readDoor 81 = .ok (.aload_n 0, 1) := by decide +kernel
theorem dX2_readDoor_82 : decode cX2_readDoor 82 = .ok (.getfield 15, 3) := by decide +kernel
theorem dX2_readDoor_85 : decode cX2_readDoor 85 = .ok (.getfield 131, 3) := by decide +kernel
theorem dX2_readDoor_88 : decode cX2_readDoor 88 = .ok (.iload_n 1, 1) := by decide +kernel
theorem dX2_readDoor_89 : decode cX2_readDoor 89 = .ok (.iload_n 2, 1) := by decide +kernel
theorem dX2_readDoor_90 : decode cX2_readDoor 90 = .ok (.iastore, 1) := by decide +kernel
theorem dX2_readDoor_91 : decode cX2_readDoor 91 = .ok (.aload_n 0, 1) := by decide +kernel
theorem dX2_readDoor_92 : decode cX2_readDoor 92 = .ok (.getfield 15, 3) := by decide +kernel
theorem dX2_readDoor_95 : decode cX2_readDoor 95 = .ok (.getfield 133, 3) := by decide +kernel
theorem dX2_readDoor_98 : decode cX2_readDoor 98 = .ok (.iload_n 1, 1) := by decide +kernel
theorem dX2_readDoor_99 : decode cX2_readDoor 99 = .ok (.aload_n 0, 1) := by decide +kernel
theorem dX2_readDoor_100 : decode cX2_readDoor 100 = .ok (.getfield 9, 3) := by decide +kernel
theorem dX2_readDoor_103 : decode cX2_readDoor 103 = .ok (.invokevirtual 106, 3) := by decide +kernel
theorem dX2_readDoor_106 : decode cX2_readDoor 106 = .ok (.iastore, 1) := by decide +kernel
theorem dX2_readDoor_107 : decode cX2_readDoor 107 = .ok (.iconst 1, 1) := by decide +kernel
theorem dX2_readDoor_108 : decode cX2_readDoor 108 = .ok (.ireturn, 1) := by decide +kernel
theorem dX2_readHoist_0 : decode cX2_readHoist 0 = .ok (.aload_n 0, 1) := by decide +kernel
theorem dX2_readHoist_1 : decode cX2_readHoist 1 = .ok (.getfield 9, 3) := by decide +kernel
theorem dX2_readHoist_4 : decode cX2_readHoist 4 = .ok (.iconst 1, 1) := by decide +kernel
theorem dX2_readHoist_5 : decode cX2_readHoist 5 = .ok (.bipush 60, 2) := by decide +kernel
theorem dX2_readHoist_7 : decode cX2_readHoist 7 = .ok (.invokevirtual 98, 3) := by decide +kernel
theorem dX2_readHoist_10 : decode cX2_readHoist 10 = .ok (.ifCond .ne 5, 3) := by decide +kernel
theorem dX2_readHoist_13 : decode cX2_readHoist 13 = .ok (.iconst 0, 1) := by decide +kernel
theorem dX2_readHoist_14 : decode cX2_readHoist 14 = .ok (.ireturn, 1) := by decide +kernel
theorem dX2_readHoist_15 : decode cX2_readHoist 15 = .ok (.aload_n 0, 1) := by decide +kernel
theorem dX2_readHoist_16 : decode cX2_readHoist 16 = .ok (.getfield 15, 3) := by decide +kernel
theorem dX2_readHoist_19 : decode cX2_readHoist 19 = .ok (.aload_n 0, 1) := by decide +kernel
theorem dX2_readHoist_20 : decode cX2_readHoist 20 = .ok (.getfield 9, 3) := by decide +kernel
theorem dX2_readHoist_23 : decode cX2_readHoist 23 = .ok (.invokevirtual 106, 3) := by decide +kernel
theorem dX2_readHoist_26 : decode cX2_readHoist 26 = .ok (.putfield 142, 3) := by decide +kernel
theorem dX2_readHoist_29 : decode cX2_readHoist 29 = .ok (.aload_n 0, 1) := by decide +kernel
theorem dX2_readHoist_30 : decode cX2_readHoist 30 = .ok (.getfield 9, 3) := by decide +kernel
theorem dX2_readHoist_33 : decode cX2_readHoist 33 = .ok (.iconst 1, 1) := by decide +kernel
theorem dX2_readHoist_34 : decode cX2_readHoist 34 = .ok (.bipush 9, 2) := by decide +kernel
theorem dX2_readHoist_36 : decode cX2_readHoist 36 = .ok (.invokevirtual 98, 3) := by decide +kernel
theorem dX2_readHoist_39 : decode cX2_readHoist 39 = .ok (.ifCond .ne 5, 3) := by decide +kernel
theorem dX2_readHoist_42 : decode cX2_readHoist 42 = .ok (.iconst 0, 1) := by decide +kernel
theorem dX2_readHoist_43 : decode cX2_readHoist 43 = .ok (.ireturn, 1) := by decide +kernel
theorem dX2_readHoist_44 : decode cX2_readHoist 44 = .ok (.aload_n 0, 1) := by decide +kernel
theorem dX2_readHoist_45 : decode cX2_readHoist 45 = .ok (.getfield 15, 3) := by decide +kernel
theorem dX2_readHoist_48 : decode cX2_readHoist 48 = .ok (.aload_n 0, 1) := by decide +kernel
theorem dX2_readHoist_49 : decode cX2_readHoist 49 = .ok (.getfield 9, 3) := by decide +kernel
theorem dX2_readHoist_52 : decode cX2_readHoist 52 = .ok (.invokevirtual 106, 3) := by decide +kernel
theorem dX2_readHoist_55 : decode cX2_readHoist 55 = .ok (.putfield 145, 3) := by decide +kernel
theorem dX2_readHoist_58 : decode cX2_readHoist 58 = .ok (.aload_n 0, 1) := by decide +kernel
theorem dX2_readHoist_59 : decode cX2_readHoist 59 = .ok (.getfield 9, 3) := by decide +kernel
theorem dX2_readHoist_62 : decode cX2_readHoist 62 = .ok (.iconst 1, 1) := by decide +kernel
theorem dX2_readHoist_63 : decode cX2_readHoist 63 = .ok (.bipush 120, 2) := by decide +kernel
theorem dX2_readHoist_65 : decode cX2_readHoist 65 = .ok (.invokevirtual 98, 3) := by decide +kernel
theorem dX2_readHoist_68 : decode cX2_readHoist 68 = .ok (.ifCond .ne 5, 3) := by decide +kernel
theorem dX2_readHoist_71 : decode cX2_readHoist 71 = .ok (.iconst 0, 1) := by decide +kernel
theorem dX2_readHoist_72 : decode cX2_readHoist 72 = .ok (.ireturn, 1) := by decide +kernel
theorem dX2_readHoist_73 : decode cX2_readHoist 73 = .ok (.aload_n 0, 1) := by decide +kernel
theorem dX2_readHoist_74 : decode cX2_readHoist 74 = .ok (.getfield 15, 3) := by decide +kernel
theorem dX2_readHoist_77 : decode cX2_readHoist 77 = .ok (.aload_n 0, 1) := by decide +kernel
theorem dX2_readHoist_78 : decode cX2_readHoist 78 = .ok (.getfield 9, 3) := by decide +kernel
theorem dX2_readHoist_81 : decode cX2_readHoist 81 = .ok (.invokevirtual 106, 3) := by decide +kernel
theorem dX2_readHoist_84 : decode cX2_readHoist 84 = .ok (.putfield 81, 3) := by decide +kernel
theorem dX2_readHoist_87 : decode cX2_readHoist 87 = .ok (.iconst 1, 1) := by decide +kernel
theorem dX2_readHoist_88 : decode cX2_readHoist 88 = .ok (.ireturn, 1) := by decide +kernel
theorem dX2_readPerson_0 : decode cX2_readPerson 0 = .ok (.aload_n 0, 1) := by decide +kernel
theorem dX2_readPerson_1 : decode cX2_readPerson 1 = .ok (.getfield 9, 3) := by decide +kernel
theorem dX2_readPerson_4 : decode cX2_readPerson 4 = .ok (.iconst 0, 1) := by decide +kernel
theorem dX2_readPerson_5 : decode cX2_readPerson 5 = .ok (.aload_n 0, 1) := by decide +kernel
theorem dX2_readPerson_6 : decode cX2_readPerson 6 = .ok (.getfield 15, 3) := by decide +kernel
theorem dX2_readPerson_9 : decode cX2_readPerson 9 = .ok (.getfield 40, 3) := by decide +kernel
theorem dX2_readPerson_12 : decode cX2_readPerson 12 = .ok (.iconst 1, 1) := by decide +kernel
theorem dX2_readPerson_13 : decode cX2_readPerson 13 = .ok (.isub, 1) := by decide +kernel
theorem dX2_readPerson_14 : decode cX2_readPerson 14 = .ok (.invokevirtual 98, 3) := by decide +kernel
theorem dX2_readPerson_17 : decode cX2_readPerson 17 = .ok (.ifCond .eq 15, 3) := by decide +kernel
theorem dX2_readPerson_20 : decode cX2_readPerson 20 = .ok (.aload_n 0, 1) := by decide +kernel
theorem dX2_readPerson_21 : decode cX2_readPerson 21 = .ok (.getfield 15, 3) := by decide +kernel
theorem dX2_readPerson_24 : decode cX2_readPerson 24 = .ok (.getfield 89, 3) := by decide +kernel
theorem dX2_readPerson_27 : decode cX2_readPerson 27 = .ok (.bipush 8, 2) := by decide +kernel
theorem dX2_readPerson_29 : decode cX2_readPerson 29 = .ok (.if_icmp .lt 5, 3) := by decide +kernel
theorem dX2_readPerson_32 : decode cX2_readPerson 32 = .ok (.iconst 0, 1) := by decide +kernel
theorem dX2_readPerson_33 : decode cX2_readPerson 33 = .ok (.ireturn, 1) := by decide +kernel
theorem dX2_readPerson_34 : decode cX2_readPerson 34 = .ok (.aload_n 0, 1) := by decide +kernel
theorem dX2_readPerson_35 : decode cX2_readPerson 35 = .ok (.getfield 15, 3) := by decide +kernel
theorem dX2_readPerson_38 : decode cX2_readPerson 38 = .ok (.getfield 148, 3) := by decide +kernel
theorem dX2_readPerson_41 : decode cX2_readPerson 41 = .ok (.aload_n 0, 1) := by decide +kernel
theorem dX2_readPerson_42 : decode cX2_readPerson 42 = .ok (.getfield 15, 3) := by decide +kernel
theorem dX2_readPerson_45 : decode cX2_readPerson 45 = .ok (.getfield 89, 3) := by decide +kernel
theorem dX2_readPerson_48 : decode cX2_readPerson 48 = .ok (.aload_n 0, 1) := by decide +kernel
theorem dX2_readPerson_49 : decode cX2_readPerson 49 = .ok (.getfield 9, 3) := by decide +kernel
theorem dX2_readPerson_52 : decode cX2_readPerson 52 = .ok (.invokevirtual 106, 3) := by decide +kernel
theorem dX2_readPerson_55 : decode cX2_readPerson 55 = .ok (.iastore, 1) := by decide +kernel
theorem dX2_readPerson_56 : decode cX2_readPerson 56 = .ok (.aload_n 0, 1) := by decide +kernel
theorem dX2_readPerson_57 : decode cX2_readPerson 57 = .ok (.getfield 15, 3) := by decide +kernel
theorem dX2_readPerson_60 : decode cX2_readPerson 60 = .ok (.dup, 1) := by decide +kernel
theorem dX2_readPerson_61 : decode cX2_readPerson 61 = .ok (.getfield 89, 3) := by decide +kernel
theorem dX2_readPerson_64 : decode cX2_readPerson 64 = .ok (.iconst 1, 1) := by decide +kernel
theorem dX2_readPerson_65 : decode cX2_readPerson 65 = .ok (.iadd, 1) := by decide +kernel
theorem dX2_readPerson_66 : decode cX2_readPerson 66 = .ok (.putfield 89, 3) := by decide +kernel
theorem dX2_readPerson_69 : decode cX2_readPerson 69 = .ok (.iconst 1, 1) := by decide +kernel
theorem dX2_readPerson_70 : decode cX2_readPerson 70 = .ok (.ireturn, 1) := by decide +kernel
theorem dX3_init_0 : decode cX3_init 0 = .ok (.aload_n 0, 1) := by decide +kernel
theorem dX3_init_1 : decode cX3_init 1 = .ok (.invokespecial 3, 3) := by decide +kernel
theorem dX3_init_4 : decode cX3_init 4 = .ok (.aload_n 0, 1) := by decide +kernel
theorem dX3_init_5 : decode cX3_init 5 = .ok (.bipush 10, 2) := by decide +kernel
theorem dX3_init_7 : decode cX3_init 7 = .ok (.newarray .int, 2) := by decide +kernel
theorem dX3_init_9 : decode cX3_init 9 = .ok (.putfield 9, 3) := by decide +kernel
theorem dX3_init_12 : decode cX3_init 12 = .ok (.aload_n 0, 1) := by decide +kernel
theorem dX3_init_13 : decode cX3_init 13 = .ok (.bipush 10, 2) := by decide +kernel
theorem dX3_init_15 : decode cX3_init 15 = .ok (.newarray .int, 2) := by decide +kernel
theorem dX3_init_17 : decode cX3_init 17 = .ok (.putfield 15, 3) := by decide +kernel
theorem dX3_init_20 : decode cX3_init 20 = .ok (.aload_n 0, 1) := by decide +kernel
theorem dX3_init_21 : decode cX3_init 21 = .ok (.bipush 10, 2) := by decide +kernel
theorem dX3_init_23 : decode cX3_init 23 = .ok (.newarray .int, 2) := by decide +kernel
theorem dX3_init_25 : decode cX3_init 25 = .ok (.putfield 18, 3) := by decide +kernel
theorem dX3_init_28 : decode cX3_init 28 = .ok (.aload_n 0, 1) := by decide +kernel
theorem dX3_init_29 : decode cX3_init 29 = .ok (.bipush 10, 2) := by decide +kernel
theorem dX3_init_31 : decode cX3_init 31 = .ok (.newarray .int, 2) := by decide +kernel
theorem dX3_init_33 : decode cX3_init 33 = .ok (.putfield 21, 3) := by decide +kernel
theorem dX3_init_36 : decode cX3_init 36 = .ok (.aload_n 0, 1) := by decide +kernel
theorem dX3_init_37 : decode cX3_init 37 = .ok (.bipush 12, 2) := by decide +kernel
theorem dX3_init_39 : decode cX3_init 39 = .ok (.newarray .int, 2) := by decide +kernel
theorem dX3_init_41 : decode cX3_init 41 = .ok (.putfield 24, 3) := by decide +kernel
theorem dX3_init_44 : decode cX3_init 44 = .ok (.aload_n 0, 1) := by decide +kernel
theorem dX3_init_45 : decode cX3_init 45 = .ok (.bipush 12, 2) := by decide +kernel
theorem dX3_init_47 : decode cX3_init 47 = .ok (.newarray .int, 2) := by decide +kernel
theorem dX3_init_49 : decode cX3_init 49 = .ok (.putfield 27, 3) := by decide +kernel
theorem dX3_init_52 : decode cX3_init 52 = .ok (.aload_n 0, 1) := by decide +kernel
theorem dX3_init_53 : decode cX3_init 53 = .ok (.bipush 12, 2) := by decide +kernel
theorem dX3_init_55 : decode cX3_init 55 = .ok (.newarray .int, 2) := by decide +kernel
theorem dX3_init_57 : decode cX3_init 57 = .ok (.putfield 30, 3) := by decide +kernel
theorem dX3_init_60 : decode cX3_init 60 = .ok (.aload_n 0, 1) := by decide +kernel
theorem dX3_init_61 : decode cX3_init 61 = .ok (.bipush 12, 2) := by decide +kernel
theorem dX3_init_63 : decode cX3_init 63 = .ok (.newarray .int, 2) := by decide +kernel
theorem dX3_init_65 : decode cX3_init 65 = .ok (.putfield 33, 3) := by decide +kernel
theorem dX3_init_68 : decode cX3_init 68 = .ok (.aload_n 0, 1) := by decide +kernel
theorem dX3_init_69 : decode cX3_init 69 = .ok (.bipush 20, 2) := by decide +kernel
theorem dX3_init_71 : decode cX3_init 71 = .ok (.newarray .int, 2) := by decide +kernel
theorem dX3_init_73 : decode cX3_init 73 = .ok (.putfield 36, 3) := by decide +kernel
theorem dX3_init_76 : decode cX3_init 76 = .ok (.aload_n 0, 1) := by decide +kernel
theorem dX3_init_77 : decode cX3_init 77 = .ok (.bipush 10, 2) := by decide +kernel
theorem dX3_init_79 : decode cX3_init 79 = .ok (.newarray .int, 2) := by decide +kernel
theorem dX3_init_81 : decode cX3_init 81 = .ok (.putfield 39, 3) := by decide +kernel
theorem dX3_init_84 : decode cX3_init 84 = .ok (.aload_n 0, 1) := by decide +kernel
theorem dX3_init_85 : decode cX3_init 85 = .ok (.bipush 10, 2) := by decide +kernel
theorem dX3_init_87 : decode cX3_init 87 = .ok (.newarray .int, 2) := by decide +kernel
theorem dX3_init_89 : decode cX3_init 89 = .ok (.putfield 42, 3) := by decide +kernel
theorem dX3_init_92 : decode cX3_init 92 = .ok (.return_, 1) := by decide +kernel
theorem dX3_copyFrom_0 : decode cX3_copyFrom 0 = .ok (.aload_n 0, 1) := by decide +kernel
theorem dX3_copyFrom_1 : decode cX3_copyFrom 1 = .ok (.aload_n 1, 1) := by decide +kernel
theorem dX3_copyFrom_2 : decode cX3_copyFrom 2 = .ok (.getfield 45, 3) := by decide +kernel
theorem dX3_copyFrom_5 : decode cX3_copyFrom 5 = .ok (.putfield 45, 3) := by decide +kernel
theorem dX3_copyFrom_8 : decode cX3_copyFrom 8 = .ok (.aload_n 0, 1) := by decide +kernel
theorem dX3_copyFrom_9 : decode cX3_copyFrom 9 = .ok (.aload_n 1, 1) := by decide +kernel
theorem dX3_copyFrom_10 : decode cX3_copyFrom 10 = .ok (.getfield 49, 3) := by decide +kernel
theorem dX3_copyFrom_13 : decode cX3_copyFrom 13 = .ok (.putfield 49, 3) := by decide +kernel
theorem dX3_copyFrom_16 : decode cX3_copyFrom 16 = .ok (.aload_n 0, 1) := by decide +kernel
theorem dX3_copyFrom_17 : decode cX3_copyFrom 17 = .ok (.aload_n 1, 1) := by decide +kernel
theorem dX3_copyFrom_18 : decode cX3_copyFrom 18 = .ok (.getfield 52, 3) := by decide +kernel
theorem dX3_copyFrom_21 : decode cX3_copyFrom 21 = .ok (.putfield 52, 3) := by decide +kernel
theorem dX3_copyFrom_24 : decode cX3_copyFrom 24 = .ok (.aload_n 0, 1) := by decide +kernel
theorem dX3_copyFrom_25 : decode cX3_copyFrom 25 = .ok (.aload_n 1, 1) := by decide +kernel
theorem dX3_copyFrom_26 : decode cX3_copyFrom 26 = .ok (.getfield 55, 3) := by decide +kernel
theorem dX3_copyFrom_29 : decode cX3_copyFrom 29 = .ok (.putfield 55, 3) := by decide +kernel
theorem dX3_copyFrom_32 : decode cX3_copyFrom 32 = .ok (.aload_n 0, 1) := by decide +kernel
theorem dX3_copyFrom_33 : decode cX3_copyFrom 33 = .ok (.aload_n 1, 1) := by decide +kernel
theorem dX3_copyFrom_34 : decode cX3_copyFrom 34 = .ok (.getfield 58, 3) := by decide +kernel
theorem dX3_copyFrom_37 : decode cX3_copyFrom 37 = .ok (.putfield 58, 3) := by decide +kernel
theorem dX3_copyFrom_40 : decode cX3_copyFrom 40 = .ok (.aload_n 1, 1) := by decide +kernel
theorem dX3_copyFrom_41 : decode cX3_copyFrom 41 = .ok (.getfield 9, 3) := by decide +kernel
theorem dX3_copyFrom_44 : decode cX3_copyFrom 44 = .ok (.aload_n 0, 1) := by decide +kernel
theorem dX3_copyFrom_45 : decode cX3_copyFrom 45 = .ok (.getfield 9, 3) := by decide +kernel
theorem dX3_copyFrom_48 : decode cX3_copyFrom 48 = .ok (.invokestatic 61, 3) := by decide +kernel
theorem dX3_copyFrom_51 : decode cX3_copyFrom 51 = .ok (.aload_n 1, 1) := by decide +kernel
theorem dX3_copyFrom_52 : decode cX3_copyFrom 52 = .ok (.getfield 15, 3) := by decide +kernel
theorem dX3_copyFrom_55 : decode cX3_copyFrom 55 = .ok (.aload_n 0, 1) := by decide +kernel
theorem dX3_copyFrom_56 : decode cX3_copyFrom 56 = .ok (.getfield 15, 3) := by decide +kernel
theorem dX3_copyFrom_59 : decode cX3_copyFrom 59 = .ok (.invokestatic 61, 3) := by decide +kernel
theorem dX3_copyFrom_62 : decode cX3_copyFrom 62 = .ok (.aload_n 1, 1) := by decide +kernel
theorem dX3_copyFrom_63 : decode cX3_copyFrom 63 = .ok (.getfield 18, 3) := by decide +kernel
theorem dX3_copyFrom_66 : decode cX3_copyFrom 66 = .ok (.aload_n 0, 1) := by decide +kernel
theorem dX3_copyFrom_67 : decode cX3_copyFrom 67 = .ok (.getfield 18, 3) := by decide +kernel
theorem dX3_copyFrom_70 : decode cX3_copyFrom 70 = .ok (.invokestatic 61, 3) := by decide +kernel
theorem dX3_copyFrom_73 : decode cX3_copyFrom 73 = .ok (.aload_n 1, 1) := by decide +kernel
theorem dX3_copyFrom_74 : decode cX3_copyFrom 74 = .ok (.getfield 21, 3) := by decide +kernel
theorem dX3_copyFrom_77 : decode cX3_copyFrom 77 = .ok (.aload_n 0, 1) := by decide +kernel
theorem dX3_copyFrom_78 : decode cX3_copyFrom 78 = .ok (.getfield 21, 3) := by decide +kernel
theorem dX3_copyFrom_81 : decode cX3_copyFrom 81 = .ok (.invokestatic 61, 3) := by decide +kernel
theorem dX3_copyFrom_84 : decode cX3_copyFrom 84 = .ok (.aload_n 1, 1) := by decide +kernel
theorem dX3_copyFrom_85 : decode cX3_copyFrom 85 = .ok (.getfield 24, 3) := by decide +kernel
theorem dX3_copyFrom_88 : decode cX3_copyFrom 88 = .ok (.aload_n 0, 1) := by decide +kernel
theorem dX3_copyFrom_89 : decode cX3_copyFrom 89 = .ok (.getfield 24, 3) := by decide +kernel
theorem dX3_copyFrom_92 : decode cX3_copyFrom 92 = .ok (.invokestatic 61, 3) := by decide +kernel
theorem dX3_copyFrom_95 : decode cX3_copyFrom 95 = .ok (.aload_n 1, 1) := by decide +kernel
theorem dX3_copyFrom_96 : decode cX3_copyFrom 96 = .ok (.getfield 27, 3) := by decide +kernel
theorem dX3_copyFrom_99 : decode cX3_copyFrom 99 = .ok (.aload_n 0, 1) := by decide +kernel
theorem dX3_copyFrom_100 : decode cX3_copyFrom 100 = .ok (.getfield 27, 3) := by decide +kernel
theorem dX3_copyFrom_103 : decode cX3_copyFrom 103 = .ok (.invokestatic 61, 3) := by decide +kernel
theorem dX3_copyFrom_106 : decode cX3_copyFrom 106 = .ok (.aload_n 1, 1) := by decide +kernel
theorem dX3_copyFrom_107 : decode cX3_copyFrom 107 = .ok (.getfield 30, 3) := by decide +kernel
theorem dX3_copyFrom_110 : decode cX3_copyFrom 110 = .ok (.aload_n 0, 1) := by decide +kernel
theorem dX3_copyFrom_111 : decode cX3_copyFrom 111 = .ok (.getfield 30, 3) := by decide +kernel
theorem dX3_copyFrom_114 : decode cX3_copyFrom 114 = .ok (.invokestatic 61, 3) := by decide +kernel
theorem dX3_copyFrom_117 : decode cX3_copyFrom 117 = .ok (.aload_n 1, 1) := by decide +kernel
theorem dX3_copyFrom_118 : decode cX3_copyFrom 118 = .ok (.getfield 33, 3) := by decide +kernel
theorem dX3_copyFrom_121 : decode cX3_copyFrom 121 = .ok (.aload_n 0, 1) := by decide +kernel
theorem dX3_copyFrom_122 : decode cX3_copyFrom 122 = .ok (.getfield 33, 3) := by decide +kernel
theorem dX3_copyFrom_125 : decode cX3_copyFrom 125 = .ok (.invokestatic 61, 3) := by decide +kernel
theorem dX3_copyFrom_128 : decode cX3_copyFrom 128 = .ok (.aload_n 1, 1) := by decide +kernel
theorem dX3_copyFrom_129 : decode cX3_copyFrom 129 = .ok (.getfield 36, 3) := by decide +kernel
theorem dX3_copyFrom_132 : decode cX3_copyFrom 132 = .ok (.aload_n 0, 1) := by decide +kernel
theorem dX3_copyFrom_133 : decode cX3_copyFrom 133 = .ok (.getfield 36, 3) := by decide +kernel
theorem dX3_copyFrom_136 : decode cX3_copyFrom 136 = .ok (.invokestatic 61, 3) := by decide +kernel
theorem dX3_copyFrom_139 : decode cX3_copyFrom 139 = .ok (.aload_n 1, 1) := by decide +kernel
theorem dX3_copyFrom_140 : decode cX3_copyFrom 140 = .ok (.getfield 39, 3) := by decide +kernel
theorem dX3_copyFrom_143 : decode cX3_copyFrom 143 = .ok (.aload_n 0, 1) := by decide +kernel
theorem dX3_copyFrom_144 : decode cX3_copyFrom 144 = .ok (.getfield 39, 3) := by decide +kernel
theorem dX3_copyFrom_147 : decode cX3_copyFrom 147 = .ok (.invokestatic 61, 3) := by decide +kernel
theorem dX3_copyFrom_150 : decode cX3_copyFrom 150 = .ok (.aload_n 1, 1) := by decide +kernel
theorem dX3_copyFrom_151 : decode cX3_copyFrom 151 = .ok (.getfield 42, 3) := by decide +kernel
theorem dX3_copyFrom_154 : decode cX3_copyFrom 154 = .ok (.aload_n 0, 1) := by decide +kernel
theorem dX3_copyFrom_155 : decode cX3_copyFrom 155 = .ok (.getfield 42, 3) := by decide +kernel
theorem dX3_copyFrom_158 : decode cX3_copyFrom 158 = .ok (.invokestatic 61, 3) := by decide +kernel
theorem dX3_copyFrom_161 : decode cX3_copyFrom 161 = .ok (.return_, 1) := by decide +kernel
theorem dX3_addErrand_0 : decode cX3_addErrand 0 = .ok (.aload_n 0, 1) := by decide +kernel
theorem dX3_addErrand_1 : decode cX3_addErrand 1 = .ok (.getfield 49, 3) := by decide +kernel
theorem dX3_addErrand_4 : decode cX3_addErrand 4 = .ok (.bipush 10, 2) := by decide +kernel
theorem dX3_addErrand_6 : decode cX3_addErrand 6 = .ok (.if_icmp .lt 5, 3) := by decide +kernel
theorem dX3_addErrand_9 : decode cX3_addErrand 9 = .ok (.iconst (-1), 1) := by decide +kernel
theorem dX3_addErrand_10 : decode cX3_addErrand 10 = .ok (.ireturn, 1) := by decide +kernel
theorem dX3_addErrand_11 : decode cX3_addErrand 11 = .ok (.aload_n 0, 1) := by decide +kernel
theorem dX3_addErrand_12 : decode cX3_addErrand 12 = .ok (.getfield 9, 3) := by decide +kernel
theorem dX3_addErrand_15 : decode cX3_addErrand 15 = .ok (.aload_n 0, 1) := by decide +kernel
theorem dX3_addErrand_16 : decode cX3_addErrand 16 = .ok (.getfield 49, 3) := by decide +kernel
theorem dX3_addErrand_19 : decode cX3_addErrand 19 = .ok (.iload_n 1, 1) := by decide +kernel
theorem dX3_addErrand_20 : decode cX3_addErrand 20 = .ok (.iastore, 1) := by decide +kernel
theorem dX3_addErrand_21 : decode cX3_addErrand 21 = .ok (.aload_n 0, 1) := by decide +kernel
theorem dX3_addErrand_22 : decode cX3_addErrand 22 = .ok (.getfield 15, 3) := by decide +kernel
theorem dX3_addErrand_25 : decode cX3_addErrand 25 = .ok (.aload_n 0, 1) := by decide +kernel
theorem dX3_addErrand_26 : decode cX3_addErrand 26 = .ok (.getfield 49, 3) := by decide +kernel
theorem dX3_addErrand_29 : decode cX3_addErrand 29 = .ok (.iload_n 2, 1) := by decide +kernel
theorem dX3_addErrand_30 : decode cX3_addErrand 30 = .ok (.iastore, 1) := by decide +kernel
theorem dX3_addErrand_31 : decode cX3_addErrand 31 = .ok (.aload_n 0, 1) := by decide +kernel
theorem dX3_addErrand_32 : decode cX3_addErrand 32 = .ok (.getfield 18, 3) := by decide +kernel
theorem dX3_addErrand_35 : decode cX3_addErrand 35 = .ok (.aload_n 0, 1) := by decide +kernel
theorem dX3_addErrand_36 : decode cX3_addErrand 36 = .ok (.getfield 49, 3) := by decide +kernel
theorem dX3_addErrand_39 : decode cX3_addErrand 39 = .ok (.iload_n 3, 1) := by decide +kernel
theorem dX3_addErrand_40 : decode cX3_addErrand 40 = .ok (.iastore, 1) := by decide +kernel
theorem dX3_addErrand_41 : decode cX3_addErrand 41 = .ok (.aload_n 0, 1) := by decide +kernel
theorem dX3_addErrand_42 : decode cX3_addErrand 42 = .ok (.getfield 21, 3) := by decide +kernel
theorem dX3_addErrand_45 : decode cX3_addErrand 45 = .ok (.aload_n 0, 1) := by decide +kernel
theorem dX3_addErrand_46 : decode cX3_addErrand 46 = .ok (.getfield 49, 3) := by decide +kernel
theorem dX3_addErrand_49 : decode cX3_addErrand 49 = .ok (.iload 4, 2) := by decide +kernel
theorem dX3_addErrand_51 : decode cX3_addErrand 51 = .ok (.iastore, 1) := by decide +kernel
theorem dX3_addErrand_52 : decode cX3_addErrand 52 = .ok (.aload_n 0, 1) := by decide +kernel
theorem dX3_addErrand_53 : decode cX3_addErrand 53 = .ok (.dup, 1) := by decide +kernel
theorem dX3_addErrand_54 : decode cX3_addErrand 54 = .ok (.getfield 49, 3) := by decide +kernel
theorem dX3_addErrand_57 : decode cX3_addErrand 57 = .ok (.iconst 1, 1) := by decide +kernel
theorem dX3_addErrand_58 : decode cX3_addErrand 58 = .ok (.iadd, 1) := by decide +kernel
theorem dX3_addErrand_59 : decode cX3_addErrand 59 = .ok (.putfield 49, 3) := by decide +kernel
theorem dX3_addErrand_62 : decode cX3_addErrand 62 = .ok (.aload_n 0, 1) := by decide +kernel
theorem dX3_addErrand_63 : decode cX3_addErrand 63 = .ok (.getfield 49, 3) := by decide +kernel
theorem dX3_addErrand_66 : decode cX3_addErrand 66 = .ok (.iconst 1, 1) := by decide +kernel
theorem dX3_addErrand_67 : decode cX3_addErrand 67 = .ok (.isub, 1) := by decide +kernel
theorem dX3_addErrand_68 : decode cX3_addErrand 68 = .ok (.ireturn, 1) := by decide +kernel
theorem dX3_addTrip_0 : decode cX3_addTrip 0 = .ok (.aload_n 0, 1) := by decide +kernel
theorem dX3_addTrip_1 : decode cX3_addTrip 1 = .ok (.getfield 52, 3) := by decide +kernel
theorem dX3_addTrip_4 : decode cX3_addTrip 4 = .ok (.bipush 12, 2) := by decide +kernel
theorem dX3_addTrip_6 : decode cX3_addTrip 6 = .ok (.if_icmp .lt 6, 3) := by decide +kernel
theorem dX3_addTrip_9 : decode cX3_addTrip 9 = .ok (.bipush (-2), 2) := by decide +kernel
theorem dX3_addTrip_11 : decode cX3_addTrip 11 = .ok (.ireturn, 1) := by decide +kernel
theorem dX3_addTrip_12 : decode cX3_addTrip 12 = .ok (.aload_n 0, 1) := by decide +kernel
theorem dX3_addTrip_13 : decode cX3_addTrip 13 = .ok (.getfield 24, 3) := by decide +kernel
theorem dX3_addTrip_16 : decode cX3_addTrip 16 = .ok (.aload_n 0, 1) := by decide +kernel
theorem dX3_addTrip_17 : decode cX3_addTrip 17 = .ok (.getfield 52, 3) := by decide +kernel
theorem dX3_addTrip_20 : decode cX3_addTrip 20 = .ok (.iload_n 1, 1) := by decide +kernel
theorem dX3_addTrip_21 : decode cX3_addTrip 21 = .ok (.iastore, 1) := by decide +kernel
theorem dX3_addTrip_22 : decode cX3_addTrip 22 = .ok (.aload_n 0, 1) := by decide +kernel
theorem dX3_addTrip_23 : decode cX3_addTrip 23 = .ok (.getfield 27, 3) := by decide +kernel
theorem dX3_addTrip_26 : decode cX3_addTrip 26 = .ok (.aload_n 0, 1) := by decide +kernel
theorem dX3_addTrip_27 : decode cX3_addTrip 27 = .ok (.getfield 52, 3) := by decide +kernel
theorem dX3_addTrip_30 : decode cX3_addTrip 30 = .ok (.iload_n 2, 1) := by decide +kernel
theorem dX3_addTrip_31 : decode cX3_addTrip 31 = .ok (.iastore, 1) := by decide +kernel
theorem dX3_addTrip_32 : decode cX3_addTrip 32 = .ok (.aload_n 0, 1) := by decide +kernel
theorem dX3_addTrip_33 : decode cX3_addTrip 33 = .ok (.getfield 30, 3) := by decide +kernel
theorem dX3_addTrip_36 : decode cX3_addTrip 36 = .ok (.aload_n 0, 1) := by decide +kernel
theorem dX3_addTrip_37 : decode cX3_addTrip 37 = .ok (.getfield 52, 3) := by decide +kernel
theorem dX3_addTrip_40 : decode cX3_addTrip 40 = .ok (.iload_n 3, 1) := by decide +kernel
theorem dX3_addTrip_41 : decode cX3_addTrip 41 = .ok (.iastore, 1) := by decide +kernel
theorem dX3_addTrip_42 : decode cX3_addTrip 42 = .ok (.aload_n 0, 1) := by decide +kernel
theorem dX3_addTrip_43 : decode cX3_addTrip 43 = .ok (.getfield 33, 3) := by decide +kernel
theorem dX3_addTrip_46 : decode cX3_addTrip 46 = .ok (.aload_n 0, 1) := by decide +kernel
theorem dX3_addTrip_47 : decode cX3_addTrip 47 = .ok (.getfield 52, 3) := by decide +kernel
theorem dX3_addTrip_50 : decode cX3_addTrip 50 = .ok (.iload 4, 2) := by decide +kernel
theorem dX3_addTrip_52 : decode cX3_addTrip 52 = .ok (.iastore, 1) := by decide +kernel
theorem dX3_addTrip_53 : decode cX3_addTrip 53 = .ok (.aload_n 0, 1) := by decide +kernel
theorem dX3_addTrip_54 : decode cX3_addTrip 54 = .ok (.dup, 1) := by decide +kernel
theorem dX3_addTrip_55 : decode cX3_addTrip 55 = .ok (.getfield 52, 3) := by decide +kernel
theorem dX3_addTrip_58 : decode cX3_addTrip 58 = .ok (.iconst 1, 1) := by decide +kernel
theorem dX3_addTrip_59 : decode cX3_addTrip 59 = .ok (.iadd, 1) := by decide +kernel
theorem dX3_addTrip_60 : decode cX3_addTrip 60 = .ok (.putfield 52, 3) := by decide +kernel
theorem dX3_addTrip_63 : decode cX3_addTrip 63 = .ok (.aload_n 0, 1) := by decide +kernel
theorem dX3_addTrip_64 : decode cX3_addTrip 64 = .ok (.getfield 52, 3) := by decide +kernel
theorem dX3_addTrip_67 : decode cX3_addTrip 67 = .ok (.ireturn, 1) := by decide +kernel
theorem dX3_addRider_0 : decode cX3_addRider 0 = .ok (.aload_n 0, 1) := by decide +kernel
theorem dX3_addRider_1 : decode cX3_addRider 1 = .ok (.getfield 55, 3) := by decide +kernel
theorem dX3_addRider_4 : decode cX3_addRider 4 = .ok (.bipush 20, 2) := by decide +kernel
theorem dX3_addRider_6 : decode cX3_addRider 6 = .ok (.if_icmp .lt 6, 3) := by decide +kernel
theorem dX3_addRider_9 : decode cX3_addRider 9 = .ok (.bipush (-2), 2) := by decide +kernel
theorem dX3_addRider_11 : decode cX3_addRider 11 = .ok (.ireturn, 1) := by decide +kernel
theorem dX3_addRider_12 : decode cX3_addRider 12 = .ok (.aload_n 0, 1) := by decide +kernel
theorem dX3_addRider_13 : decode cX3_addRider 13 = .ok (.getfield 36, 3) := by decide +kernel
theorem dX3_addRider_16 : decode cX3_addRider 16 = .ok (.aload_n 0, 1) := by decide +kernel
theorem dX3_addRider_17 : decode cX3_addRider 17 = .ok (.getfield 55, 3) := by decide +kernel
theorem dX3_addRider_20 : decode cX3_addRider 20 = .ok (.iload_n 1, 1) := by decide +kernel
theorem dX3_addRider_21 : decode cX3_addRider 21 = .ok (.iastore, 1) := by decide +kernel
theorem dX3_addRider_22 : decode cX3_addRider 22 = .ok (.aload_n 0, 1) := by decide +kernel
theorem dX3_addRider_23 : decode cX3_addRider 23 = .ok (.dup, 1) := by decide +kernel
theorem dX3_addRider_24 : decode cX3_addRider 24 = .ok (.getfield 55, 3) := by decide +kernel
theorem dX3_addRider_27 : decode cX3_addRider 27 = .ok (.iconst 1, 1) := by decide +kernel
theorem dX3_addRider_28 : decode cX3_addRider 28 = .ok (.iadd, 1) := by decide +kernel
theorem dX3_addRider_29 : decode cX3_addRider 29 = .ok (.putfield 55, 3) := by decide +kernel
theorem dX3_addRider_32 : decode cX3_addRider 32 = .ok (.aload_n 0, 1) := by decide +kernel
theorem dX3_addRider_33 : decode cX3_addRider 33 = .ok (.getfield 55, 3) := by decide +kernel
theorem dX3_addRider_36 : decode cX3_addRider 36 = .ok (.ireturn, 1) := by decide +kernel
theorem dX3_addCustomer_0 : decode cX3_addCustomer 0 = .ok (.aload_n 0, 1) := by decide +kernel
theorem dX3_addCustomer_1 : decode cX3_addCustomer 1 = .ok (.getfield 58, 3) := by decide +kernel
theorem dX3_addCustomer_4 : decode cX3_addCustomer 4 = .ok (.bipush 10, 2) := by decide +kernel
theorem dX3_addCustomer_6 : decode cX3_addCustomer 6 = .ok (.if_icmp .lt 6, 3) := by decide +kernel
theorem dX3_addCustomer_9 : decode cX3_addCustomer 9 = .ok (.bipush (-2), 2) := by decide +kernel
theorem dX3_addCustomer_11 : decode cX3_addCustomer 11 = .ok (.ireturn, 1) := by decide +kernel
theorem dX3_addCustomer_12 : decode cX3_addCustomer 12 = .ok (.aload_n 0, 1) := by decide +kernel
theorem dX3_addCustomer_13 : decode cX3_addCustomer 13 = .ok (.getfield 39, 3) := by decide +kernel
theorem dX3_addCustomer_16 : decode cX3_addCustomer 16 = .ok (.aload_n 0, 1) := by decide +kernel
theorem dX3_addCustomer_17 : decode cX3_addCustomer 17 = .ok (.getfield 58, 3) := by decide +kernel
theorem dX3_addCustomer_20 : decode cX3_addCustomer 20 = .ok (.iload_n 1, 1) := by decide +kernel
theorem dX3_addCustomer_21 : decode cX3_addCustomer 21 = .ok (.iastore, 1) := by decide +kernel
theorem dX3_addCustomer_22 : decode cX3_addCustomer 22 = .ok (.aload_n 0, 1) := by decide +kernel
theorem dX3_addCustomer_23 : decode cX3_addCustomer 23 = .ok (.getfield 42, 3) := by decide +kernel
theorem dX3_addCustomer_26 : decode cX3_addCustomer 26 = .ok (.aload_n 0, 1) := by decide +kernel
theorem dX3_addCustomer_27 : decode cX3_addCustomer 27 = .ok (.getfield 58, 3) := by decide +kernel
theorem dX3_addCustomer_30 : decode cX3_addCustomer 30 = .ok (.iload_n 2, 1) := by decide +kernel
theorem dX3_addCustomer_31 : decode cX3_addCustomer 31 = .ok (.iastore, 1) := by decide +kernel
theorem dX3_addCustomer_32 : decode cX3_addCustomer 32 = .ok (.aload_n 0, 1) := by decide +kernel
theorem dX3_addCustomer_33 : decode cX3_addCustomer 33 = .ok (.dup, 1) := by decide +kernel
theorem dX3_addCustomer_34 : decode cX3_addCustomer 34 = .ok (.getfield 58, 3) := by decide +kernel
theorem dX3_addCustomer_37 : decode cX3_addCustomer 37 = .ok (.iconst 1, 1) := by decide +kernel
theorem dX3_addCustomer_38 : decode cX3_addCustomer 38 = .ok (.iadd, 1) := by decide +kernel
theorem dX3_addCustomer_39 : decode cX3_addCustomer 39 = .ok (.putfield 58, 3) := by decide +kernel
theorem dX3_addCustomer_42 : decode cX3_addCustomer 42 = .ok (.aload_n 0, 1) := by decide +kernel
theorem dX3_addCustomer_43 : decode cX3_addCustomer 43 = .ok (.getfield 58, 3) := by decide +kernel
theorem dX3_addCustomer_46 : decode cX3_addCustomer 46 = .ok (.ireturn, 1) := by decide +kernel
theorem dX3_firstWaiting_0 : decode cX3_firstWaiting 0 = .ok (.iconst (-1), 1) := by decide +kernel
theorem dX3_firstWaiting_1 : decode cX3_firstWaiting 1 = .ok (.istore_n 2, 1) := by decide +kernel
theorem dX3_firstWaiting_2 : decode cX3_firstWaiting 2 = .ok (.iconst 0, 1) := by decide +kernel
theorem dX3_firstWaiting_3 : decode cX3_firstWaiting 3 = .ok (.istore_n 3, 1) := by decide +kernel
theorem dX3_firstWaiting_4 : decode cX3_firstWaiting 4 = .ok (.iload_n 3, 1) := by decide +kernel
theorem dX3_firstWaiting_5 : decode cX3_firstWaiting 5 = .ok (.aload_n 0, 1) := by decide +kernel
theorem dX3_firstWaiting_6 : decode cX3_firstWaiting 6 = .ok (.getfield 55, 3) := by decide +kernel
theorem dX3_firstWaiting_9 : decode cX3_firstWaiting 9 = .ok (.if_icmp .ge 50, 3) := by decide +kernel
theorem dX3_firstWaiting_12 : decode cX3_firstWaiting 12 = .ok (.iload_n 3, 1) := by decide +kernel
theorem dX3_firstWaiting_13 : decode cX3_firstWaiting 13 = .ok (.bipush 20, 2) := by decide +kernel
theorem dX3_firstWaiting_15 : decode cX3_firstWaiting 15 = .ok (.if_icmp .ge 44, 3) := by decide +kernel
theorem dX3_firstWaiting_18 : decode cX3_firstWaiting 18 = .ok (.iload_n 3, 1) := by decide +kernel
theorem dX3_firstWaiting_19 : decode cX3_firstWaiting 19 = .ok (.aload_n 1, 1) := by decide +kernel
theorem dX3_firstWaiting_20 : decode cX3_firstWaiting 20 = .ok (.arraylength, 1) := by decide +kernel
theorem dX3_firstWaiting_21 : decode cX3_firstWaiting 21 = .ok (.if_icmp .ge 38, 3) := by decide +kernel
theorem dX3_firstWaiting_24 : decode cX3_firstWaiting 24 = .ok (.aload_n 1, 1) := by decide +kernel
theorem dX3_firstWaiting_25 : decode cX3_firstWaiting 25 = .ok (.iload_n 3, 1) := by decide +kernel
theorem dX3_firstWaiting_26 : decode cX3_firstWaiting 26 = .ok (.iaload, 1) := by decide +kernel
theorem dX3_firstWaiting_27 : decode cX3_firstWaiting 27 = .ok (.iconst (-1), 1) := by decide +kernel
theorem dX3_firstWaiting_28 : decode cX3_firstWaiting 28 = .ok (.if_icmp .ne 25, 3) := by decide +kernel
theorem dX3_firstWaiting_31 : decode cX3_firstWaiting 31 = .ok (.iload_n 2, 1) := by decide +kernel
theorem dX3_firstWaiting_32 : decode cX3_firstWaiting 32 = .ok (.iconst (-1), 1) := by decide +kernel
theorem dX3_firstWaiting_33 : decode cX3_firstWaiting 33 = .ok (.if_icmp .eq 18, 3) := by decide +kernel
theorem dX3_firstWaiting_36 : decode cX3_firstWaiting 36 = .ok (.aload_n 0, 1) := by decide +kernel
theorem dX3_firstWaiting_37 : decode cX3_firstWaiting 37 = .ok (.getfield 36, 3) := by decide +kernel
theorem dX3_firstWaiting_40 : decode cX3_firstWaiting 40 = .ok (.iload_n 3, 1) := by decide +kernel
theorem dX3_firstWaiting_41 : decode cX3_firstWaiting 41 = .ok (.iaload, 1) := by decide +kernel
theorem dX3_firstWaiting_42 : decode cX3_firstWaiting 42 = .ok (.aload_n 0, 1) := by decide +kernel
theorem dX3_firstWaiting_43 : decode cX3_firstWaiting 43 = .ok (.getfield 36, 3) := by decide +kernel
theorem dX3_firstWaiting_46 : decode cX3_firstWaiting 46 = .ok (.iload_n 2, 1) := by decide +kernel
theorem dX3_firstWaiting_47 : decode cX3_firstWaiting 47 = .ok (.iaload, 1) := by decide +kernel
theorem dX3_firstWaiting_48 : decode cX3_firstWaiting 48 = .ok (.if_icmp .ge 5, 3) := by decide +kernel
theorem dX3_firstWaiting_51 : decode cX3_firstWaiting 51 = .ok (.iload_n 3, 1) := by decide +kernel
theorem dX3_firstWaiting_52 : decode cX3_firstWaiting 52 = .ok (.istore_n 2, 1) := by decide +kernel
theorem dX3_firstWaiting_53 : decode cX3_firstWaiting 53 = .ok (.iinc 3 1, 3) := by decide +kernel
theorem dX3_firstWaiting_56 : decode cX3_firstWaiting 56 = .ok (.goto (-52), 3) := by decide +kernel
theorem dX3_firstWaiting_59 : decode cX3_firstWaiting 59 = .ok (.iload_n 2, 1) := by decide +kernel
theorem dX3_firstWaiting_60 : decode cX3_firstWaiting 60 = .ok (.ireturn, 1) := by decide +kernel
theorem dX3_customersFrom_0 : decode cX3_customersFrom 0 = .ok (.iconst 0, 1) := by decide +kernel
theorem dX3_customersFrom_1 : decode cX3_customersFrom 1 = .ok (.istore_n 3, 1) := by decide +kernel
theorem dX3_customersFrom_2 : decode cX3_customersFrom 2 = .ok (.iconst 0, 1) := by decide +kernel
theorem dX3_customersFrom_3 : decode cX3_customersFrom 3 = .ok (.istore 4, 2) := by decide +kernel
theorem dX3_customersFrom_5 : decode cX3_customersFrom 5 = .ok (.iload 4, 2) := by decide +kernel
theorem dX3_customersFrom_7 : decode cX3_customersFrom 7 = .ok (.aload_n 0, 1) := by decide +kernel
theorem dX3_customersFrom_8 : decode cX3_customersFrom 8 = .ok (.getfield 58, 3) := by decide +kernel
theorem dX3_customersFrom_11 : decode cX3_customersFrom 11 = .ok (.if_icmp .ge 45, 3) := by decide +kernel
theorem dX3_customersFrom_14 : decode cX3_customersFrom 14 = .ok (.iload 4, 2) := by decide +kernel
theorem dX3_customersFrom_16 : decode cX3_customersFrom 16 = .ok (.bipush 10, 2) := by decide +kernel
theorem dX3_customersFrom_18 : decode cX3_customersFrom 18 = .ok (.if_icmp .ge 38, 3) := by decide +kernel
theorem dX3_customersFrom_21 : decode cX3_customersFrom 21 = .ok (.aload_n 0, 1) := by decide +kernel
theorem dX3_customersFrom_22 : decode cX3_customersFrom 22 = .ok (.getfield 39, 3) := by decide +kernel
theorem dX3_customersFrom_25 : decode cX3_customersFrom 25 = .ok (.iload 4, 2) := by decide +kernel
theorem dX3_customersFrom_27 : decode cX3_customersFrom 27 = .ok (.iaload, 1) := by decide +kernel
theorem dX3_customersFrom_28 : decode cX3_customersFrom 28 = .ok (.iload_n 1, 1) := by decide +kernel
theorem dX3_customersFrom_29 : decode cX3_customersFrom 29 = .ok (.if_icmp .ne 21, 3) := by decide +kernel
theorem dX3_customersFrom_32 : decode cX3_customersFrom 32 = .ok (.iload_n 2, 1) := by decide +kernel
theorem dX3_customersFrom_33 : decode cX3_customersFrom 33 = .ok (.aload_n 0, 1) := by decide +kernel
theorem dX3_customersFrom_34 : decode cX3_customersFrom 34 = .ok (.getfield 42, 3) := by decide +kernel
theorem dX3_customersFrom_37 : decode cX3_customersFrom 37 = .ok (.iload 4, 2) := by decide +kernel
theorem dX3_customersFrom_39 : decode cX3_customersFrom 39 = .ok (.iaload, 1) := by decide +kernel
theorem dX3_customersFrom_40 : decode cX3_customersFrom 40 = .ok (.ishr, 1) := by decide +kernel
theorem dX3_customersFrom_41 : decode cX3_customersFrom 41 = .ok (.iconst 1, 1) := by decide +kernel
theorem dX3_customersFrom_42 : decode cX3_customersFrom 42 = .ok (.iand, 1) := by decide +kernel
theorem dX3_customersFrom_43 : decode cX3_customersFrom 43 = .ok (.iconst 1, 1) := by decide +kernel
theorem dX3_customersFrom_44 : decode cX3_customersFrom 44 = .ok (.if_icmp .ne 6, 3) := by decide +kernel
theorem dX3_customersFrom_47 : decode cX3_customersFrom 47 = .ok (.iinc 3 1, 3) := by decide +kernel
theorem dX3_customersFrom_50 : decode cX3_customersFrom 50 = .ok (.iinc 4 1, 3) := by decide +kernel
theorem dX3_customersFrom_53 : decode cX3_customersFrom 53 = .ok (.goto (-48), 3) := by decide +kernel
theorem dX3_customersFrom_56 : decode cX3_customersFrom 56 = .ok (.iload_n 3, 1) := by decide +kernel
theorem dX3_customersFrom_57 : decode cX3_customersFrom 57 = .ok (.ireturn, 1) := by decide +kernel
theorem dX4_init_0 : decode cX4_init 0 = .ok (.aload_n 0, 1) := by decide +kernel
theorem dX4_init_1 : decode cX4_init 1 = .ok (.invokespecial 3, 3) := by decide +kernel
theorem dX4_init_4 : decode cX4_init 4 = .ok (.aload_n 0, 1) := by decide +kernel
theorem dX4_init_5 : decode cX4_init 5 = .ok (.new 9, 3) := by decide +kernel
theorem dX4_init_8 : decode cX4_init 8 = .ok (.dup, 1) := by decide +kernel
theorem dX4_init_9 : decode cX4_init 9 = .ok (.invokespecial 11, 3) := by decide +kernel
theorem dX4_init_12 : decode cX4_init 12 = .ok (.putfield 12, 3) := by decide +kernel
theorem dX4_init_15 : decode cX4_init 15 = .ok (.aload_n 0, 1) := by decide +kernel
theorem dX4_init_16 : decode cX4_init 16 = .ok (.sipush 20480, 3) := by decide +kernel
theorem dX4_init_19 : decode cX4_init 19 = .ok (.newarray .int, 2) := by decide +kernel
theorem dX4_init_21 : decode cX4_init 21 = .ok (.putfield 18, 3) := by decide +kernel
theorem dX4_init_24 : decode cX4_init 24 = .ok (.return_, 1) := by decide +kernel
theorem dX4_plan_0 : decode cX4_plan 0 = .ok (.aload_n 1, 1) := by decide +kernel
theorem dX4_plan_1 : decode cX4_plan 1 = .ok (.getfield 22, 3) := by decide +kernel
theorem dX4_plan_4 : decode cX4_plan 4 = .ok (.astore 5, 2) := by decide +kernel
theorem dX4_plan_6 : decode cX4_plan 6 = .ok (.iconst 1, 1) := by decide +kernel
theorem dX4_plan_7 : decode cX4_plan 7 = .ok (.aload 5, 2) := by decide +kernel
theorem dX4_plan_9 : decode cX4_plan 9 = .ok (.getfield 28, 3) := by decide +kernel
theorem dX4_plan_12 : decode cX4_plan 12 = .ok (.bipush 10, 2) := by decide +kernel
theorem dX4_plan_14 : decode cX4_plan 14 = .ok (.invokestatic 34, 3) := by decide +kernel
theorem dX4_plan_17 : decode cX4_plan 17 = .ok (.ishl, 1) := by decide +kernel
theorem dX4_plan_18 : decode cX4_plan 18 = .ok (.istore 6, 2) := by decide +kernel
theorem dX4_plan_20 : decode cX4_plan 20 = .ok (.aload_n 0, 1) := by decide +kernel
theorem dX4_plan_21 : decode cX4_plan 21 = .ok (.getfield 18, 3) := by decide +kernel
theorem dX4_plan_24 : decode cX4_plan 24 = .ok (.iconst 0, 1) := by decide +kernel
theorem dX4_plan_25 : decode cX4_plan 25 = .ok (.aload_n 0, 1) := by decide +kernel
theorem dX4_plan_26 : decode cX4_plan 26 = .ok (.getfield 18, 3) := by decide +kernel
theorem dX4_plan_29 : decode cX4_plan 29 = .ok (.arraylength, 1) := by decide +kernel
theorem dX4_plan_30 : decode cX4_plan 30 = .ok (.iload 6, 2) := by decide +kernel
theorem dX4_plan_32 : decode cX4_plan 32 = .ok (.bipush 20, 2) := by decide +kernel
theorem dX4_plan_34 : decode cX4_plan 34 = .ok (.imul, 1) := by decide +kernel
theorem dX4_plan_35 : decode cX4_plan 35 = .ok (.invokestatic 34, 3) := by decide +kernel
theorem dX4_plan_38 : decode cX4_plan 38 = .ok (.ldc 40, 2) := by decide +kernel
theorem dX4_plan_40 : decode cX4_plan 40 = .ok (.invokestatic 41, 3) := by decide +kernel
theorem dX4_plan_43 : decode cX4_plan 43 = .ok (.aload_n 0, 1) := by decide +kernel
theorem dX4_plan_44 : decode cX4_plan 44 = .ok (.iconst (-1), 1) := by decide +kernel
theorem dX4_plan_45 : decode cX4_plan 45 = .ok (.putfield 47, 3) := by decide +kernel
theorem dX4_plan_48 : decode cX4_plan 48 = .ok (.iconst 0, 1) := by decide +kernel
theorem dX4_plan_49 : decode cX4_plan 49 = .ok (.istore 7, 2) := by decide +kernel
theorem dX4_plan_51 : decode cX4_plan 51 = .ok (.iload 7, 2) := by decide +kernel
theorem dX4_plan_53 : decode cX4_plan 53 = .ok (.iload 6, 2) := by decide +kernel
theorem dX4_plan_55 : decode cX4_plan 55 = .ok (.if_icmp .ge 94, 3) := by decide +kernel
theorem dX4_plan_58 : decode cX4_plan 58 = .ok (.aload_n 0, 1) := by decide +kernel
theorem dX4_plan_59 : decode cX4_plan 59 = .ok (.getfield 12, 3) := by decide +kernel
theorem dX4_plan_62 : decode cX4_plan 62 = .ok (.invokevirtual 50, 3) := by decide +kernel
theorem dX4_plan_65 : decode cX4_plan 65 = .ok (.iload_n 3, 1) := by decide +kernel
theorem dX4_plan_66 : decode cX4_plan 66 = .ok (.istore 8, 2) := by decide +kernel
theorem dX4_plan_68 : decode cX4_plan 68 = .ok (.iload 7, 2) := by decide +kernel
theorem dX4_plan_70 : decode cX4_plan 70 = .ok (.ifCond .ne 26, 3) := by decide +kernel
theorem dX4_plan_73 : decode cX4_plan 73 = .ok (.aload_n 0, 1) := by decide +kernel
theorem dX4_plan_74 : decode cX4_plan 74 = .ok (.getfield 12, 3) := by decide +kernel
theorem dX4_plan_77 : decode cX4_plan 77 = .ok (.iload_n 2, 1) := by decide +kernel
theorem dX4_plan_78 : decode cX4_plan 78 = .ok (.iload 4, 2) := by decide +kernel
theorem dX4_plan_80 : decode cX4_plan 80 = .ok (.ifCond .eq 7, 3) := by decide +kernel
theorem dX4_plan_83 : decode cX4_plan 83 = .ok (.iconst 0, 1) := by decide +kernel
theorem dX4_plan_84 : decode cX4_plan 84 = .ok (.goto 4, 3) := by decide +kernel
theorem dX4_plan_87 : decode cX4_plan 87 = .ok (.iconst 1, 1) := by decide +kernel
theorem dX4_plan_88 : decode cX4_plan 88 = .ok (.iload_n 3, 1) := by decide +kernel
theorem dX4_plan_89 : decode cX4_plan 89 = .ok (.invokevirtual 53, 3) := by decide +kernel
theorem dX4_plan_92 : decode cX4_plan 92 = .ok (.pop, 1) := by decide +kernel
theorem dX4_plan_93 : decode cX4_plan 93 = .ok (.goto 13, 3) := by decide +kernel
theorem dX4_plan_96 : decode cX4_plan 96 = .ok (.aload_n 0, 1) := by decide +kernel
theorem dX4_plan_97 : decode cX4_plan 97 = .ok (.aload 5, 2) := by decide +kernel
theorem dX4_plan_99 : decode cX4_plan 99 = .ok (.iload 7, 2) := by decide +kernel
theorem dX4_plan_101 : decode cX4_plan 101 = .ok (.invokevirtual 57, 3) := by decide +kernel
theorem dX4_plan_104 : decode cX4_plan 104 = .ok (.istore 8, 2) := by decide +kernel
theorem dX4_plan_106 : decode cX4_plan 106 = .ok (.iload 8, 2) := by decide +kernel
theorem dX4_plan_108 : decode cX4_plan 108 = .ok (.sipush 1439, 3) := by decide +kernel
theorem dX4_plan_111 : decode cX4_plan 111 = .ok (.if_icmp .gt 32, 3) := by decide +kernel
theorem dX4_plan_114 : decode cX4_plan 114 = .ok (.aload_n 0, 1) := by decide +kernel
theorem dX4_plan_115 : decode cX4_plan 115 = .ok (.aload 5, 2) := by decide +kernel
theorem dX4_plan_117 : decode cX4_plan 117 = .ok (.iload 7, 2) := by decide +kernel
theorem dX4_plan_119 : decode cX4_plan 119 = .ok (.iload 8, 2) := by decide +kernel
theorem dX4_plan_121 : decode cX4_plan 121 = .ok (.invokevirtual 61, 3) := by decide +kernel
theorem dX4_plan_124 : decode cX4_plan 124 = .ok (.aload_n 0, 1) := by decide +kernel
theorem dX4_plan_125 : decode cX4_plan 125 = .ok (.getfield 12, 3) := by decide +kernel
theorem dX4_plan_128 : decode cX4_plan 128 = .ok (.aload_n 1, 1) := by decide +kernel
theorem dX4_plan_129 : decode cX4_plan 129 = .ok (.getfield 65, 3) := by decide +kernel
theorem dX4_plan_132 : decode cX4_plan 132 = .ok (.invokevirtual 69, 3) := by decide +kernel
theorem dX4_plan_135 : decode cX4_plan 135 = .ok (.aload_n 0, 1) := by decide +kernel
theorem dX4_plan_136 : decode cX4_plan 136 = .ok (.aload 5, 2) := by decide +kernel
theorem dX4_plan_138 : decode cX4_plan 138 = .ok (.iload 7, 2) := by decide +kernel
theorem dX4_plan_140 : decode cX4_plan 140 = .ok (.invokevirtual 73, 3) := by decide +kernel
theorem dX4_plan_143 : decode cX4_plan 143 = .ok (.iinc 7 1, 3) := by decide +kernel
theorem dX4_plan_146 : decode cX4_plan 146 = .ok (.goto (-95), 3) := by decide +kernel
theorem dX4_plan_149 : decode cX4_plan 149 = .ok (.return_, 1) := by decide +kernel
theorem dX4_layOut_0 : decode cX4_layOut 0 = .ok (.ldc 40, 2) := by decide +kernel
theorem dX4_layOut_2 : decode cX4_layOut 2 = .ok (.istore_n 3, 1) := by decide +kernel
theorem dX4_layOut_3 : decode cX4_layOut 3 = .ok (.iconst 0, 1) := by decide +kernel
theorem dX4_layOut_4 : decode cX4_layOut 4 = .ok (.istore 4, 2) := by decide +kernel
theorem dX4_layOut_6 : decode cX4_layOut 6 = .ok (.iload 4, 2) := by decide +kernel
theorem dX4_layOut_8 : decode cX4_layOut 8 = .ok (.bipush 20, 2) := by decide +kernel
theorem dX4_layOut_10 : decode cX4_layOut 10 = .ok (.if_icmp .ge 90, 3) := by decide +kernel
theorem dX4_layOut_13 : decode cX4_layOut 13 = .ok (.iload_n 2, 1) := by decide +kernel
theorem dX4_layOut_14 : decode cX4_layOut 14 = .ok (.bipush 20, 2) := by decide +kernel
theorem dX4_layOut_16 : decode cX4_layOut 16 = .ok (.imul, 1) := by decide +kernel
theorem dX4_layOut_17 : decode cX4_layOut 17 = .ok (.iload 4, 2) := by decide +kernel
theorem dX4_layOut_19 : decode cX4_layOut 19 = .ok (.iadd, 1) := by decide +kernel
theorem dX4_layOut_20 : decode cX4_layOut 20 = .ok (.istore 5, 2) := by decide +kernel
theorem dX4_layOut_22 : decode cX4_layOut 22 = .ok (.iload 4, 2) := by decide +kernel
theorem dX4_layOut_24 : decode cX4_layOut 24 = .ok (.iconst 2, 1) := by decide +kernel
theorem dX4_layOut_25 : decode cX4_layOut 25 = .ok (.idiv, 1) := by decide +kernel
theorem dX4_layOut_26 : decode cX4_layOut 26 = .ok (.istore 6, 2) := by decide +kernel
theorem dX4_layOut_28 : decode cX4_layOut 28 = .ok (.iload 5, 2) := by decide +kernel
theorem dX4_layOut_30 : decode cX4_layOut 30 = .ok (.ifCond .lt 64, 3) := by decide +kernel
theorem dX4_layOut_33 : decode cX4_layOut 33 = .ok (.iload 5, 2) := by decide +kernel
theorem dX4_layOut_35 : decode cX4_layOut 35 = .ok (.aload_n 0, 1) := by decide +kernel
theorem dX4_layOut_36 : decode cX4_layOut 36 = .ok (.getfield 18, 3) := by decide +kernel
theorem dX4_layOut_39 : decode cX4_layOut 39 = .ok (.arraylength, 1) := by decide +kernel
theorem dX4_layOut_40 : decode cX4_layOut 40 = .ok (.if_icmp .ge 54, 3) := by decide +kernel
theorem dX4_layOut_43 : decode cX4_layOut 43 = .ok (.aload_n 0, 1) := by decide +kernel
theorem dX4_layOut_44 : decode cX4_layOut 44 = .ok (.getfield 18, 3) := by decide +kernel
theorem dX4_layOut_47 : decode cX4_layOut 47 = .ok (.iload 5, 2) := by decide +kernel
theorem dX4_layOut_49 : decode cX4_layOut 49 = .ok (.iaload, 1) := by decide +kernel
theorem dX4_layOut_50 : decode cX4_layOut 50 = .ok (.sipush 1439, 3) := by decide +kernel
theorem dX4_layOut_53 : decode cX4_layOut 53 = .ok (.if_icmp .gt 41, 3) := by decide +kernel
theorem dX4_layOut_56 : decode cX4_layOut 56 = .ok (.aload_n 0, 1) := by decide +kernel
theorem dX4_layOut_57 : decode cX4_layOut 57 = .ok (.getfield 12, 3) := by decide +kernel
theorem dX4_layOut_60 : decode cX4_layOut 60 = .ok (.aload_n 1, 1) := by decide +kernel
theorem dX4_layOut_61 : decode cX4_layOut 61 = .ok (.getfield 77, 3) := by decide +kernel
theorem dX4_layOut_64 : decode cX4_layOut 64 = .ok (.iload 6, 2) := by decide +kernel
theorem dX4_layOut_66 : decode cX4_layOut 66 = .ok (.iaload, 1) := by decide +kernel
theorem dX4_layOut_67 : decode cX4_layOut 67 = .ok (.iload 4, 2) := by decide +kernel
theorem dX4_layOut_69 : decode cX4_layOut 69 = .ok (.iconst 2, 1) := by decide +kernel
theorem dX4_layOut_70 : decode cX4_layOut 70 = .ok (.irem, 1) := by decide +kernel
theorem dX4_layOut_71 : decode cX4_layOut 71 = .ok (.aload_n 0, 1) := by decide +kernel
theorem dX4_layOut_72 : decode cX4_layOut 72 = .ok (.getfield 18, 3) := by decide +kernel
theorem dX4_layOut_75 : decode cX4_layOut 75 = .ok (.iload 5, 2) := by decide +kernel
theorem dX4_layOut_77 : decode cX4_layOut 77 = .ok (.iaload, 1) := by decide +kernel
theorem dX4_layOut_78 : decode cX4_layOut 78 = .ok (.invokevirtual 53, 3) := by decide +kernel
theorem dX4_layOut_81 : decode cX4_layOut 81 = .ok (.pop, 1) := by decide +kernel
theorem dX4_layOut_82 : decode cX4_layOut 82 = .ok (.iload_n 3, 1) := by decide +kernel
theorem dX4_layOut_83 : decode cX4_layOut 83 = .ok (.aload_n 0, 1) := by decide +kernel
theorem dX4_layOut_84 : decode cX4_layOut 84 = .ok (.getfield 18, 3) := by decide +kernel
theorem dX4_layOut_87 : decode cX4_layOut 87 = .ok (.iload 5, 2) := by decide +kernel
theorem dX4_layOut_89 : decode cX4_layOut 89 = .ok (.iaload, 1) := by decide +kernel
theorem dX4_layOut_90 : decode cX4_layOut 90 = .ok (.invokestatic 34, 3) := by decide +kernel
theorem dX4_layOut_93 : decode cX4_layOut 93 = .ok (.istore_n 3, 1) := by decide +kernel
theorem dX4_layOut_94 : decode cX4_layOut 94 = .ok (.iinc 4 1, 3) := by decide +kernel
theorem dX4_layOut_97 : decode cX4_layOut 97 = .ok (.goto (-91), 3) := by decide +kernel
theorem dX4_layOut_100 : decode cX4_layOut 100 = .ok (.iload_n 3, 1) := by decide +kernel
theorem dX4_layOut_101 : decode cX4_layOut 101 = .ok (.ireturn, 1) := by decide +kernel
theorem dX4_weigh_0 : decode cX4_weigh 0 = .ok (.iconst 0, 1) := by decide +kernel
theorem dX4_weigh_1 : decode cX4_weigh 1 = .ok (.istore 4, 2) := by decide +kernel
theorem dX4_weigh_3 : decode cX4_weigh 3 = .ok (.iconst 0, 1) := by decide +kernel
theorem dX4_weigh_4 : decode cX4_weigh 4 = .ok (.istore 5, 2) := by decide +kernel
theorem dX4_weigh_6 : decode cX4_weigh 6 = .ok (.iload 5, 2) := by decide +kernel
theorem dX4_weigh_8 : decode cX4_weigh 8 = .ok (.aload_n 1, 1) := by decide +kernel
theorem dX4_weigh_9 : decode cX4_weigh 9 = .ok (.getfield 28, 3) := by decide +kernel
theorem dX4_weigh_12 : decode cX4_weigh 12 = .ok (.if_icmp .ge 35, 3) := by decide +kernel
theorem dX4_weigh_15 : decode cX4_weigh 15 = .ok (.iload 5, 2) := by decide +kernel
theorem dX4_weigh_17 : decode cX4_weigh 17 = .ok (.bipush 10, 2) := by decide +kernel
theorem dX4_weigh_19 : decode cX4_weigh 19 = .ok (.if_icmp .ge 28, 3) := by decide +kernel
theorem dX4_weigh_22 : decode cX4_weigh 22 = .ok (.iload 4, 2) := by decide +kernel
theorem dX4_weigh_24 : decode cX4_weigh 24 = .ok (.iload_n 2, 1) := by decide +kernel
theorem dX4_weigh_25 : decode cX4_weigh 25 = .ok (.iload 5, 2) := by decide +kernel
theorem dX4_weigh_27 : decode cX4_weigh 27 = .ok (.ishr, 1) := by decide +kernel
theorem dX4_weigh_28 : decode cX4_weigh 28 = .ok (.iconst 1, 1) := by decide +kernel
theorem dX4_weigh_29 : decode cX4_weigh 29 = .ok (.iand, 1) := by decide +kernel
theorem dX4_weigh_30 : decode cX4_weigh 30 = .ok (.aload_n 1, 1) := by decide +kernel
theorem dX4_weigh_31 : decode cX4_weigh 31 = .ok (.getfield 80, 3) := by decide +kernel
theorem dX4_weigh_34 : decode cX4_weigh 34 = .ok (.iload 5, 2) := by decide +kernel
theorem dX4_weigh_36 : decode cX4_weigh 36 = .ok (.iaload, 1) := by decide +kernel
theorem dX4_weigh_37 : decode cX4_weigh 37 = .ok (.imul, 1) := by decide +kernel
theorem dX4_weigh_38 : decode cX4_weigh 38 = .ok (.iadd, 1) := by decide +kernel
theorem dX4_weigh_39 : decode cX4_weigh 39 = .ok (.istore 4, 2) := by decide +kernel
theorem dX4_weigh_41 : decode cX4_weigh 41 = .ok (.iinc 5 1, 3) := by decide +kernel
theorem dX4_weigh_44 : decode cX4_weigh 44 = .ok (.goto (-38), 3) := by decide +kernel
theorem dX4_weigh_47 : decode cX4_weigh 47 = .ok (.iload 4, 2) := by decide +kernel
theorem dX4_weigh_49 : decode cX4_weigh 49 = .ok (.aload_n 0, 1) := by decide +kernel
theorem dX4_weigh_50 : decode cX4_weigh 50 = .ok (.getfield 47, 3) := by decide +kernel
theorem dX4_weigh_53 : decode cX4_weigh 53 = .ok (.if_icmp .gt 20, 3) := by decide +kernel
theorem dX4_weigh_56 : decode cX4_weigh 56 = .ok (.iload 4, 2) := by decide +kernel
theorem dX4_weigh_58 : decode cX4_weigh 58 = .ok (.aload_n 0, 1) := by decide +kernel
theorem dX4_weigh_59 : decode cX4_weigh 59 = .ok (.getfield 47, 3) := by decide +kernel
theorem dX4_weigh_62 : decode cX4_weigh 62 = .ok (.if_icmp .ne 27, 3) := by decide +kernel
theorem dX4_weigh_65 : decode cX4_weigh 65 = .ok (.iload_n 3, 1) := by decide +kernel
theorem dX4_weigh_66 : decode cX4_weigh 66 = .ok (.aload_n 0, 1) := by decide +kernel
theorem dX4_weigh_67 : decode cX4_weigh 67 = .ok (.getfield 83, 3) := by decide +kernel
theorem dX4_weigh_70 : decode cX4_weigh 70 = .ok (.if_icmp .ge 19, 3) := by decide +kernel
theorem dX4_weigh_73 : decode cX4_weigh 73 = .ok (.aload_n 0, 1) := by decide +kernel
theorem dX4_weigh_74 : decode cX4_weigh 74 = .ok (.iload 4, 2) := by decide +kernel
theorem dX4_weigh_76 : decode cX4_weigh 76 = .ok (.putfield 47, 3) := by decide +kernel
theorem dX4_weigh_79 : decode cX4_weigh 79 = .ok (.aload_n 0, 1) := by decide +kernel
theorem dX4_weigh_80 : decode cX4_weigh 80 = .ok (.iload_n 2, 1) := by decide +kernel
theorem dX4_weigh_81 : decode cX4_weigh 81 = .ok (.putfield 86, 3) := by decide +kernel
theorem dX4_weigh_84 : decode cX4_weigh 84 = .ok (.aload_n 0, 1) := by decide +kernel
theorem dX4_weigh_85 : decode cX4_weigh 85 = .ok (.iload_n 3, 1) := by decide +kernel
theorem dX4_weigh_86 : decode cX4_weigh 86 = .ok (.putfield 83, 3) := by decide +kernel
theorem dX4_weigh_89 : decode cX4_weigh 89 = .ok (.return_, 1) := by decide +kernel
theorem dX4_goOn_0 : decode cX4_goOn 0 = .ok (.iconst 0, 1) := by decide +kernel
theorem dX4_goOn_1 : decode cX4_goOn 1 = .ok (.istore_n 3, 1) := by decide +kernel
theorem dX4_goOn_2 : decode cX4_goOn 2 = .ok (.iload_n 3, 1) := by decide +kernel
theorem dX4_goOn_3 : decode cX4_goOn 3 = .ok (.bipush 20, 2) := by decide +kernel
theorem dX4_goOn_5 : decode cX4_goOn 5 = .ok (.if_icmp .ge 120, 3) := by decide +kernel
theorem dX4_goOn_8 : decode cX4_goOn 8 = .ok (.iload_n 3, 1) := by decide +kernel
theorem dX4_goOn_9 : decode cX4_goOn 9 = .ok (.iconst 2, 1) := by decide +kernel
theorem dX4_goOn_10 : decode cX4_goOn 10 = .ok (.idiv, 1) := by decide +kernel
theorem dX4_goOn_11 : decode cX4_goOn 11 = .ok (.istore 4, 2) := by decide +kernel
theorem dX4_goOn_13 : decode cX4_goOn 13 = .ok (.iload 4, 2) := by decide +kernel
theorem dX4_goOn_15 : decode cX4_goOn 15 = .ok (.aload_n 1, 1) := by decide +kernel
theorem dX4_goOn_16 : decode cX4_goOn 16 = .ok (.getfield 28, 3) := by decide +kernel
theorem dX4_goOn_19 : decode cX4_goOn 19 = .ok (.if_icmp .ge 100, 3) := by decide +kernel
theorem dX4_goOn_22 : decode cX4_goOn 22 = .ok (.iload_n 2, 1) := by decide +kernel
theorem dX4_goOn_23 : decode cX4_goOn 23 = .ok (.iload 4, 2) := by decide +kernel
theorem dX4_goOn_25 : decode cX4_goOn 25 = .ok (.ishr, 1) := by decide +kernel
theorem dX4_goOn_26 : decode cX4_goOn 26 = .ok (.iconst 1, 1) := by decide +kernel
theorem dX4_goOn_27 : decode cX4_goOn 27 = .ok (.iand, 1) := by decide +kernel
theorem dX4_goOn_28 : decode cX4_goOn 28 = .ok (.ifCond .ne 91, 3) := by decide +kernel
theorem dX4_goOn_31 : decode cX4_goOn 31 = .ok (.aload_n 0, 1) := by decide +kernel
theorem dX4_goOn_32 : decode cX4_goOn 32 = .ok (.getfield 12, 3) := by decide +kernel
theorem dX4_goOn_35 : decode cX4_goOn 35 = .ok (.aload_n 1, 1) := by decide +kernel
theorem dX4_goOn_36 : decode cX4_goOn 36 = .ok (.getfield 77, 3) := by decide +kernel
theorem dX4_goOn_39 : decode cX4_goOn 39 = .ok (.iload 4, 2) := by decide +kernel
theorem dX4_goOn_41 : decode cX4_goOn 41 = .ok (.iaload, 1) := by decide +kernel
theorem dX4_goOn_42 : decode cX4_goOn 42 = .ok (.iload_n 3, 1) := by decide +kernel
theorem dX4_goOn_43 : decode cX4_goOn 43 = .ok (.iconst 2, 1) := by decide +kernel
theorem dX4_goOn_44 : decode cX4_goOn 44 = .ok (.irem, 1) := by decide +kernel
theorem dX4_goOn_45 : decode cX4_goOn 45 = .ok (.invokevirtual 89, 3) := by decide +kernel
theorem dX4_goOn_48 : decode cX4_goOn 48 = .ok (.aload_n 1, 1) := by decide +kernel
theorem dX4_goOn_49 : decode cX4_goOn 49 = .ok (.getfield 92, 3) := by decide +kernel
theorem dX4_goOn_52 : decode cX4_goOn 52 = .ok (.iload 4, 2) := by decide +kernel
theorem dX4_goOn_54 : decode cX4_goOn 54 = .ok (.iaload, 1) := by decide +kernel
theorem dX4_goOn_55 : decode cX4_goOn 55 = .ok (.invokestatic 95, 3) := by decide +kernel
theorem dX4_goOn_58 : decode cX4_goOn 58 = .ok (.istore 5, 2) := by decide +kernel
theorem dX4_goOn_60 : decode cX4_goOn 60 = .ok (.iload_n 2, 1) := by decide +kernel
theorem dX4_goOn_61 : decode cX4_goOn 61 = .ok (.iconst 1, 1) := by decide +kernel
theorem dX4_goOn_62 : decode cX4_goOn 62 = .ok (.iload 4, 2) := by decide +kernel
theorem dX4_goOn_64 : decode cX4_goOn 64 = .ok (.ishl, 1) := by decide +kernel
theorem dX4_goOn_65 : decode cX4_goOn 65 = .ok (.ior, 1) := by decide +kernel
theorem dX4_goOn_66 : decode cX4_goOn 66 = .ok (.bipush 20, 2) := by decide +kernel
theorem dX4_goOn_68 : decode cX4_goOn 68 = .ok (.imul, 1) := by decide +kernel
theorem dX4_goOn_69 : decode cX4_goOn 69 = .ok (.iload_n 3, 1) := by decide +kernel
theorem dX4_goOn_70 : decode cX4_goOn 70 = .ok (.iadd, 1) := by decide +kernel
theorem dX4_goOn_71 : decode cX4_goOn 71 = .ok (.istore 6, 2) := by decide +kernel
theorem dX4_goOn_73 : decode cX4_goOn 73 = .ok (.iload 5, 2) := by decide +kernel
theorem dX4_goOn_75 : decode cX4_goOn 75 = .ok (.aload_n 1, 1) := by decide +kernel
theorem dX4_goOn_76 : decode cX4_goOn 76 = .ok (.getfield 98, 3) := by decide +kernel
theorem dX4_goOn_79 : decode cX4_goOn 79 = .ok (.iload 4, 2) := by decide +kernel
theorem dX4_goOn_81 : decode cX4_goOn 81 = .ok (.iaload, 1) := by decide +kernel
theorem dX4_goOn_82 : decode cX4_goOn 82 = .ok (.if_icmp .gt 37, 3) := by decide +kernel
theorem dX4_goOn_85 : decode cX4_goOn 85 = .ok (.iload 6, 2) := by decide +kernel
theorem dX4_goOn_87 : decode cX4_goOn 87 = .ok (.ifCond .lt 32, 3) := by decide +kernel
theorem dX4_goOn_90 : decode cX4_goOn 90 = .ok (.iload 6, 2) := by decide +kernel
theorem dX4_goOn_92 : decode cX4_goOn 92 = .ok (.aload_n 0, 1) := by decide +kernel
theorem dX4_goOn_93 : decode cX4_goOn 93 = .ok (.getfield 18, 3) := by decide +kernel
theorem dX4_goOn_96 : decode cX4_goOn 96 = .ok (.arraylength, 1) := by decide +kernel
theorem dX4_goOn_97 : decode cX4_goOn 97 = .ok (.if_icmp .ge 22, 3) := by decide +kernel
theorem dX4_goOn_100 : decode cX4_goOn 100 = .ok (.aload_n 0, 1) := by decide +kernel
theorem dX4_goOn_101 : decode cX4_goOn 101 = .ok (.getfield 18, 3) := by decide +kernel
theorem dX4_goOn_104 : decode cX4_goOn 104 = .ok (.iload 6, 2) := by decide +kernel
theorem dX4_goOn_106 : decode cX4_goOn 106 = .ok (.aload_n 0, 1) := by decide +kernel
theorem dX4_goOn_107 : decode cX4_goOn 107 = .ok (.getfield 18, 3) := by decide +kernel
theorem dX4_goOn_110 : decode cX4_goOn 110 = .ok (.iload 6, 2) := by decide +kernel
theorem dX4_goOn_112 : decode cX4_goOn 112 = .ok (.iaload, 1) := by decide +kernel
theorem dX4_goOn_113 : decode cX4_goOn 113 = .ok (.iload 5, 2) := by decide +kernel
theorem dX4_goOn_115 : decode cX4_goOn 115 = .ok (.invokestatic 34, 3) := by decide +kernel
theorem dX4_goOn_118 : decode cX4_goOn 118 = .ok (.iastore, 1) := by decide +kernel
theorem dX4_goOn_119 : decode cX4_goOn 119 = .ok (.iinc 3 1, 3) := by decide +kernel
theorem dX4_goOn_122 : decode cX4_goOn 122 = .ok (.goto (-120), 3) := by decide +kernel
theorem dX4_goOn_125 : decode cX4_goOn 125 = .ok (.return_, 1) := by decide +kernel
theorem dX5_init_0 : decode cX5_init 0 = .ok (.aload_n 0, 1) := by decide +kernel
theorem dX5_init_1 : decode cX5_init 1 = .ok (.invokespecial 3, 3) := by decide +kernel
theorem dX5_init_4 : decode cX5_init 4 = .ok (.aload_n 0, 1) := by decide +kernel
theorem dX5_init_5 : decode cX5_init 5 = .ok (.bipush 32, 2) := by decide +kernel
theorem dX5_init_7 : decode cX5_init 7 = .ok (.newarray .int, 2) := by decide +kernel
theorem dX5_init_9 : decode cX5_init 9 = .ok (.putfield 9, 3) := by decide +kernel
theorem dX5_init_12 : decode cX5_init 12 = .ok (.return_, 1) := by decide +kernel
theorem dX5_clear_0 : decode cX5_clear 0 = .ok (.aload_n 0, 1) := by decide +kernel
theorem dX5_clear_1 : decode cX5_clear 1 = .ok (.getfield 9, 3) := by decide +kernel
theorem dX5_clear_4 : decode cX5_clear 4 = .ok (.ldc 15, 2) := by decide +kernel
theorem dX5_clear_6 : decode cX5_clear 6 = .ok (.invokestatic 16, 3) := by decide +kernel
theorem dX5_clear_9 : decode cX5_clear 9 = .ok (.return_, 1) := by decide +kernel
theorem dX5_from_0 : decode cX5_from 0 = .ok (.aload_n 0, 1) := by decide +kernel
theorem dX5_from_1 : decode cX5_from 1 = .ok (.invokevirtual 22, 3) := by decide +kernel
theorem dX5_from_4 : decode cX5_from 4 = .ok (.aload_n 0, 1) := by decide +kernel
theorem dX5_from_5 : decode cX5_from 5 = .ok (.iload_n 2, 1) := by decide +kernel
theorem dX5_from_6 : decode cX5_from 6 = .ok (.iload 4, 2) := by decide +kernel
theorem dX5_from_8 : decode cX5_from 8 = .ok (.ifCond .eq 7, 3) := by decide +kernel
theorem dX5_from_11 : decode cX5_from 11 = .ok (.iconst 0, 1) := by decide +kernel
theorem dX5_from_12 : decode cX5_from 12 = .ok (.goto 4, 3) := by decide +kernel
theorem dX5_from_15 : decode cX5_from 15 = .ok (.iconst 1, 1) := by decide +kernel
theorem dX5_from_16 : decode cX5_from 16 = .ok (.iload_n 3, 1) := by decide +kernel
theorem dX5_from_17 : decode cX5_from 17 = .ok (.invokevirtual 25, 3) := by decide +kernel
theorem dX5_from_20 : decode cX5_from 20 = .ok (.pop, 1) := by decide +kernel
theorem dX5_from_21 : decode cX5_from 21 = .ok (.aload_n 0, 1) := by decide +kernel
theorem dX5_from_22 : decode cX5_from 22 = .ok (.aload_n 1, 1) := by decide +kernel
theorem dX5_from_23 : decode cX5_from 23 = .ok (.invokevirtual 29, 3) := by decide +kernel
theorem dX5_from_26 : decode cX5_from 26 = .ok (.return_, 1) := by decide +kernel
theorem dX5_put_0 : decode cX5_put 0 = .ok (.iload_n 2, 1) := by decide +kernel
theorem dX5_put_1 : decode cX5_put 1 = .ok (.bipush 16, 2) := by decide +kernel
theorem dX5_put_3 : decode cX5_put 3 = .ok (.imul, 1) := by decide +kernel
theorem dX5_put_4 : decode cX5_put 4 = .ok (.iload_n 1, 1) := by decide +kernel
theorem dX5_put_5 : decode cX5_put 5 = .ok (.iadd, 1) := by decide +kernel
theorem dX5_put_6 : decode cX5_put 6 = .ok (.istore 4, 2) := by decide +kernel
theorem dX5_put_8 : decode cX5_put 8 = .ok (.iload_n 3, 1) := by decide +kernel
theorem dX5_put_9 : decode cX5_put 9 = .ok (.sipush 1439, 3) := by decide +kernel
theorem dX5_put_12 : decode cX5_put 12 = .ok (.if_icmp .gt 29, 3) := by decide +kernel
theorem dX5_put_15 : decode cX5_put 15 = .ok (.iload 4, 2) := by decide +kernel
theorem dX5_put_17 : decode cX5_put 17 = .ok (.ifCond .lt 24, 3) := by decide +kernel
theorem dX5_put_20 : decode cX5_put 20 = .ok (.iload 4, 2) := by decide +kernel
theorem dX5_put_22 : decode cX5_put 22 = .ok (.aload_n 0, 1) := by decide +kernel
theorem dX5_put_23 : decode cX5_put 23 = .ok (.getfield 9, 3) := by decide +kernel
theorem dX5_put_26 : decode cX5_put 26 = .ok (.arraylength, 1) := by decide +kernel
theorem dX5_put_27 : decode cX5_put 27 = .ok (.if_icmp .ge 14, 3) := by decide +kernel
theorem dX5_put_30 : decode cX5_put 30 = .ok (.iload_n 3, 1) := by decide +kernel
theorem dX5_put_31 : decode cX5_put 31 = .ok (.aload_n 0, 1) := by decide +kernel
theorem dX5_put_32 : decode cX5_put 32 = .ok (.getfield 9, 3) := by decide +kernel
theorem dX5_put_35 : decode cX5_put 35 = .ok (.iload 4, 2) := by decide +kernel
theorem dX5_put_37 : decode cX5_put 37 = .ok (.iaload, 1) := by decide +kernel
theorem dX5_put_38 : decode cX5_put 38 = .ok (.if_icmp .lt 5, 3) := by decide +kernel
theorem dX5_put_41 : decode cX5_put 41 = .ok (.iconst 0, 1) := by decide +kernel
theorem dX5_put_42 : decode cX5_put 42 = .ok (.ireturn, 1) := by decide +kernel
theorem dX5_put_43 : decode cX5_put 43 = .ok (.aload_n 0, 1) := by decide +kernel
theorem dX5_put_44 : decode cX5_put 44 = .ok (.getfield 9, 3) := by decide +kernel
theorem dX5_put_47 : decode cX5_put 47 = .ok (.iload 4, 2) := by decide +kernel
theorem dX5_put_49 : decode cX5_put 49 = .ok (.iload_n 3, 1) := by decide +kernel
theorem dX5_put_50 : decode cX5_put 50 = .ok (.iastore, 1) := by decide +kernel
theorem dX5_put_51 : decode cX5_put 51 = .ok (.iconst 1, 1) := by decide +kernel
theorem dX5_put_52 : decode cX5_put 52 = .ok (.ireturn, 1) := by decide +kernel
theorem dX5_get_0 : decode cX5_get 0 = .ok (.iload_n 2, 1) := by decide +kernel
theorem dX5_get_1 : decode cX5_get 1 = .ok (.bipush 16, 2) := by decide +kernel
theorem dX5_get_3 : decode cX5_get 3 = .ok (.imul, 1) := by decide +kernel
theorem dX5_get_4 : decode cX5_get 4 = .ok (.iload_n 1, 1) := by decide +kernel
theorem dX5_get_5 : decode cX5_get 5 = .ok (.iadd, 1) := by decide +kernel
theorem dX5_get_6 : decode cX5_get 6 = .ok (.istore_n 3, 1) := by decide +kernel
theorem dX5_get_7 : decode cX5_get 7 = .ok (.iload_n 3, 1) := by decide +kernel
theorem dX5_get_8 : decode cX5_get 8 = .ok (.ifCond .lt 21, 3) := by decide +kernel
theorem dX5_get_11 : decode cX5_get 11 = .ok (.iload_n 3, 1) := by decide +kernel
theorem dX5_get_12 : decode cX5_get 12 = .ok (.aload_n 0, 1) := by decide +kernel
theorem dX5_get_13 : decode cX5_get 13 = .ok (.getfield 9, 3) := by decide +kernel
theorem dX5_get_16 : decode cX5_get 16 = .ok (.arraylength, 1) := by decide +kernel
theorem dX5_get_17 : decode cX5_get 17 = .ok (.if_icmp .ge 12, 3) := by decide +kernel
theorem dX5_get_20 : decode cX5_get 20 = .ok (.aload_n 0, 1) := by decide +kernel
theorem dX5_get_21 : decode cX5_get 21 = .ok (.getfield 9, 3) := by decide +kernel
theorem dX5_get_24 : decode cX5_get 24 = .ok (.iload_n 3, 1) := by decide +kernel
theorem dX5_get_25 : decode cX5_get 25 = .ok (.iaload, 1) := by decide +kernel
theorem dX5_get_26 : decode cX5_get 26 = .ok (.goto 5, 3) := by decide +kernel
theorem dX5_get_29 : decode cX5_get 29 = .ok (.ldc 15, 2) := by decide +kernel
theorem dX5_get_31 : decode cX5_get 31 = .ok (.ireturn, 1) := by decide +kernel
theorem dX5_leastAt_0 : decode cX5_leastAt 0 = .ok (.aload_n 0, 1) := by decide +kernel
theorem dX5_leastAt_1 : decode cX5_leastAt 1 = .ok (.iload_n 1, 1) := by decide +kernel
theorem dX5_leastAt_2 : decode cX5_leastAt 2 = .ok (.iconst 0, 1) := by decide +kernel
theorem dX5_leastAt_3 : decode cX5_leastAt 3 = .ok (.invokevirtual 33, 3) := by decide +kernel
theorem dX5_leastAt_6 : decode cX5_leastAt 6 = .ok (.aload_n 0, 1) := by decide +kernel
theorem dX5_leastAt_7 : decode cX5_leastAt 7 = .ok (.iload_n 1, 1) := by decide +kernel
theorem dX5_leastAt_8 : decode cX5_leastAt 8 = .ok (.iconst 1, 1) := by decide +kernel
theorem dX5_leastAt_9 : decode cX5_leastAt 9 = .ok (.invokevirtual 33, 3) := by decide +kernel
theorem dX5_leastAt_12 : decode cX5_leastAt 12 = .ok (.invokestatic 37, 3) := by decide +kernel
theorem dX5_leastAt_15 : decode cX5_leastAt 15 = .ok (.ireturn, 1) := by decide +kernel
theorem dX5_spread_0 : decode cX5_spread 0 = .ok (.iconst 1, 1) := by decide +kernel
theorem dX5_spread_1 : decode cX5_spread 1 = .ok (.istore_n 2, 1) := by decide +kernel
theorem dX5_spread_2 : decode cX5_spread 2 = .ok (.iconst 0, 1) := by decide +kernel
theorem dX5_spread_3 : decode cX5_spread 3 = .ok (.istore_n 3, 1) := by decide +kernel
theorem dX5_spread_4 : decode cX5_spread 4 = .ok (.iload_n 3, 1) := by decide +kernel
theorem dX5_spread_5 : decode cX5_spread 5 = .ok (.aload_n 0, 1) := by decide +kernel
theorem dX5_spread_6 : decode cX5_spread 6 = .ok (.getfield 9, 3) := by decide +kernel
theorem dX5_spread_9 : decode cX5_spread 9 = .ok (.arraylength, 1) := by decide +kernel
theorem dX5_spread_10 : decode cX5_spread 10 = .ok (.if_icmp .gt 97, 3) := by decide +kernel
theorem dX5_spread_13 : decode cX5_spread 13 = .ok (.iload_n 2, 1) := by decide +kernel
theorem dX5_spread_14 : decode cX5_spread 14 = .ok (.ifCond .eq 93, 3) := by decide +kernel
theorem dX5_spread_17 : decode cX5_spread 17 = .ok (.aload_n 0, 1) := by decide +kernel
theorem dX5_spread_18 : decode cX5_spread 18 = .ok (.aload_n 1, 1) := by decide +kernel
theorem dX5_spread_19 : decode cX5_spread 19 = .ok (.invokevirtual 42, 3) := by decide +kernel
theorem dX5_spread_22 : decode cX5_spread 22 = .ok (.istore_n 2, 1) := by decide +kernel
theorem dX5_spread_23 : decode cX5_spread 23 = .ok (.iconst 0, 1) := by decide +kernel
theorem dX5_spread_24 : decode cX5_spread 24 = .ok (.istore 4, 2) := by decide +kernel
theorem dX5_spread_26 : decode cX5_spread 26 = .ok (.iload 4, 2) := by decide +kernel
theorem dX5_spread_28 : decode cX5_spread 28 = .ok (.aload_n 1, 1) := by decide +kernel
theorem dX5_spread_29 : decode cX5_spread 29 = .ok (.getfield 46, 3) := by decide +kernel
theorem dX5_spread_32 : decode cX5_spread 32 = .ok (.if_icmp .ge 69, 3) := by decide +kernel
theorem dX5_spread_35 : decode cX5_spread 35 = .ok (.iload 4, 2) := by decide +kernel
theorem dX5_spread_37 : decode cX5_spread 37 = .ok (.bipush 24, 2) := by decide +kernel
theorem dX5_spread_39 : decode cX5_spread 39 = .ok (.if_icmp .ge 62, 3) := by decide +kernel
theorem dX5_spread_42 : decode cX5_spread 42 = .ok (.iconst 0, 1) := by decide +kernel
theorem dX5_spread_43 : decode cX5_spread 43 = .ok (.istore 5, 2) := by decide +kernel
theorem dX5_spread_45 : decode cX5_spread 45 = .ok (.iload 5, 2) := by decide +kernel
theorem dX5_spread_47 : decode cX5_spread 47 = .ok (.iconst 1, 1) := by decide +kernel
theorem dX5_spread_48 : decode cX5_spread 48 = .ok (.if_icmp .gt 47, 3) := by decide +kernel
theorem dX5_spread_51 : decode cX5_spread 51 = .ok (.iload_n 2, 1) := by decide +kernel
theorem dX5_spread_52 : decode cX5_spread 52 = .ok (.aload_n 0, 1) := by decide +kernel
theorem dX5_spread_53 : decode cX5_spread 53 = .ok (.aload_n 1, 1) := by decide +kernel
theorem dX5_spread_54 : decode cX5_spread 54 = .ok (.iload 4, 2) := by decide +kernel
theorem dX5_spread_56 : decode cX5_spread 56 = .ok (.aload_n 1, 1) := by decide +kernel
theorem dX5_spread_57 : decode cX5_spread 57 = .ok (.getfield 52, 3) := by decide +kernel
theorem dX5_spread_60 : decode cX5_spread 60 = .ok (.iload 4, 2) := by decide +kernel
theorem dX5_spread_62 : decode cX5_spread 62 = .ok (.iaload, 1) := by decide +kernel
theorem dX5_spread_63 : decode cX5_spread 63 = .ok (.iload 5, 2) := by decide +kernel
theorem dX5_spread_65 : decode cX5_spread 65 = .ok (.invokevirtual 55, 3) := by decide +kernel
theorem dX5_spread_68 : decode cX5_spread 68 = .ok (.ior, 1) := by decide +kernel
theorem dX5_spread_69 : decode cX5_spread 69 = .ok (.istore_n 2, 1) := by decide +kernel
theorem dX5_spread_70 : decode cX5_spread 70 = .ok (.iload_n 2, 1) := by decide +kernel
theorem dX5_spread_71 : decode cX5_spread 71 = .ok (.aload_n 0, 1) := by decide +kernel
theorem dX5_spread_72 : decode cX5_spread 72 = .ok (.aload_n 1, 1) := by decide +kernel
theorem dX5_spread_73 : decode cX5_spread 73 = .ok (.iload 4, 2) := by decide +kernel
theorem dX5_spread_75 : decode cX5_spread 75 = .ok (.aload_n 1, 1) := by decide +kernel
theorem dX5_spread_76 : decode cX5_spread 76 = .ok (.getfield 59, 3) := by decide +kernel
theorem dX5_spread_79 : decode cX5_spread 79 = .ok (.iload 4, 2) := by decide +kernel
theorem dX5_spread_81 : decode cX5_spread 81 = .ok (.iaload, 1) := by decide +kernel
theorem dX5_spread_82 : decode cX5_spread 82 = .ok (.iload 5, 2) := by decide +kernel
theorem dX5_spread_84 : decode cX5_spread 84 = .ok (.invokevirtual 55, 3) := by decide +kernel
theorem dX5_spread_87 : decode cX5_spread 87 = .ok (.ior, 1) := by decide +kernel
theorem dX5_spread_88 : decode cX5_spread 88 = .ok (.istore_n 2, 1) := by decide +kernel
theorem dX5_spread_89 : decode cX5_spread 89 = .ok (.iinc 5 1, 3) := by decide +kernel
theorem dX5_spread_92 : decode cX5_spread 92 = .ok (.goto (-47), 3) := by decide +kernel
theorem dX5_spread_95 : decode cX5_spread 95 = .ok (.iinc 4 1, 3) := by decide +kernel
theorem dX5_spread_98 : decode cX5_spread 98 = .ok (.goto (-72), 3) := by decide +kernel
theorem dX5_spread_101 : decode cX5_spread 101 = .ok (.iinc 3 1, 3) := by decide +kernel
theorem dX5_spread_104 : decode cX5_spread 104 = .ok (.goto (-100), 3) := by decide +kernel
theorem dX5_spread_107 : decode cX5_spread 107 = .ok (.return_, 1) := by decide +kernel
theorem dX5_goAlong_0 : decode cX5_goAlong 0 = .ok (.aload_n 0, 1) := by decide +kernel
theorem dX5_goAlong_1 : decode cX5_goAlong 1 = .ok (.iload_n 3, 1) := by decide +kernel
theorem dX5_goAlong_2 : decode cX5_goAlong 2 = .ok (.iload 4, 2) := by decide +kernel
theorem dX5_goAlong_4 : decode cX5_goAlong 4 = .ok (.invokevirtual 33, 3) := by decide +kernel
theorem dX5_goAlong_7 : decode cX5_goAlong 7 = .ok (.istore 5, 2) := by decide +kernel
theorem dX5_goAlong_9 : decode cX5_goAlong 9 = .ok (.iload 5, 2) := by decide +kernel
theorem dX5_goAlong_11 : decode cX5_goAlong 11 = .ok (.sipush 1439, 3) := by decide +kernel
theorem dX5_goAlong_14 : decode cX5_goAlong 14 = .ok (.if_icmp .le 5, 3) := by decide +kernel
theorem dX5_goAlong_17 : decode cX5_goAlong 17 = .ok (.iconst 0, 1) := by decide +kernel
theorem dX5_goAlong_18 : decode cX5_goAlong 18 = .ok (.ireturn, 1) := by decide +kernel
theorem dX5_goAlong_19 : decode cX5_goAlong 19 = .ok (.aload_n 1, 1) := by decide +kernel
theorem dX5_goAlong_20 : decode cX5_goAlong 20 = .ok (.iload_n 2, 1) := by decide +kernel
theorem dX5_goAlong_21 : decode cX5_goAlong 21 = .ok (.iload_n 3, 1) := by decide +kernel
theorem dX5_goAlong_22 : decode cX5_goAlong 22 = .ok (.invokevirtual 62, 3) := by decide +kernel
theorem dX5_goAlong_25 : decode cX5_goAlong 25 = .ok (.istore 6, 2) := by decide +kernel
theorem dX5_goAlong_27 : decode cX5_goAlong 27 = .ok (.iload 6, 2) := by decide +kernel
theorem dX5_goAlong_29 : decode cX5_goAlong 29 = .ok (.iconst (-1), 1) := by decide +kernel
theorem dX5_goAlong_30 : decode cX5_goAlong 30 = .ok (.if_icmp .ne 7, 3) := by decide +kernel
theorem dX5_goAlong_33 : decode cX5_goAlong 33 = .ok (.iconst (-1), 1) := by decide +kernel
theorem dX5_goAlong_34 : decode cX5_goAlong 34 = .ok (.goto 10, 3) := by decide +kernel
theorem dX5_goAlong_37 : decode cX5_goAlong 37 = .ok (.aload_n 1, 1) := by decide +kernel
theorem dX5_goAlong_38 : decode cX5_goAlong 38 = .ok (.iload_n 2, 1) := by decide +kernel
theorem dX5_goAlong_39 : decode cX5_goAlong 39 = .ok (.iload 5, 2) := by decide +kernel
theorem dX5_goAlong_41 : decode cX5_goAlong 41 = .ok (.invokevirtual 65, 3) := by decide +kernel
theorem dX5_goAlong_44 : decode cX5_goAlong 44 = .ok (.istore 7, 2) := by decide +kernel
theorem dX5_goAlong_46 : decode cX5_goAlong 46 = .ok (.iload 7, 2) := by decide +kernel
theorem dX5_goAlong_48 : decode cX5_goAlong 48 = .ok (.iconst (-1), 1) := by decide +kernel
theorem dX5_goAlong_49 : decode cX5_goAlong 49 = .ok (.if_icmp .eq 27, 3) := by decide +kernel
theorem dX5_goAlong_52 : decode cX5_goAlong 52 = .ok (.aload_n 0, 1) := by decide +kernel
theorem dX5_goAlong_53 : decode cX5_goAlong 53 = .ok (.iload 6, 2) := by decide +kernel
theorem dX5_goAlong_55 : decode cX5_goAlong 55 = .ok (.iload 4, 2) := by decide +kernel
theorem dX5_goAlong_57 : decode cX5_goAlong 57 = .ok (.iload 7, 2) := by decide +kernel
theorem dX5_goAlong_59 : decode cX5_goAlong 59 = .ok (.aload_n 1, 1) := by decide +kernel
theorem dX5_goAlong_60 : decode cX5_goAlong 60 = .ok (.getfield 68, 3) := by decide +kernel
theorem dX5_goAlong_63 : decode cX5_goAlong 63 = .ok (.iload_n 2, 1) := by decide +kernel
theorem dX5_goAlong_64 : decode cX5_goAlong 64 = .ok (.iaload, 1) := by decide +kernel
theorem dX5_goAlong_65 : decode cX5_goAlong 65 = .ok (.iadd, 1) := by decide +kernel
theorem dX5_goAlong_66 : decode cX5_goAlong 66 = .ok (.invokevirtual 25, 3) := by decide +kernel
theorem dX5_goAlong_69 : decode cX5_goAlong 69 = .ok (.ifCond .eq 7, 3) := by decide +kernel
theorem dX5_goAlong_72 : decode cX5_goAlong 72 = .ok (.iconst 1, 1) := by decide +kernel
theorem dX5_goAlong_73 : decode cX5_goAlong 73 = .ok (.goto 4, 3) := by decide +kernel
theorem dX5_goAlong_76 : decode cX5_goAlong 76 = .ok (.iconst 0, 1) := by decide +kernel
theorem dX5_goAlong_77 : decode cX5_goAlong 77 = .ok (.ireturn, 1) := by decide +kernel
theorem dX5_goUp_0 : decode cX5_goUp 0 = .ok (.iconst 0, 1) := by decide +kernel
theorem dX5_goUp_1 : decode cX5_goUp 1 = .ok (.istore_n 2, 1) := by decide +kernel
theorem dX5_goUp_2 : decode cX5_goUp 2 = .ok (.iconst 0, 1) := by decide +kernel
theorem dX5_goUp_3 : decode cX5_goUp 3 = .ok (.istore_n 3, 1) := by decide +kernel
theorem dX5_goUp_4 : decode cX5_goUp 4 = .ok (.iload_n 3, 1) := by decide +kernel
theorem dX5_goUp_5 : decode cX5_goUp 5 = .ok (.aload_n 1, 1) := by decide +kernel
theorem dX5_goUp_6 : decode cX5_goUp 6 = .ok (.getfield 71, 3) := by decide +kernel
theorem dX5_goUp_9 : decode cX5_goUp 9 = .ok (.if_icmp .ge 46, 3) := by decide +kernel
theorem dX5_goUp_12 : decode cX5_goUp 12 = .ok (.aload_n 1, 1) := by decide +kernel
theorem dX5_goUp_13 : decode cX5_goUp 13 = .ok (.aload_n 0, 1) := by decide +kernel
theorem dX5_goUp_14 : decode cX5_goUp 14 = .ok (.iload_n 3, 1) := by decide +kernel
theorem dX5_goUp_15 : decode cX5_goUp 15 = .ok (.iconst 0, 1) := by decide +kernel
theorem dX5_goUp_16 : decode cX5_goUp 16 = .ok (.invokevirtual 33, 3) := by decide +kernel
theorem dX5_goUp_19 : decode cX5_goUp 19 = .ok (.invokevirtual 74, 3) := by decide +kernel
theorem dX5_goUp_22 : decode cX5_goUp 22 = .ok (.istore 4, 2) := by decide +kernel
theorem dX5_goUp_24 : decode cX5_goUp 24 = .ok (.iload 4, 2) := by decide +kernel
theorem dX5_goUp_26 : decode cX5_goUp 26 = .ok (.iconst (-1), 1) := by decide +kernel
theorem dX5_goUp_27 : decode cX5_goUp 27 = .ok (.if_icmp .eq 22, 3) := by decide +kernel
theorem dX5_goUp_30 : decode cX5_goUp 30 = .ok (.iload_n 2, 1) := by decide +kernel
theorem dX5_goUp_31 : decode cX5_goUp 31 = .ok (.aload_n 0, 1) := by decide +kernel
theorem dX5_goUp_32 : decode cX5_goUp 32 = .ok (.aload_n 1, 1) := by decide +kernel
theorem dX5_goUp_33 : decode cX5_goUp 33 = .ok (.getfield 78, 3) := by decide +kernel
theorem dX5_goUp_36 : decode cX5_goUp 36 = .ok (.iconst 1, 1) := by decide +kernel
theorem dX5_goUp_37 : decode cX5_goUp 37 = .ok (.iload 4, 2) := by decide +kernel
theorem dX5_goUp_39 : decode cX5_goUp 39 = .ok (.aload_n 1, 1) := by decide +kernel
theorem dX5_goUp_40 : decode cX5_goUp 40 = .ok (.getfield 81, 3) := by decide +kernel
theorem dX5_goUp_43 : decode cX5_goUp 43 = .ok (.iadd, 1) := by decide +kernel
theorem dX5_goUp_44 : decode cX5_goUp 44 = .ok (.invokevirtual 25, 3) := by decide +kernel
theorem dX5_goUp_47 : decode cX5_goUp 47 = .ok (.ior, 1) := by decide +kernel
theorem dX5_goUp_48 : decode cX5_goUp 48 = .ok (.istore_n 2, 1) := by decide +kernel
theorem dX5_goUp_49 : decode cX5_goUp 49 = .ok (.iinc 3 1, 3) := by decide +kernel
theorem dX5_goUp_52 : decode cX5_goUp 52 = .ok (.goto (-48), 3) := by decide +kernel
theorem dX5_goUp_55 : decode cX5_goUp 55 = .ok (.iload_n 2, 1) := by decide +kernel
theorem dX5_goUp_56 : decode cX5_goUp 56 = .ok (.ireturn, 1) := by decide +kernel
theorem dX6_init_0 : decode cX6_init 0 = .ok (.aload_n 0, 1) := by decide +kernel
theorem dX6_init_1 : decode cX6_init 1 = .ok (.invokespecial 3, 3) := by decide +kernel
theorem dX6_init_4 : decode cX6_init 4 = .ok (.aload_n 0, 1) := by decide +kernel
theorem dX6_init_5 : decode cX6_init 5 = .ok (.bipush 12, 2) := by decide +kernel
theorem dX6_init_7 : decode cX6_init 7 = .ok (.newarray .int, 2) := by decide +kernel
theorem dX6_init_9 : decode cX6_init 9 = .ok (.putfield 11, 3) := by decide +kernel
theorem dX6_init_12 : decode cX6_init 12 = .ok (.aload_n 0, 1) := by decide +kernel
theorem dX6_init_13 : decode cX6_init 13 = .ok (.bipush 12, 2) := by decide +kernel
theorem dX6_init_15 : decode cX6_init 15 = .ok (.newarray .int, 2) := by decide +kernel
theorem dX6_init_17 : decode cX6_init 17 = .ok (.putfield 15, 3) := by decide +kernel
theorem dX6_init_20 : decode cX6_init 20 = .ok (.aload_n 0, 1) := by decide +kernel
theorem dX6_init_21 : decode cX6_init 21 = .ok (.bipush 12, 2) := by decide +kernel
theorem dX6_init_23 : decode cX6_init 23 = .ok (.newarray .int, 2) := by decide +kernel
theorem dX6_init_25 : decode cX6_init 25 = .ok (.putfield 18, 3) := by decide +kernel
theorem dX6_init_28 : decode cX6_init 28 = .ok (.aload_n 0, 1) := by decide +kernel
theorem dX6_init_29 : decode cX6_init 29 = .ok (.bipush 12, 2) := by decide +kernel
theorem dX6_init_31 : decode cX6_init 31 = .ok (.newarray .int, 2) := by decide +kernel
theorem dX6_init_33 : decode cX6_init 33 = .ok (.putfield 21, 3) := by decide +kernel
theorem dX6_init_36 : decode cX6_init 36 = .ok (.aload_n 0, 1) := by decide +kernel
theorem dX6_init_37 : decode cX6_init 37 = .ok (.sipush 400, 3) := by decide +kernel
theorem dX6_init_40 : decode cX6_init 40 = .ok (.newarray .int, 2) := by decide +kernel
theorem dX6_init_42 : decode cX6_init 42 = .ok (.putfield 24, 3) := by decide +kernel
theorem dX6_init_45 : decode cX6_init 45 = .ok (.aload_n 0, 1) := by decide +kernel
theorem dX6_init_46 : decode cX6_init 46 = .ok (.bipush 64, 2) := by decide +kernel
theorem dX6_init_48 : decode cX6_init 48 = .ok (.newarray .long, 2) := by decide +kernel
theorem dX6_init_50 : decode cX6_init 50 = .ok (.putfield 27, 3) := by decide +kernel
theorem dX6_init_53 : decode cX6_init 53 = .ok (.return_, 1) := by decide +kernel
theorem dX6_clear_0 : decode cX6_clear 0 = .ok (.aload_n 0, 1) := by decide +kernel
theorem dX6_clear_1 : decode cX6_clear 1 = .ok (.iconst 0, 1) := by decide +kernel
theorem dX6_clear_2 : decode cX6_clear 2 = .ok (.putfield 31, 3) := by decide +kernel
theorem dX6_clear_5 : decode cX6_clear 5 = .ok (.aload_n 0, 1) := by decide +kernel
theorem dX6_clear_6 : decode cX6_clear 6 = .ok (.iconst 0, 1) := by decide +kernel
theorem dX6_clear_7 : decode cX6_clear 7 = .ok (.putfield 35, 3) := by decide +kernel
theorem dX6_clear_10 : decode cX6_clear 10 = .ok (.return_, 1) := by decide +kernel
theorem dX6_put_0 : decode cX6_put 0 = .ok (.aload_n 0, 1) := by decide +kernel
theorem dX6_put_1 : decode cX6_put 1 = .ok (.getfield 35, 3) := by decide +kernel
theorem dX6_put_4 : decode cX6_put 4 = .ok (.aload_n 0, 1) := by decide +kernel
theorem dX6_put_5 : decode cX6_put 5 = .ok (.getfield 24, 3) := by decide +kernel
theorem dX6_put_8 : decode cX6_put 8 = .ok (.arraylength, 1) := by decide +kernel
theorem dX6_put_9 : decode cX6_put 9 = .ok (.if_icmp .ge 23, 3) := by decide +kernel
theorem dX6_put_12 : decode cX6_put 12 = .ok (.aload_n 0, 1) := by decide +kernel
theorem dX6_put_13 : decode cX6_put 13 = .ok (.getfield 24, 3) := by decide +kernel
theorem dX6_put_16 : decode cX6_put 16 = .ok (.aload_n 0, 1) := by decide +kernel
theorem dX6_put_17 : decode cX6_put 17 = .ok (.getfield 35, 3) := by decide +kernel
theorem dX6_put_20 : decode cX6_put 20 = .ok (.iload_n 1, 1) := by decide +kernel
theorem dX6_put_21 : decode cX6_put 21 = .ok (.iastore, 1) := by decide +kernel
theorem dX6_put_22 : decode cX6_put 22 = .ok (.aload_n 0, 1) := by decide +kernel
theorem dX6_put_23 : decode cX6_put 23 = .ok (.dup, 1) := by decide +kernel
theorem dX6_put_24 : decode cX6_put 24 = .ok (.getfield 35, 3) := by decide +kernel
theorem dX6_put_27 : decode cX6_put 27 = .ok (.iconst 1, 1) := by decide +kernel
theorem dX6_put_28 : decode cX6_put 28 = .ok (.iadd, 1) := by decide +kernel
theorem dX6_put_29 : decode cX6_put 29 = .ok (.putfield 35, 3) := by decide +kernel
theorem dX6_put_32 : decode cX6_put 32 = .ok (.iconst 1, 1) := by decide +kernel
theorem dX6_put_33 : decode cX6_put 33 = .ok (.ireturn, 1) := by decide +kernel
theorem dX6_holds_0 : decode cX6_holds 0 = .ok (.iload_n 1, 1) := by decide +kernel
theorem dX6_holds_1 : decode cX6_holds 1 = .ok (.ifCond .lt 26, 3) := by decide +kernel
theorem dX6_holds_4 : decode cX6_holds 4 = .ok (.iload_n 1, 1) := by decide +kernel
theorem dX6_holds_5 : decode cX6_holds 5 = .ok (.aload_n 0, 1) := by decide +kernel
theorem dX6_holds_6 : decode cX6_holds 6 = .ok (.getfield 31, 3) := by decide +kernel
theorem dX6_holds_9 : decode cX6_holds 9 = .ok (.if_icmp .ge 18, 3) := by decide +kernel
theorem dX6_holds_12 : decode cX6_holds 12 = .ok (.aload_n 0, 1) := by decide +kernel
theorem dX6_holds_13 : decode cX6_holds 13 = .ok (.getfield 18, 3) := by decide +kernel
theorem dX6_holds_16 : decode cX6_holds 16 = .ok (.iload_n 1, 1) := by decide +kernel
theorem dX6_holds_17 : decode cX6_holds 17 = .ok (.iaload, 1) := by decide +kernel
theorem dX6_holds_18 : decode cX6_holds 18 = .ok (.aload_n 0, 1) := by decide +kernel
theorem dX6_holds_19 : decode cX6_holds 19 = .ok (.getfield 21, 3) := by decide +kernel
theorem dX6_holds_22 : decode cX6_holds 22 = .ok (.iload_n 1, 1) := by decide +kernel
theorem dX6_holds_23 : decode cX6_holds 23 = .ok (.iaload, 1) := by decide +kernel
theorem dX6_holds_24 : decode cX6_holds 24 = .ok (.if_icmp .ne 5, 3) := by decide +kernel
theorem dX6_holds_27 : decode cX6_holds 27 = .ok (.iconst 1, 1) := by decide +kernel
theorem dX6_holds_28 : decode cX6_holds 28 = .ok (.ireturn, 1) := by decide +kernel
theorem dX6_holds_29 : decode cX6_holds 29 = .ok (.iconst 0, 1) := by decide +kernel
theorem dX6_holds_30 : decode cX6_holds 30 = .ok (.istore 5, 2) := by decide +kernel
theorem dX6_holds_32 : decode cX6_holds 32 = .ok (.aload_n 0, 1) := by decide +kernel
theorem dX6_holds_33 : decode cX6_holds 33 = .ok (.getfield 18, 3) := by decide +kernel
theorem dX6_holds_36 : decode cX6_holds 36 = .ok (.iload_n 1, 1) := by decide +kernel
theorem dX6_holds_37 : decode cX6_holds 37 = .ok (.iaload, 1) := by decide +kernel
theorem dX6_holds_38 : decode cX6_holds 38 = .ok (.istore 6, 2) := by decide +kernel
theorem dX6_holds_40 : decode cX6_holds 40 = .ok (.iload 6, 2) := by decide +kernel
theorem dX6_holds_42 : decode cX6_holds 42 = .ok (.aload_n 0, 1) := by decide +kernel
theorem dX6_holds_43 : decode cX6_holds 43 = .ok (.getfield 21, 3) := by decide +kernel
theorem dX6_holds_46 : decode cX6_holds 46 = .ok (.iload_n 1, 1) := by decide +kernel
theorem dX6_holds_47 : decode cX6_holds 47 = .ok (.iaload, 1) := by decide +kernel
theorem dX6_holds_48 : decode cX6_holds 48 = .ok (.if_icmp .ge 115, 3) := by decide +kernel
theorem dX6_holds_51 : decode cX6_holds 51 = .ok (.iload 6, 2) := by decide +kernel
theorem dX6_holds_53 : decode cX6_holds 53 = .ok (.aload_n 0, 1) := by decide +kernel
theorem dX6_holds_54 : decode cX6_holds 54 = .ok (.getfield 24, 3) := by decide +kernel
theorem dX6_holds_57 : decode cX6_holds 57 = .ok (.arraylength, 1) := by decide +kernel
theorem dX6_holds_58 : decode cX6_holds 58 = .ok (.if_icmp .ge 105, 3) := by decide +kernel
theorem dX6_holds_61 : decode cX6_holds 61 = .ok (.aload_n 0, 1) := by decide +kernel
theorem dX6_holds_62 : decode cX6_holds 62 = .ok (.getfield 24, 3) := by decide +kernel
theorem dX6_holds_65 : decode cX6_holds 65 = .ok (.iload 6, 2) := by decide +kernel
theorem dX6_holds_67 : decode cX6_holds 67 = .ok (.iaload, 1) := by decide +kernel
theorem dX6_holds_68 : decode cX6_holds 68 = .ok (.istore 7, 2) := by decide +kernel
theorem dX6_holds_70 : decode cX6_holds 70 = .ok (.iload 7, 2) := by decide +kernel
theorem dX6_holds_72 : decode cX6_holds 72 = .ok (.bipush 21, 2) := by decide +kernel
theorem dX6_holds_74 : decode cX6_holds 74 = .ok (.if_icmp .ne 14, 3) := by decide +kernel
theorem dX6_holds_77 : decode cX6_holds 77 = .ok (.aload_n 0, 1) := by decide +kernel
theorem dX6_holds_78 : decode cX6_holds 78 = .ok (.iload 5, 2) := by decide +kernel
theorem dX6_holds_80 : decode cX6_holds 80 = .ok (.invokevirtual 38, 3) := by decide +kernel
theorem dX6_holds_83 : decode cX6_holds 83 = .ok (.istore 5, 2) := by decide +kernel
theorem dX6_holds_85 : decode cX6_holds 85 = .ok (.goto 72, 3) := by decide +kernel
theorem dX6_holds_88 : decode cX6_holds 88 = .ok (.iload 7, 2) := by decide +kernel
theorem dX6_holds_90 : decode cX6_holds 90 = .ok (.bipush 10, 2) := by decide +kernel
theorem dX6_holds_92 : decode cX6_holds 92 = .ok (.if_icmp .lt 23, 3) := by decide +kernel
theorem dX6_holds_95 : decode cX6_holds 95 = .ok (.iload 7, 2) := by decide +kernel
theorem dX6_holds_97 : decode cX6_holds 97 = .ok (.bipush 100, 2) := by decide +kernel
theorem dX6_holds_99 : decode cX6_holds 99 = .ok (.if_icmp .ge 16, 3) := by decide +kernel
theorem dX6_holds_102 : decode cX6_holds 102 = .ok (.aload_n 0, 1) := by decide +kernel
theorem dX6_holds_103 : decode cX6_holds 103 = .ok (.iload 7, 2) := by decide +kernel
theorem dX6_holds_105 : decode cX6_holds 105 = .ok (.iload 5, 2) := by decide +kernel
theorem dX6_holds_107 : decode cX6_holds 107 = .ok (.invokevirtual 42, 3) := by decide +kernel
theorem dX6_holds_110 : decode cX6_holds 110 = .ok (.istore 5, 2) := by decide +kernel
theorem dX6_holds_112 : decode cX6_holds 112 = .ok (.goto 45, 3) := by decide +kernel
theorem dX6_holds_115 : decode cX6_holds 115 = .ok (.iload 5, 2) := by decide +kernel
theorem dX6_holds_117 : decode cX6_holds 117 = .ok (.bipush 64, 2) := by decide +kernel
theorem dX6_holds_119 : decode cX6_holds 119 = .ok (.if_icmp .ge 38, 3) := by decide +kernel
theorem dX6_holds_122 : decode cX6_holds 122 = .ok (.aload_n 0, 1) := by decide +kernel
theorem dX6_holds_123 : decode cX6_holds 123 = .ok (.getfield 27, 3) := by decide +kernel
theorem dX6_holds_126 : decode cX6_holds 126 = .ok (.iload 5, 2) := by decide +kernel
theorem dX6_holds_128 : decode cX6_holds 128 = .ok (.iload 7, 2) := by decide +kernel
theorem dX6_holds_130 : decode cX6_holds 130 = .ok (.bipush 100, 2) := by decide +kernel
theorem dX6_holds_132 : decode cX6_holds 132 = .ok (.if_icmp .lt 12, 3) := by decide +kernel
theorem dX6_holds_135 : decode cX6_holds 135 = .ok (.iload 7, 2) := by decide +kernel
theorem dX6_holds_137 : decode cX6_holds 137 = .ok (.bipush 100, 2) := by decide +kernel
theorem dX6_holds_139 : decode cX6_holds 139 = .ok (.isub, 1) := by decide +kernel
theorem dX6_holds_140 : decode cX6_holds 140 = .ok (.i2l, 1) := by decide +kernel
theorem dX6_holds_141 : decode cX6_holds 141 = .ok (.goto 12, 3) := by decide +kernel
theorem dX6_holds_144 : decode cX6_holds 144 = .ok (.aload_n 3, 1) := by decide +kernel
theorem dX6_holds_145 : decode cX6_holds 145 = .ok (.iload 7, 2) := by decide +kernel
theorem dX6_holds_147 : decode cX6_holds 147 = .ok (.aload_n 2, 1) := by decide +kernel
theorem dX6_holds_148 : decode cX6_holds 148 = .ok (.iload 4, 2) := by decide +kernel
theorem dX6_holds_150 : decode cX6_holds 150 = .ok (.invokevirtual 46, 3) := by decide +kernel
theorem dX6_holds_153 : decode cX6_holds 153 = .ok (.lastore, 1) := by decide +kernel
theorem dX6_holds_154 : decode cX6_holds 154 = .ok (.iinc 5 1, 3) := by decide +kernel
theorem dX6_holds_157 : decode cX6_holds 157 = .ok (.iinc 6 1, 3) := by decide +kernel
theorem dX6_holds_160 : decode cX6_holds 160 = .ok (.goto (-120), 3) := by decide +kernel
theorem dX6_holds_163 : decode cX6_holds 163 = .ok (.iload 5, 2) := by decide +kernel
theorem dX6_holds_165 : decode cX6_holds 165 = .ok (.ifCond .le 18, 3) := by decide +kernel
theorem dX6_holds_168 : decode cX6_holds 168 = .ok (.aload_n 0, 1) := by decide +kernel
theorem dX6_holds_169 : decode cX6_holds 169 = .ok (.getfield 27, 3) := by decide +kernel
theorem dX6_holds_172 : decode cX6_holds 172 = .ok (.iconst 0, 1) := by decide +kernel
theorem dX6_holds_173 : decode cX6_holds 173 = .ok (.laload, 1) := by decide +kernel
theorem dX6_holds_174 : decode cX6_holds 174 = .ok (.lconst 0, 1) := by decide +kernel
theorem dX6_holds_175 : decode cX6_holds 175 = .ok (.lcmp, 1) := by decide +kernel
theorem dX6_holds_176 : decode cX6_holds 176 = .ok (.ifCond .eq 7, 3) := by decide +kernel
theorem dX6_holds_179 : decode cX6_holds 179 = .ok (.iconst 1, 1) := by decide +kernel
theorem dX6_holds_180 : decode cX6_holds 180 = .ok (.goto 4, 3) := by decide +kernel
theorem dX6_holds_183 : decode cX6_holds 183 = .ok (.iconst 0, 1) := by decide +kernel
theorem dX6_holds_184 : decode cX6_holds 184 = .ok (.ireturn, 1) := by decide +kernel
theorem dX6_negate_0 : decode cX6_negate 0 = .ok (.iload_n 1, 1) := by decide +kernel
theorem dX6_negate_1 : decode cX6_negate 1 = .ok (.ifCond .le 27, 3) := by decide +kernel
theorem dX6_negate_4 : decode cX6_negate 4 = .ok (.iload_n 1, 1) := by decide +kernel
theorem dX6_negate_5 : decode cX6_negate 5 = .ok (.bipush 64, 2) := by decide +kernel
theorem dX6_negate_7 : decode cX6_negate 7 = .ok (.if_icmp .gt 21, 3) := by decide +kernel
theorem dX6_negate_10 : decode cX6_negate 10 = .ok (.aload_n 0, 1) := by decide +kernel
theorem dX6_negate_11 : decode cX6_negate 11 = .ok (.getfield 27, 3) := by decide +kernel
theorem dX6_negate_14 : decode cX6_negate 14 = .ok (.iload_n 1, 1) := by decide +kernel
theorem dX6_negate_15 : decode cX6_negate 15 = .ok (.iconst 1, 1) := by decide +kernel
theorem dX6_negate_16 : decode cX6_negate 16 = .ok (.isub, 1) := by decide +kernel
theorem dX6_negate_17 : decode cX6_negate 17 = .ok (.lconst 1, 1) := by decide +kernel
theorem dX6_negate_18 : decode cX6_negate 18 = .ok (.aload_n 0, 1) := by decide +kernel
theorem dX6_negate_19 : decode cX6_negate 19 = .ok (.getfield 27, 3) := by decide +kernel
theorem dX6_negate_22 : decode cX6_negate 22 = .ok (.iload_n 1, 1) := by decide +kernel
theorem dX6_negate_23 : decode cX6_negate 23 = .ok (.iconst 1, 1) := by decide +kernel
theorem dX6_negate_24 : decode cX6_negate 24 = .ok (.isub, 1) := by decide +kernel
theorem dX6_negate_25 : decode cX6_negate 25 = .ok (.laload, 1) := by decide +kernel
theorem dX6_negate_26 : decode cX6_negate 26 = .ok (.lsub, 1) := by decide +kernel
theorem dX6_negate_27 : decode cX6_negate 27 = .ok (.lastore, 1) := by decide +kernel
theorem dX6_negate_28 : decode cX6_negate 28 = .ok (.iload_n 1, 1) := by decide +kernel
theorem dX6_negate_29 : decode cX6_negate 29 = .ok (.ireturn, 1) := by decide +kernel
theorem dX6_join_0 : decode cX6_join 0 = .ok (.iload_n 2, 1) := by decide +kernel
theorem dX6_join_1 : decode cX6_join 1 = .ok (.iconst 2, 1) := by decide +kernel
theorem dX6_join_2 : decode cX6_join 2 = .ok (.if_icmp .lt 9, 3) := by decide +kernel
theorem dX6_join_5 : decode cX6_join 5 = .ok (.iload_n 2, 1) := by decide +kernel
theorem dX6_join_6 : decode cX6_join 6 = .ok (.bipush 64, 2) := by decide +kernel
theorem dX6_join_8 : decode cX6_join 8 = .ok (.if_icmp .le 5, 3) := by decide +kernel
theorem dX6_join_11 : decode cX6_join 11 = .ok (.iload_n 2, 1) := by decide +kernel
theorem dX6_join_12 : decode cX6_join 12 = .ok (.ireturn, 1) := by decide +kernel
theorem dX6_join_13 : decode cX6_join 13 = .ok (.aload_n 0, 1) := by decide +kernel
theorem dX6_join_14 : decode cX6_join 14 = .ok (.getfield 27, 3) := by decide +kernel
theorem dX6_join_17 : decode cX6_join 17 = .ok (.iload_n 2, 1) := by decide +kernel
theorem dX6_join_18 : decode cX6_join 18 = .ok (.iconst 2, 1) := by decide +kernel
theorem dX6_join_19 : decode cX6_join 19 = .ok (.isub, 1) := by decide +kernel
theorem dX6_join_20 : decode cX6_join 20 = .ok (.iload_n 1, 1) := by decide +kernel
theorem dX6_join_21 : decode cX6_join 21 = .ok (.aload_n 0, 1) := by decide +kernel
theorem dX6_join_22 : decode cX6_join 22 = .ok (.getfield 27, 3) := by decide +kernel
theorem dX6_join_25 : decode cX6_join 25 = .ok (.iload_n 2, 1) := by decide +kernel
theorem dX6_join_26 : decode cX6_join 26 = .ok (.iconst 2, 1) := by decide +kernel
theorem dX6_join_27 : decode cX6_join 27 = .ok (.isub, 1) := by decide +kernel
theorem dX6_join_28 : decode cX6_join 28 = .ok (.laload, 1) := by decide +kernel
theorem dX6_join_29 : decode cX6_join 29 = .ok (.aload_n 0, 1) := by decide +kernel
theorem dX6_join_30 : decode cX6_join 30 = .ok (.getfield 27, 3) := by decide +kernel
theorem dX6_join_33 : decode cX6_join 33 = .ok (.iload_n 2, 1) := by decide +kernel
theorem dX6_join_34 : decode cX6_join 34 = .ok (.iconst 1, 1) := by decide +kernel
theorem dX6_join_35 : decode cX6_join 35 = .ok (.isub, 1) := by decide +kernel
theorem dX6_join_36 : decode cX6_join 36 = .ok (.laload, 1) := by decide +kernel
theorem dX6_join_37 : decode cX6_join 37 = .ok (.invokestatic 52, 3) := by decide +kernel
theorem dX6_join_40 : decode cX6_join 40 = .ok (.lastore, 1) := by decide +kernel
theorem dX6_join_41 : decode cX6_join 41 = .ok (.iload_n 2, 1) := by decide +kernel
theorem dX6_join_42 : decode cX6_join 42 = .ok (.iconst 1, 1) := by decide +kernel
theorem dX6_join_43 : decode cX6_join 43 = .ok (.isub, 1) := by decide +kernel
theorem dX6_join_44 : decode cX6_join 44 = .ok (.ireturn, 1) := by decide +kernel
theorem dX6_joined_0 : decode cX6_joined 0 = .ok (.iload_n 0, 1) := by decide +kernel
theorem dX6_joined_1 : decode cX6_joined 1 = .ok (.tableswitch 145 10 19 #[55, 59, 63, 67, 81, 93, 105, 117, 129, 141], 55) := by decide +kernel
theorem dX6_joined_56 : decode cX6_joined 56 = .ok (.lload_n 1, 1) := by decide +kernel
theorem dX6_joined_57 : decode cX6_joined 57 = .ok (.lload_n 3, 1) := by decide +kernel
theorem dX6_joined_58 : decode cX6_joined 58 = .ok (.ladd, 1) := by decide +kernel
theorem dX6_joined_59 : decode cX6_joined 59 = .ok (.lreturn, 1) := by decide +kernel
theorem dX6_joined_60 : decode cX6_joined 60 = .ok (.lload_n 1, 1) := by decide +kernel
theorem dX6_joined_61 : decode cX6_joined 61 = .ok (.lload_n 3, 1) := by decide +kernel
theorem dX6_joined_62 : decode cX6_joined 62 = .ok (.lsub, 1) := by decide +kernel
theorem dX6_joined_63 : decode cX6_joined 63 = .ok (.lreturn, 1) := by decide +kernel
theorem dX6_joined_64 : decode cX6_joined 64 = .ok (.lload_n 1, 1) := by decide +kernel
theorem dX6_joined_65 : decode cX6_joined 65 = .ok (.lload_n 3, 1) := by decide +kernel
theorem dX6_joined_66 : decode cX6_joined 66 = .ok (.lmul, 1) := by decide +kernel
theorem dX6_joined_67 : decode cX6_joined 67 = .ok (.lreturn, 1) := by decide +kernel
theorem dX6_joined_68 : decode cX6_joined 68 = .ok (.lload_n 3, 1) := by decide +kernel
theorem dX6_joined_69 : decode cX6_joined 69 = .ok (.lconst 0, 1) := by decide +kernel
theorem dX6_joined_70 : decode cX6_joined 70 = .ok (.lcmp, 1) := by decide +kernel
theorem dX6_joined_71 : decode cX6_joined 71 = .ok (.ifCond .ne 7, 3) := by decide +kernel
theorem dX6_joined_74 : decode cX6_joined 74 = .ok (.lconst 0, 1) := by decide +kernel
theorem dX6_joined_75 : decode cX6_joined 75 = .ok (.goto 6, 3) := by decide +kernel
theorem dX6_joined_78 : decode cX6_joined 78 = .ok (.lload_n 1, 1) := by decide +kernel
theorem dX6_joined_79 : decode cX6_joined 79 = .ok (.lload_n 3, 1) := by decide +kernel
theorem dX6_joined_80 : decode cX6_joined 80 = .ok (.ldiv, 1) := by decide +kernel
theorem dX6_joined_81 : decode cX6_joined 81 = .ok (.lreturn, 1) := by decide +kernel
theorem dX6_joined_82 : decode cX6_joined 82 = .ok (.lload_n 1, 1) := by decide +kernel
theorem dX6_joined_83 : decode cX6_joined 83 = .ok (.lload_n 3, 1) := by decide +kernel
theorem dX6_joined_84 : decode cX6_joined 84 = .ok (.lcmp, 1) := by decide +kernel
theorem dX6_joined_85 : decode cX6_joined 85 = .ok (.ifCond .ge 7, 3) := by decide +kernel
theorem dX6_joined_88 : decode cX6_joined 88 = .ok (.lconst 1, 1) := by decide +kernel
theorem dX6_joined_89 : decode cX6_joined 89 = .ok (.goto 4, 3) := by decide +kernel
theorem dX6_joined_92 : decode cX6_joined 92 = .ok (.lconst 0, 1) := by decide +kernel
theorem dX6_joined_93 : decode cX6_joined 93 = .ok (.lreturn, 1) := by decide +kernel
theorem dX6_joined_94 : decode cX6_joined 94 = .ok (.lload_n 1, 1) := by decide +kernel
theorem dX6_joined_95 : decode cX6_joined 95 = .ok (.lload_n 3, 1) := by decide +kernel
theorem dX6_joined_96 : decode cX6_joined 96 = .ok (.lcmp, 1) := by decide +kernel
theorem dX6_joined_97 : decode cX6_joined 97 = .ok (.ifCond .gt 7, 3) := by decide +kernel
theorem dX6_joined_100 : decode cX6_joined 100 = .ok (.lconst 1, 1) := by decide +kernel
theorem dX6_joined_101 : decode cX6_joined 101 = .ok (.goto 4, 3) := by decide +kernel
theorem dX6_joined_104 : decode cX6_joined 104 = .ok (.lconst 0, 1) := by decide +kernel
theorem dX6_joined_105 : decode cX6_joined 105 = .ok (.lreturn, 1) := by decide +kernel
theorem dX6_joined_106 : decode cX6_joined 106 = .ok (.lload_n 1, 1) := by decide +kernel
theorem dX6_joined_107 : decode cX6_joined 107 = .ok (.lload_n 3, 1) := by decide +kernel
theorem dX6_joined_108 : decode cX6_joined 108 = .ok (.lcmp, 1) := by decide +kernel
theorem dX6_joined_109 : decode cX6_joined 109 = .ok (.ifCond .ne 7, 3) := by decide +kernel
theorem dX6_joined_112 : decode cX6_joined 112 = .ok (.lconst 1, 1) := by decide +kernel
theorem dX6_joined_113 : decode cX6_joined 113 = .ok (.goto 4, 3) := by decide +kernel
theorem dX6_joined_116 : decode cX6_joined 116 = .ok (.lconst 0, 1) := by decide +kernel
theorem dX6_joined_117 : decode cX6_joined 117 = .ok (.lreturn, 1) := by decide +kernel
theorem dX6_joined_118 : decode cX6_joined 118 = .ok (.lload_n 1, 1) := by decide +kernel
theorem dX6_joined_119 : decode cX6_joined 119 = .ok (.lload_n 3, 1) := by decide +kernel
theorem dX6_joined_120 : decode cX6_joined 120 = .ok (.lcmp, 1) := by decide +kernel
theorem dX6_joined_121 : decode cX6_joined 121 = .ok (.ifCond .lt 7, 3) := by decide +kernel
theorem dX6_joined_124 : decode cX6_joined 124 = .ok (.lconst 1, 1) := by decide +kernel
theorem dX6_joined_125 : decode cX6_joined 125 = .ok (.goto 4, 3) := by decide +kernel
theorem dX6_joined_128 : decode cX6_joined 128 = .ok (.lconst 0, 1) := by decide +kernel
theorem dX6_joined_129 : decode cX6_joined 129 = .ok (.lreturn, 1) := by decide +kernel
theorem dX6_joined_130 : decode cX6_joined 130 = .ok (.lload_n 1, 1) := by decide +kernel
theorem dX6_joined_131 : decode cX6_joined 131 = .ok (.lload_n 3, 1) := by decide +kernel
theorem dX6_joined_132 : decode cX6_joined 132 = .ok (.lcmp, 1) := by decide +kernel
theorem dX6_joined_133 : decode cX6_joined 133 = .ok (.ifCond .le 7, 3) := by decide +kernel
theorem dX6_joined_136 : decode cX6_joined 136 = .ok (.lconst 1, 1) := by decide +kernel
theorem dX6_joined_137 : decode cX6_joined 137 = .ok (.goto 4, 3) := by decide +kernel
theorem dX6_joined_140 : decode cX6_joined 140 = .ok (.lconst 0, 1) := by decide +kernel
theorem dX6_joined_141 : decode cX6_joined 141 = .ok (.lreturn, 1) := by decide +kernel
theorem dX6_joined_142 : decode cX6_joined 142 = .ok (.lload_n 1, 1) := by decide +kernel
theorem dX6_joined_143 : decode cX6_joined 143 = .ok (.lload_n 3, 1) := by decide +kernel
theorem dX6_joined_144 : decode cX6_joined 144 = .ok (.land, 1) := by decide +kernel
theorem dX6_joined_145 : decode cX6_joined 145 = .ok (.lreturn, 1) := by decide +kernel
theorem dX6_joined_146 : decode cX6_joined 146 = .ok (.lload_n 1, 1) := by decide +kernel
theorem dX6_joined_147 : decode cX6_joined 147 = .ok (.lload_n 3, 1) := by decide +kernel
theorem dX6_joined_148 : decode cX6_joined 148 = .ok (.lor, 1) := by decide +kernel
theorem dX6_joined_149 : decode cX6_joined 149 = .ok (.lreturn, 1) := by decide +kernel
theorem dX7_init_0 : decode cX7_init 0 = .ok (.aload_n 0, 1) := by decide +kernel
theorem dX7_init_1 : decode cX7_init 1 = .ok (.invokespecial 3, 3) := by decide +kernel
theorem dX7_init_4 : decode cX7_init 4 = .ok (.aload_n 0, 1) := by decide +kernel
theorem dX7_init_5 : decode cX7_init 5 = .ok (.aload_n 1, 1) := by decide +kernel
theorem dX7_init_6 : decode cX7_init 6 = .ok (.putfield 9, 3) := by decide +kernel
theorem dX7_init_9 : decode cX7_init 9 = .ok (.aload_n 0, 1) := by decide +kernel
theorem dX7_init_10 : decode cX7_init 10 = .ok (.aload_n 2, 1) := by decide +kernel
theorem dX7_init_11 : decode cX7_init 11 = .ok (.putfield 15, 3) := by decide +kernel
theorem dX7_init_14 : decode cX7_init 14 = .ok (.return_, 1) := by decide +kernel
theorem dX7_readAll_0 : decode cX7_readAll 0 = .ok (.aload_n 0, 1) := by decide +kernel
theorem dX7_readAll_1 : decode cX7_readAll 1 = .ok (.getfield 15, 3) := by decide +kernel
theorem dX7_readAll_4 : decode cX7_readAll 4 = .ok (.invokevirtual 19, 3) := by decide +kernel
theorem dX7_readAll_7 : decode cX7_readAll 7 = .ok (.aload_n 0, 1) := by decide +kernel
theorem dX7_readAll_8 : decode cX7_readAll 8 = .ok (.getfield 9, 3) := by decide +kernel
theorem dX7_readAll_11 : decode cX7_readAll 11 = .ok (.invokevirtual 24, 3) := by decide +kernel
theorem dX7_readAll_14 : decode cX7_readAll 14 = .ok (.iconst 0, 1) := by decide +kernel
theorem dX7_readAll_15 : decode cX7_readAll 15 = .ok (.istore_n 1, 1) := by decide +kernel
theorem dX7_readAll_16 : decode cX7_readAll 16 = .ok (.iload_n 1, 1) := by decide +kernel
theorem dX7_readAll_17 : decode cX7_readAll 17 = .ok (.bipush 12, 2) := by decide +kernel
theorem dX7_readAll_19 : decode cX7_readAll 19 = .ok (.if_icmp .gt 111, 3) := by decide +kernel
theorem dX7_readAll_22 : decode cX7_readAll 22 = .ok (.aload_n 0, 1) := by decide +kernel
theorem dX7_readAll_23 : decode cX7_readAll 23 = .ok (.invokevirtual 29, 3) := by decide +kernel
theorem dX7_readAll_26 : decode cX7_readAll 26 = .ok (.ifCond .eq 9, 3) := by decide +kernel
theorem dX7_readAll_29 : decode cX7_readAll 29 = .ok (.iload_n 1, 1) := by decide +kernel
theorem dX7_readAll_30 : decode cX7_readAll 30 = .ok (.bipush 12, 2) := by decide +kernel
theorem dX7_readAll_32 : decode cX7_readAll 32 = .ok (.if_icmp .lt 5, 3) := by decide +kernel
theorem dX7_readAll_35 : decode cX7_readAll 35 = .ok (.iconst 0, 1) := by decide +kernel
theorem dX7_readAll_36 : decode cX7_readAll 36 = .ok (.ireturn, 1) := by decide +kernel
theorem dX7_readAll_37 : decode cX7_readAll 37 = .ok (.aload_n 0, 1) := by decide +kernel
theorem dX7_readAll_38 : decode cX7_readAll 38 = .ok (.getfield 15, 3) := by decide +kernel
theorem dX7_readAll_41 : decode cX7_readAll 41 = .ok (.getfield 33, 3) := by decide +kernel
theorem dX7_readAll_44 : decode cX7_readAll 44 = .ok (.iload_n 1, 1) := by decide +kernel
theorem dX7_readAll_45 : decode cX7_readAll 45 = .ok (.aload_n 0, 1) := by decide +kernel
theorem dX7_readAll_46 : decode cX7_readAll 46 = .ok (.getfield 15, 3) := by decide +kernel
theorem dX7_readAll_49 : decode cX7_readAll 49 = .ok (.getfield 37, 3) := by decide +kernel
theorem dX7_readAll_52 : decode cX7_readAll 52 = .ok (.iastore, 1) := by decide +kernel
theorem dX7_readAll_53 : decode cX7_readAll 53 = .ok (.aload_n 0, 1) := by decide +kernel
theorem dX7_readAll_54 : decode cX7_readAll 54 = .ok (.getfield 9, 3) := by decide +kernel
theorem dX7_readAll_57 : decode cX7_readAll 57 = .ok (.ldc 41, 2) := by decide +kernel
theorem dX7_readAll_59 : decode cX7_readAll 59 = .ok (.invokevirtual 43, 3) := by decide +kernel
theorem dX7_readAll_62 : decode cX7_readAll 62 = .ok (.ifCond .eq 20, 3) := by decide +kernel
theorem dX7_readAll_65 : decode cX7_readAll 65 = .ok (.aload_n 0, 1) := by decide +kernel
theorem dX7_readAll_66 : decode cX7_readAll 66 = .ok (.getfield 9, 3) := by decide +kernel
theorem dX7_readAll_69 : decode cX7_readAll 69 = .ok (.invokevirtual 47, 3) := by decide +kernel
theorem dX7_readAll_72 : decode cX7_readAll 72 = .ok (.aload_n 0, 1) := by decide +kernel
theorem dX7_readAll_73 : decode cX7_readAll 73 = .ok (.iconst 0, 1) := by decide +kernel
theorem dX7_readAll_74 : decode cX7_readAll 74 = .ok (.invokevirtual 50, 3) := by decide +kernel
theorem dX7_readAll_77 : decode cX7_readAll 77 = .ok (.ifCond .ne 5, 3) := by decide +kernel
theorem dX7_readAll_80 : decode cX7_readAll 80 = .ok (.iconst 0, 1) := by decide +kernel
theorem dX7_readAll_81 : decode cX7_readAll 81 = .ok (.ireturn, 1) := by decide +kernel
theorem dX7_readAll_82 : decode cX7_readAll 82 = .ok (.aload_n 0, 1) := by decide +kernel
theorem dX7_readAll_83 : decode cX7_readAll 83 = .ok (.getfield 15, 3) := by decide +kernel
theorem dX7_readAll_86 : decode cX7_readAll 86 = .ok (.getfield 54, 3) := by decide +kernel
theorem dX7_readAll_89 : decode cX7_readAll 89 = .ok (.iload_n 1, 1) := by decide +kernel
theorem dX7_readAll_90 : decode cX7_readAll 90 = .ok (.aload_n 0, 1) := by decide +kernel
theorem dX7_readAll_91 : decode cX7_readAll 91 = .ok (.getfield 15, 3) := by decide +kernel
theorem dX7_readAll_94 : decode cX7_readAll 94 = .ok (.getfield 37, 3) := by decide +kernel
theorem dX7_readAll_97 : decode cX7_readAll 97 = .ok (.iastore, 1) := by decide +kernel
theorem dX7_readAll_98 : decode cX7_readAll 98 = .ok (.aload_n 0, 1) := by decide +kernel
theorem dX7_readAll_99 : decode cX7_readAll 99 = .ok (.getfield 9, 3) := by decide +kernel
theorem dX7_readAll_102 : decode cX7_readAll 102 = .ok (.getfield 57, 3) := by decide +kernel
theorem dX7_readAll_105 : decode cX7_readAll 105 = .ok (.ifCond .ne 5, 3) := by decide +kernel
theorem dX7_readAll_108 : decode cX7_readAll 108 = .ok (.iconst 1, 1) := by decide +kernel
theorem dX7_readAll_109 : decode cX7_readAll 109 = .ok (.ireturn, 1) := by decide +kernel
theorem dX7_readAll_110 : decode cX7_readAll 110 = .ok (.aload_n 0, 1) := by decide +kernel
theorem dX7_readAll_111 : decode cX7_readAll 111 = .ok (.getfield 9, 3) := by decide +kernel
theorem dX7_readAll_114 : decode cX7_readAll 114 = .ok (.bipush 59, 2) := by decide +kernel
theorem dX7_readAll_116 : decode cX7_readAll 116 = .ok (.invokevirtual 60, 3) := by decide +kernel
theorem dX7_readAll_119 : decode cX7_readAll 119 = .ok (.ifCond .ne 5, 3) := by decide +kernel
theorem dX7_readAll_122 : decode cX7_readAll 122 = .ok (.iconst 0, 1) := by decide +kernel
theorem dX7_readAll_123 : decode cX7_readAll 123 = .ok (.ireturn, 1) := by decide +kernel
theorem dX7_readAll_124 : decode cX7_readAll 124 = .ok (.iinc 1 1, 3) := by decide +kernel
theorem dX7_readAll_127 : decode cX7_readAll 127 = .ok (.goto (-111), 3) := by decide +kernel
theorem dX7_readAll_130 : decode cX7_readAll 130 = .ok (.aload_n 0, 1) := by decide +kernel
theorem dX7_readAll_131 : decode cX7_readAll 131 = .ok (.getfield 9, 3) := by decide +kernel
theorem dX7_readAll_134 : decode cX7_readAll 134 = .ok (.iconst 4, 1) := by decide +kernel
theorem dX7_readAll_135 : decode cX7_readAll 135 = .ok (.invokevirtual 64, 3) := by decide +kernel
theorem dX7_readAll_138 : decode cX7_readAll 138 = .ok (.ireturn, 1) := by decide +kernel
theorem dX7_readDeed_0 : decode cX7_readDeed 0 = .ok (.aload_n 0, 1) := by decide +kernel
theorem dX7_readDeed_1 : decode cX7_readDeed 1 = .ok (.getfield 9, 3) := by decide +kernel
theorem dX7_readDeed_4 : decode cX7_readDeed 4 = .ok (.ldc 67, 2) := by decide +kernel
theorem dX7_readDeed_6 : decode cX7_readDeed 6 = .ok (.invokevirtual 43, 3) := by decide +kernel
theorem dX7_readDeed_9 : decode cX7_readDeed 9 = .ok (.ifCond .eq 7, 3) := by decide +kernel
theorem dX7_readDeed_12 : decode cX7_readDeed 12 = .ok (.iconst 0, 1) := by decide +kernel
theorem dX7_readDeed_13 : decode cX7_readDeed 13 = .ok (.goto 20, 3) := by decide +kernel
theorem dX7_readDeed_16 : decode cX7_readDeed 16 = .ok (.aload_n 0, 1) := by decide +kernel
theorem dX7_readDeed_17 : decode cX7_readDeed 17 = .ok (.getfield 9, 3) := by decide +kernel
theorem dX7_readDeed_20 : decode cX7_readDeed 20 = .ok (.ldc 69, 2) := by decide +kernel
theorem dX7_readDeed_22 : decode cX7_readDeed 22 = .ok (.invokevirtual 43, 3) := by decide +kernel
theorem dX7_readDeed_25 : decode cX7_readDeed 25 = .ok (.ifCond .eq 7, 3) := by decide +kernel
theorem dX7_readDeed_28 : decode cX7_readDeed 28 = .ok (.iconst 1, 1) := by decide +kernel
theorem dX7_readDeed_29 : decode cX7_readDeed 29 = .ok (.goto 4, 3) := by decide +kernel
theorem dX7_readDeed_32 : decode cX7_readDeed 32 = .ok (.iconst 2, 1) := by decide +kernel
theorem dX7_readDeed_33 : decode cX7_readDeed 33 = .ok (.istore_n 1, 1) := by decide +kernel
theorem dX7_readDeed_34 : decode cX7_readDeed 34 = .ok (.iload_n 1, 1) := by decide +kernel
theorem dX7_readDeed_35 : decode cX7_readDeed 35 = .ok (.iconst 2, 1) := by decide +kernel
theorem dX7_readDeed_36 : decode cX7_readDeed 36 = .ok (.if_icmp .ne 24, 3) := by decide +kernel
theorem dX7_readDeed_39 : decode cX7_readDeed 39 = .ok (.aload_n 0, 1) := by decide +kernel
theorem dX7_readDeed_40 : decode cX7_readDeed 40 = .ok (.getfield 9, 3) := by decide +kernel
theorem dX7_readDeed_43 : decode cX7_readDeed 43 = .ok (.ldc 71, 2) := by decide +kernel
theorem dX7_readDeed_45 : decode cX7_readDeed 45 = .ok (.invokevirtual 43, 3) := by decide +kernel
theorem dX7_readDeed_48 : decode cX7_readDeed 48 = .ok (.ifCond .ne 12, 3) := by decide +kernel
theorem dX7_readDeed_51 : decode cX7_readDeed 51 = .ok (.aload_n 0, 1) := by decide +kernel
theorem dX7_readDeed_52 : decode cX7_readDeed 52 = .ok (.getfield 9, 3) := by decide +kernel
theorem dX7_readDeed_55 : decode cX7_readDeed 55 = .ok (.iconst 0, 1) := by decide +kernel
theorem dX7_readDeed_56 : decode cX7_readDeed 56 = .ok (.invokevirtual 64, 3) := by decide +kernel
theorem dX7_readDeed_59 : decode cX7_readDeed 59 = .ok (.ireturn, 1) := by decide +kernel
theorem dX7_readDeed_60 : decode cX7_readDeed 60 = .ok (.aload_n 0, 1) := by decide +kernel
theorem dX7_readDeed_61 : decode cX7_readDeed 61 = .ok (.getfield 15, 3) := by decide +kernel
theorem dX7_readDeed_64 : decode cX7_readDeed 64 = .ok (.getfield 73, 3) := by decide +kernel
theorem dX7_readDeed_67 : decode cX7_readDeed 67 = .ok (.istore_n 2, 1) := by decide +kernel
theorem dX7_readDeed_68 : decode cX7_readDeed 68 = .ok (.iload_n 2, 1) := by decide +kernel
theorem dX7_readDeed_69 : decode cX7_readDeed 69 = .ok (.bipush 12, 2) := by decide +kernel
theorem dX7_readDeed_71 : decode cX7_readDeed 71 = .ok (.if_icmp .lt 12, 3) := by decide +kernel
theorem dX7_readDeed_74 : decode cX7_readDeed 74 = .ok (.aload_n 0, 1) := by decide +kernel
theorem dX7_readDeed_75 : decode cX7_readDeed 75 = .ok (.getfield 9, 3) := by decide +kernel
theorem dX7_readDeed_78 : decode cX7_readDeed 78 = .ok (.iconst 4, 1) := by decide +kernel
theorem dX7_readDeed_79 : decode cX7_readDeed 79 = .ok (.invokevirtual 64, 3) := by decide +kernel
theorem dX7_readDeed_82 : decode cX7_readDeed 82 = .ok (.ireturn, 1) := by decide +kernel
theorem dX7_readDeed_83 : decode cX7_readDeed 83 = .ok (.aload_n 0, 1) := by decide +kernel
theorem dX7_readDeed_84 : decode cX7_readDeed 84 = .ok (.getfield 9, 3) := by decide +kernel
theorem dX7_readDeed_87 : decode cX7_readDeed 87 = .ok (.invokevirtual 47, 3) := by decide +kernel
theorem dX7_readDeed_90 : decode cX7_readDeed 90 = .ok (.aload_n 0, 1) := by decide +kernel
theorem dX7_readDeed_91 : decode cX7_readDeed 91 = .ok (.getfield 15, 3) := by decide +kernel
theorem dX7_readDeed_94 : decode cX7_readDeed 94 = .ok (.getfield 76, 3) := by decide +kernel
theorem dX7_readDeed_97 : decode cX7_readDeed 97 = .ok (.iload_n 2, 1) := by decide +kernel
theorem dX7_readDeed_98 : decode cX7_readDeed 98 = .ok (.iload_n 1, 1) := by decide +kernel
theorem dX7_readDeed_99 : decode cX7_readDeed 99 = .ok (.iastore, 1) := by decide +kernel
theorem dX7_readDeed_100 : decode cX7_readDeed 100 = .ok (.iload_n 1, 1) := by decide +kernel
theorem dX7_readDeed_101 : decode cX7_readDeed 101 = .ok (.ifCond .ne 34, 3) := by decide +kernel
theorem dX7_readDeed_104 : decode cX7_readDeed 104 = .ok (.aload_n 0, 1) := by decide +kernel
theorem dX7_readDeed_105 : decode cX7_readDeed 105 = .ok (.getfield 9, 3) := by decide +kernel
theorem dX7_readDeed_108 : decode cX7_readDeed 108 = .ok (.iconst 0, 1) := by decide +kernel
theorem dX7_readDeed_109 : decode cX7_readDeed 109 = .ok (.bipush 23, 2) := by decide +kernel
theorem dX7_readDeed_111 : decode cX7_readDeed 111 = .ok (.invokevirtual 79, 3) := by decide +kernel
theorem dX7_readDeed_114 : decode cX7_readDeed 114 = .ok (.ifCond .ne 5, 3) := by decide +kernel
theorem dX7_readDeed_117 : decode cX7_readDeed 117 = .ok (.iconst 0, 1) := by decide +kernel
theorem dX7_readDeed_118 : decode cX7_readDeed 118 = .ok (.ireturn, 1) := by decide +kernel
theorem dX7_readDeed_119 : decode cX7_readDeed 119 = .ok (.aload_n 0, 1) := by decide +kernel
theorem dX7_readDeed_120 : decode cX7_readDeed 120 = .ok (.getfield 15, 3) := by decide +kernel
theorem dX7_readDeed_123 : decode cX7_readDeed 123 = .ok (.getfield 83, 3) := by decide +kernel
theorem dX7_readDeed_126 : decode cX7_readDeed 126 = .ok (.iload_n 2, 1) := by decide +kernel
theorem dX7_readDeed_127 : decode cX7_readDeed 127 = .ok (.aload_n 0, 1) := by decide +kernel
theorem dX7_readDeed_128 : decode cX7_readDeed 128 = .ok (.getfield 9, 3) := by decide +kernel
theorem dX7_readDeed_131 : decode cX7_readDeed 131 = .ok (.invokevirtual 86, 3) := by decide +kernel
theorem dX7_readDeed_134 : decode cX7_readDeed 134 = .ok (.iastore, 1) := by decide +kernel
theorem dX7_readDeed_135 : decode cX7_readDeed 135 = .ok (.aload_n 0, 1) := by decide +kernel
theorem dX7_readDeed_136 : decode cX7_readDeed 136 = .ok (.getfield 15, 3) := by decide +kernel
theorem dX7_readDeed_139 : decode cX7_readDeed 139 = .ok (.dup, 1) := by decide +kernel
theorem dX7_readDeed_140 : decode cX7_readDeed 140 = .ok (.getfield 73, 3) := by decide +kernel
theorem dX7_readDeed_143 : decode cX7_readDeed 143 = .ok (.iconst 1, 1) := by decide +kernel
theorem dX7_readDeed_144 : decode cX7_readDeed 144 = .ok (.iadd, 1) := by decide +kernel
theorem dX7_readDeed_145 : decode cX7_readDeed 145 = .ok (.putfield 73, 3) := by decide +kernel
theorem dX7_readDeed_148 : decode cX7_readDeed 148 = .ok (.iconst 1, 1) := by decide +kernel
theorem dX7_readDeed_149 : decode cX7_readDeed 149 = .ok (.ireturn, 1) := by decide +kernel
theorem dX7_readTest_0 : decode cX7_readTest 0 = .ok (.iconst 0, 1) := by decide +kernel
theorem dX7_readTest_1 : decode cX7_readTest 1 = .ok (.istore_n 2, 1) := by decide +kernel
theorem dX7_readTest_2 : decode cX7_readTest 2 = .ok (.iconst 0, 1) := by decide +kernel
theorem dX7_readTest_3 : decode cX7_readTest 3 = .ok (.istore_n 3, 1) := by decide +kernel
theorem dX7_readTest_4 : decode cX7_readTest 4 = .ok (.iconst 0, 1) := by decide +kernel
theorem dX7_readTest_5 : decode cX7_readTest 5 = .ok (.istore 4, 2) := by decide +kernel
theorem dX7_readTest_7 : decode cX7_readTest 7 = .ok (.iload 4, 2) := by decide +kernel
theorem dX7_readTest_9 : decode cX7_readTest 9 = .ok (.sipush 400, 3) := by decide +kernel
theorem dX7_readTest_12 : decode cX7_readTest 12 = .ok (.if_icmp .ge 88, 3) := by decide +kernel
theorem dX7_readTest_15 : decode cX7_readTest 15 = .ok (.aload_n 0, 1) := by decide +kernel
theorem dX7_readTest_16 : decode cX7_readTest 16 = .ok (.iload_n 1, 1) := by decide +kernel
theorem dX7_readTest_17 : decode cX7_readTest 17 = .ok (.invokevirtual 89, 3) := by decide +kernel
theorem dX7_readTest_20 : decode cX7_readTest 20 = .ok (.ifCond .ne 5, 3) := by decide +kernel
theorem dX7_readTest_23 : decode cX7_readTest 23 = .ok (.iconst 0, 1) := by decide +kernel
theorem dX7_readTest_24 : decode cX7_readTest 24 = .ok (.ireturn, 1) := by decide +kernel
theorem dX7_readTest_25 : decode cX7_readTest 25 = .ok (.iload_n 3, 1) := by decide +kernel
theorem dX7_readTest_26 : decode cX7_readTest 26 = .ok (.ifCond .eq 13, 3) := by decide +kernel
theorem dX7_readTest_29 : decode cX7_readTest 29 = .ok (.aload_n 0, 1) := by decide +kernel
theorem dX7_readTest_30 : decode cX7_readTest 30 = .ok (.getfield 15, 3) := by decide +kernel
theorem dX7_readTest_33 : decode cX7_readTest 33 = .ok (.bipush 19, 2) := by decide +kernel
theorem dX7_readTest_35 : decode cX7_readTest 35 = .ok (.invokevirtual 92, 3) := by decide +kernel
theorem dX7_readTest_38 : decode cX7_readTest 38 = .ok (.pop, 1) := by decide +kernel
theorem dX7_readTest_39 : decode cX7_readTest 39 = .ok (.aload_n 0, 1) := by decide +kernel
theorem dX7_readTest_40 : decode cX7_readTest 40 = .ok (.getfield 9, 3) := by decide +kernel
theorem dX7_readTest_43 : decode cX7_readTest 43 = .ok (.ldc 95, 2) := by decide +kernel
theorem dX7_readTest_45 : decode cX7_readTest 45 = .ok (.invokevirtual 43, 3) := by decide +kernel
theorem dX7_readTest_48 : decode cX7_readTest 48 = .ok (.istore_n 3, 1) := by decide +kernel
theorem dX7_readTest_49 : decode cX7_readTest 49 = .ok (.iload_n 3, 1) := by decide +kernel
theorem dX7_readTest_50 : decode cX7_readTest 50 = .ok (.ifCond .ne 27, 3) := by decide +kernel
theorem dX7_readTest_53 : decode cX7_readTest 53 = .ok (.iload_n 2, 1) := by decide +kernel
theorem dX7_readTest_54 : decode cX7_readTest 54 = .ok (.ifCond .eq 13, 3) := by decide +kernel
theorem dX7_readTest_57 : decode cX7_readTest 57 = .ok (.aload_n 0, 1) := by decide +kernel
theorem dX7_readTest_58 : decode cX7_readTest 58 = .ok (.getfield 15, 3) := by decide +kernel
theorem dX7_readTest_61 : decode cX7_readTest 61 = .ok (.bipush 20, 2) := by decide +kernel
theorem dX7_readTest_63 : decode cX7_readTest 63 = .ok (.invokevirtual 92, 3) := by decide +kernel
theorem dX7_readTest_66 : decode cX7_readTest 66 = .ok (.pop, 1) := by decide +kernel
theorem dX7_readTest_67 : decode cX7_readTest 67 = .ok (.aload_n 0, 1) := by decide +kernel
theorem dX7_readTest_68 : decode cX7_readTest 68 = .ok (.getfield 9, 3) := by decide +kernel
theorem dX7_readTest_71 : decode cX7_readTest 71 = .ok (.ldc 97, 2) := by decide +kernel
theorem dX7_readTest_73 : decode cX7_readTest 73 = .ok (.invokevirtual 43, 3) := by decide +kernel
theorem dX7_readTest_76 : decode cX7_readTest 76 = .ok (.istore_n 2, 1) := by decide +kernel
theorem dX7_readTest_77 : decode cX7_readTest 77 = .ok (.iload_n 3, 1) := by decide +kernel
theorem dX7_readTest_78 : decode cX7_readTest 78 = .ok (.ifCond .ne 9, 3) := by decide +kernel
theorem dX7_readTest_81 : decode cX7_readTest 81 = .ok (.iload_n 2, 1) := by decide +kernel
theorem dX7_readTest_82 : decode cX7_readTest 82 = .ok (.ifCond .ne 5, 3) := by decide +kernel
theorem dX7_readTest_85 : decode cX7_readTest 85 = .ok (.iconst 1, 1) := by decide +kernel
theorem dX7_readTest_86 : decode cX7_readTest 86 = .ok (.ireturn, 1) := by decide +kernel
theorem dX7_readTest_87 : decode cX7_readTest 87 = .ok (.aload_n 0, 1) := by decide +kernel
theorem dX7_readTest_88 : decode cX7_readTest 88 = .ok (.getfield 9, 3) := by decide +kernel
theorem dX7_readTest_91 : decode cX7_readTest 91 = .ok (.invokevirtual 47, 3) := by decide +kernel
theorem dX7_readTest_94 : decode cX7_readTest 94 = .ok (.iinc 4 1, 3) := by decide +kernel
theorem dX7_readTest_97 : decode cX7_readTest 97 = .ok (.goto (-90), 3) := by decide +kernel
theorem dX7_readTest_100 : decode cX7_readTest 100 = .ok (.aload_n 0, 1) := by decide +kernel
theorem dX7_readTest_101 : decode cX7_readTest 101 = .ok (.getfield 9, 3) := by decide +kernel
theorem dX7_readTest_104 : decode cX7_readTest 104 = .ok (.iconst 0, 1) := by decide +kernel
theorem dX7_readTest_105 : decode cX7_readTest 105 = .ok (.invokevirtual 64, 3) := by decide +kernel
theorem dX7_readTest_108 : decode cX7_readTest 108 = .ok (.ireturn, 1) := by decide +kernel
theorem dX7_readFact_0 : decode cX7_readFact 0 = .ok (.aload_n 0, 1) := by decide +kernel
theorem dX7_readFact_1 : decode cX7_readFact 1 = .ok (.getfield 9, 3) := by decide +kernel
theorem dX7_readFact_4 : decode cX7_readFact 4 = .ok (.ldc 99, 2) := by decide +kernel
theorem dX7_readFact_6 : decode cX7_readFact 6 = .ok (.invokevirtual 43, 3) := by decide +kernel
theorem dX7_readFact_9 : decode cX7_readFact 9 = .ok (.istore_n 2, 1) := by decide +kernel
theorem dX7_readFact_10 : decode cX7_readFact 10 = .ok (.iload_n 2, 1) := by decide +kernel
theorem dX7_readFact_11 : decode cX7_readFact 11 = .ok (.ifCond .ne 56, 3) := by decide +kernel
theorem dX7_readFact_14 : decode cX7_readFact 14 = .ok (.aload_n 0, 1) := by decide +kernel
theorem dX7_readFact_15 : decode cX7_readFact 15 = .ok (.getfield 9, 3) := by decide +kernel
theorem dX7_readFact_18 : decode cX7_readFact 18 = .ok (.bipush 91, 2) := by decide +kernel
theorem dX7_readFact_20 : decode cX7_readFact 20 = .ok (.invokevirtual 101, 3) := by decide +kernel
theorem dX7_readFact_23 : decode cX7_readFact 23 = .ok (.ifCond .ne 44, 3) := by decide +kernel
theorem dX7_readFact_26 : decode cX7_readFact 26 = .ok (.aload_n 0, 1) := by decide +kernel
theorem dX7_readFact_27 : decode cX7_readFact 27 = .ok (.invokevirtual 104, 3) := by decide +kernel
theorem dX7_readFact_30 : decode cX7_readFact 30 = .ok (.ifCond .eq 35, 3) := by decide +kernel
theorem dX7_readFact_33 : decode cX7_readFact 33 = .ok (.aload_n 0, 1) := by decide +kernel
theorem dX7_readFact_34 : decode cX7_readFact 34 = .ok (.invokevirtual 107, 3) := by decide +kernel
theorem dX7_readFact_37 : decode cX7_readFact 37 = .ok (.ifCond .eq 28, 3) := by decide +kernel
theorem dX7_readFact_40 : decode cX7_readFact 40 = .ok (.aload_n 0, 1) := by decide +kernel
theorem dX7_readFact_41 : decode cX7_readFact 41 = .ok (.invokevirtual 104, 3) := by decide +kernel
theorem dX7_readFact_44 : decode cX7_readFact 44 = .ok (.ifCond .eq 21, 3) := by decide +kernel
theorem dX7_readFact_47 : decode cX7_readFact 47 = .ok (.aload_n 0, 1) := by decide +kernel
theorem dX7_readFact_48 : decode cX7_readFact 48 = .ok (.getfield 15, 3) := by decide +kernel
theorem dX7_readFact_51 : decode cX7_readFact 51 = .ok (.aload_n 0, 1) := by decide +kernel
theorem dX7_readFact_52 : decode cX7_readFact 52 = .ok (.getfield 110, 3) := by decide +kernel
theorem dX7_readFact_55 : decode cX7_readFact 55 = .ok (.invokevirtual 92, 3) := by decide +kernel
theorem dX7_readFact_58 : decode cX7_readFact 58 = .ok (.ifCond .eq 7, 3) := by decide +kernel
theorem dX7_readFact_61 : decode cX7_readFact 61 = .ok (.iconst 1, 1) := by decide +kernel
theorem dX7_readFact_62 : decode cX7_readFact 62 = .ok (.goto 4, 3) := by decide +kernel
theorem dX7_readFact_65 : decode cX7_readFact 65 = .ok (.iconst 0, 1) := by decide +kernel
theorem dX7_readFact_66 : decode cX7_readFact 66 = .ok (.ireturn, 1) := by decide +kernel
theorem dX7_readFact_67 : decode cX7_readFact 67 = .ok (.iload_n 1, 1) := by decide +kernel
theorem dX7_readFact_68 : decode cX7_readFact 68 = .ok (.bipush 10, 2) := by decide +kernel
theorem dX7_readFact_70 : decode cX7_readFact 70 = .ok (.if_icmp .lt 12, 3) := by decide +kernel
theorem dX7_readFact_73 : decode cX7_readFact 73 = .ok (.aload_n 0, 1) := by decide +kernel
theorem dX7_readFact_74 : decode cX7_readFact 74 = .ok (.getfield 9, 3) := by decide +kernel
theorem dX7_readFact_77 : decode cX7_readFact 77 = .ok (.iconst 2, 1) := by decide +kernel
theorem dX7_readFact_78 : decode cX7_readFact 78 = .ok (.invokevirtual 64, 3) := by decide +kernel
theorem dX7_readFact_81 : decode cX7_readFact 81 = .ok (.ireturn, 1) := by decide +kernel
theorem dX7_readFact_82 : decode cX7_readFact 82 = .ok (.aload_n 0, 1) := by decide +kernel
theorem dX7_readFact_83 : decode cX7_readFact 83 = .ok (.getfield 9, 3) := by decide +kernel
theorem dX7_readFact_86 : decode cX7_readFact 86 = .ok (.invokevirtual 47, 3) := by decide +kernel
theorem dX7_readFact_89 : decode cX7_readFact 89 = .ok (.iload_n 2, 1) := by decide +kernel
theorem dX7_readFact_90 : decode cX7_readFact 90 = .ok (.ifCond .eq 31, 3) := by decide +kernel
theorem dX7_readFact_93 : decode cX7_readFact 93 = .ok (.aload_n 0, 1) := by decide +kernel
theorem dX7_readFact_94 : decode cX7_readFact 94 = .ok (.iload_n 1, 1) := by decide +kernel
theorem dX7_readFact_95 : decode cX7_readFact 95 = .ok (.iconst 1, 1) := by decide +kernel
theorem dX7_readFact_96 : decode cX7_readFact 96 = .ok (.iadd, 1) := by decide +kernel
theorem dX7_readFact_97 : decode cX7_readFact 97 = .ok (.invokevirtual 89, 3) := by decide +kernel
theorem dX7_readFact_100 : decode cX7_readFact 100 = .ok (.ifCond .eq 19, 3) := by decide +kernel
theorem dX7_readFact_103 : decode cX7_readFact 103 = .ok (.aload_n 0, 1) := by decide +kernel
theorem dX7_readFact_104 : decode cX7_readFact 104 = .ok (.getfield 15, 3) := by decide +kernel
theorem dX7_readFact_107 : decode cX7_readFact 107 = .ok (.bipush 21, 2) := by decide +kernel
theorem dX7_readFact_109 : decode cX7_readFact 109 = .ok (.invokevirtual 92, 3) := by decide +kernel
theorem dX7_readFact_112 : decode cX7_readFact 112 = .ok (.ifCond .eq 7, 3) := by decide +kernel
theorem dX7_readFact_115 : decode cX7_readFact 115 = .ok (.iconst 1, 1) := by decide +kernel
theorem dX7_readFact_116 : decode cX7_readFact 116 = .ok (.goto 4, 3) := by decide +kernel
theorem dX7_readFact_119 : decode cX7_readFact 119 = .ok (.iconst 0, 1) := by decide +kernel
theorem dX7_readFact_120 : decode cX7_readFact 120 = .ok (.ireturn, 1) := by decide +kernel
theorem dX7_readFact_121 : decode cX7_readFact 121 = .ok (.aload_n 0, 1) := by decide +kernel
theorem dX7_readFact_122 : decode cX7_readFact 122 = .ok (.iload_n 1, 1) := by decide +kernel
theorem dX7_readFact_123 : decode cX7_readFact 123 = .ok (.iconst 1, 1) := by decide +kernel
theorem dX7_readFact_124 : decode cX7_readFact 124 = .ok (.iadd, 1) := by decide +kernel
theorem dX7_readFact_125 : decode cX7_readFact 125 = .ok (.invokevirtual 50, 3) := by decide +kernel
theorem dX7_readFact_128 : decode cX7_readFact 128 = .ok (.ifCond .eq 19, 3) := by decide +kernel
theorem dX7_readFact_131 : decode cX7_readFact 131 = .ok (.aload_n 0, 1) := by decide +kernel
theorem dX7_readFact_132 : decode cX7_readFact 132 = .ok (.getfield 9, 3) := by decide +kernel
theorem dX7_readFact_135 : decode cX7_readFact 135 = .ok (.bipush 93, 2) := by decide +kernel
theorem dX7_readFact_137 : decode cX7_readFact 137 = .ok (.invokevirtual 60, 3) := by decide +kernel
theorem dX7_readFact_140 : decode cX7_readFact 140 = .ok (.ifCond .eq 7, 3) := by decide +kernel
theorem dX7_readFact_143 : decode cX7_readFact 143 = .ok (.iconst 1, 1) := by decide +kernel
theorem dX7_readFact_144 : decode cX7_readFact 144 = .ok (.goto 4, 3) := by decide +kernel
theorem dX7_readFact_147 : decode cX7_readFact 147 = .ok (.iconst 0, 1) := by decide +kernel
theorem dX7_readFact_148 : decode cX7_readFact 148 = .ok (.ireturn, 1) := by decide +kernel
theorem dX7_readComparison_0 : decode cX7_readComparison 0 = .ok (.aload_n 0, 1) := by decide +kernel
theorem dX7_readComparison_1 : decode cX7_readComparison 1 = .ok (.aload_n 0, 1) := by decide +kernel
theorem dX7_readComparison_2 : decode cX7_readComparison 2 = .ok (.invokevirtual 113, 3) := by decide +kernel
theorem dX7_readComparison_5 : decode cX7_readComparison 5 = .ok (.putfield 110, 3) := by decide +kernel
theorem dX7_readComparison_8 : decode cX7_readComparison 8 = .ok (.aload_n 0, 1) := by decide +kernel
theorem dX7_readComparison_9 : decode cX7_readComparison 9 = .ok (.getfield 110, 3) := by decide +kernel
theorem dX7_readComparison_12 : decode cX7_readComparison 12 = .ok (.iconst (-1), 1) := by decide +kernel
theorem dX7_readComparison_13 : decode cX7_readComparison 13 = .ok (.if_icmp .ne 12, 3) := by decide +kernel
theorem dX7_readComparison_16 : decode cX7_readComparison 16 = .ok (.aload_n 0, 1) := by decide +kernel
theorem dX7_readComparison_17 : decode cX7_readComparison 17 = .ok (.getfield 9, 3) := by decide +kernel
theorem dX7_readComparison_20 : decode cX7_readComparison 20 = .ok (.iconst 0, 1) := by decide +kernel
theorem dX7_readComparison_21 : decode cX7_readComparison 21 = .ok (.invokevirtual 64, 3) := by decide +kernel
theorem dX7_readComparison_24 : decode cX7_readComparison 24 = .ok (.ireturn, 1) := by decide +kernel
theorem dX7_readComparison_25 : decode cX7_readComparison 25 = .ok (.aload_n 0, 1) := by decide +kernel
theorem dX7_readComparison_26 : decode cX7_readComparison 26 = .ok (.invokevirtual 116, 3) := by decide +kernel
theorem dX7_readComparison_29 : decode cX7_readComparison 29 = .ok (.ifCond .ne 5, 3) := by decide +kernel
theorem dX7_readComparison_32 : decode cX7_readComparison 32 = .ok (.iconst 0, 1) := by decide +kernel
theorem dX7_readComparison_33 : decode cX7_readComparison 33 = .ok (.ireturn, 1) := by decide +kernel
theorem dX7_readComparison_34 : decode cX7_readComparison 34 = .ok (.aload_n 0, 1) := by decide +kernel
theorem dX7_readComparison_35 : decode cX7_readComparison 35 = .ok (.getfield 9, 3) := by decide +kernel
theorem dX7_readComparison_38 : decode cX7_readComparison 38 = .ok (.invokevirtual 47, 3) := by decide +kernel
theorem dX7_readComparison_41 : decode cX7_readComparison 41 = .ok (.iconst 1, 1) := by decide +kernel
theorem dX7_readComparison_42 : decode cX7_readComparison 42 = .ok (.ireturn, 1) := by decide +kernel
theorem dX7_comparison_0 : decode cX7_comparison 0 = .ok (.aload_n 0, 1) := by decide +kernel
theorem dX7_comparison_1 : decode cX7_comparison 1 = .ok (.getfield 9, 3) := by decide +kernel
theorem dX7_comparison_4 : decode cX7_comparison 4 = .ok (.getfield 57, 3) := by decide +kernel
theorem dX7_comparison_7 : decode cX7_comparison 7 = .ok (.iconst 3, 1) := by decide +kernel
theorem dX7_comparison_8 : decode cX7_comparison 8 = .ok (.if_icmp .eq 5, 3) := by decide +kernel
theorem dX7_comparison_11 : decode cX7_comparison 11 = .ok (.iconst (-1), 1) := by decide +kernel
theorem dX7_comparison_12 : decode cX7_comparison 12 = .ok (.ireturn, 1) := by decide +kernel
theorem dX7_comparison_13 : decode cX7_comparison 13 = .ok (.aload_n 0, 1) := by decide +kernel
theorem dX7_comparison_14 : decode cX7_comparison 14 = .ok (.getfield 9, 3) := by decide +kernel
theorem dX7_comparison_17 : decode cX7_comparison 17 = .ok (.getfield 119, 3) := by decide +kernel
theorem dX7_comparison_20 : decode cX7_comparison 20 = .ok (.aload_n 0, 1) := by decide +kernel
theorem dX7_comparison_21 : decode cX7_comparison 21 = .ok (.getfield 9, 3) := by decide +kernel
theorem dX7_comparison_24 : decode cX7_comparison 24 = .ok (.getfield 121, 3) := by decide +kernel
theorem dX7_comparison_27 : decode cX7_comparison 27 = .ok (.isub, 1) := by decide +kernel
theorem dX7_comparison_28 : decode cX7_comparison 28 = .ok (.iconst 2, 1) := by decide +kernel
theorem dX7_comparison_29 : decode cX7_comparison 29 = .ok (.if_icmp .ne 7, 3) := by decide +kernel
theorem dX7_comparison_32 : decode cX7_comparison 32 = .ok (.iconst 1, 1) := by decide +kernel
theorem dX7_comparison_33 : decode cX7_comparison 33 = .ok (.goto 4, 3) := by decide +kernel
theorem dX7_comparison_36 : decode cX7_comparison 36 = .ok (.iconst 0, 1) := by decide +kernel
theorem dX7_comparison_37 : decode cX7_comparison 37 = .ok (.istore_n 1, 1) := by decide +kernel
theorem dX7_comparison_38 : decode cX7_comparison 38 = .ok (.aload_n 0, 1) := by decide +kernel
theorem dX7_comparison_39 : decode cX7_comparison 39 = .ok (.getfield 9, 3) := by decide +kernel
theorem dX7_comparison_42 : decode cX7_comparison 42 = .ok (.aload_n 0, 1) := by decide +kernel
theorem dX7_comparison_43 : decode cX7_comparison 43 = .ok (.getfield 9, 3) := by decide +kernel
theorem dX7_comparison_46 : decode cX7_comparison 46 = .ok (.getfield 121, 3) := by decide +kernel
theorem dX7_comparison_49 : decode cX7_comparison 49 = .ok (.invokevirtual 124, 3) := by decide +kernel
theorem dX7_comparison_52 : decode cX7_comparison 52 = .ok (.tableswitch 55 60 62 #[28, 52, 40], 28) := by decide +kernel
theorem dX7_comparison_80 : decode cX7_comparison 80 = .ok (.iload_n 1, 1) := by decide +kernel
theorem dX7_comparison_81 : decode cX7_comparison 81 = .ok (.ifCond .eq 8, 3) := by decide +kernel
theorem dX7_comparison_84 : decode cX7_comparison 84 = .ok (.bipush 15, 2) := by decide +kernel
theorem dX7_comparison_86 : decode cX7_comparison 86 = .ok (.goto 5, 3) := by decide +kernel
theorem dX7_comparison_89 : decode cX7_comparison 89 = .ok (.bipush 14, 2) := by decide +kernel
theorem dX7_comparison_91 : decode cX7_comparison 91 = .ok (.ireturn, 1) := by decide +kernel
theorem dX7_comparison_92 : decode cX7_comparison 92 = .ok (.iload_n 1, 1) := by decide +kernel
theorem dX7_comparison_93 : decode cX7_comparison 93 = .ok (.ifCond .eq 8, 3) := by decide +kernel
theorem dX7_comparison_96 : decode cX7_comparison 96 = .ok (.bipush 17, 2) := by decide +kernel
theorem dX7_comparison_98 : decode cX7_comparison 98 = .ok (.goto 5, 3) := by decide +kernel
theorem dX7_comparison_101 : decode cX7_comparison 101 = .ok (.bipush 18, 2) := by decide +kernel
theorem dX7_comparison_103 : decode cX7_comparison 103 = .ok (.ireturn, 1) := by decide +kernel
theorem dX7_comparison_104 : decode cX7_comparison 104 = .ok (.bipush 16, 2) := by decide +kernel
theorem dX7_comparison_106 : decode cX7_comparison 106 = .ok (.ireturn, 1) := by decide +kernel
theorem dX7_comparison_107 : decode cX7_comparison 107 = .ok (.iconst (-1), 1) := by decide +kernel
theorem dX7_comparison_108 : decode cX7_comparison 108 = .ok (.ireturn, 1) := by decide +kernel
theorem dX7_readSum_0 : decode cX7_readSum 0 = .ok (.iconst (-1), 1) := by decide +kernel
theorem dX7_readSum_1 : decode cX7_readSum 1 = .ok (.istore_n 1, 1) := by decide +kernel
theorem dX7_readSum_2 : decode cX7_readSum 2 = .ok (.iconst (-1), 1) := by decide +kernel
theorem dX7_readSum_3 : decode cX7_readSum 3 = .ok (.istore_n 2, 1) := by decide +kernel
theorem dX7_readSum_4 : decode cX7_readSum 4 = .ok (.iconst 0, 1) := by decide +kernel
theorem dX7_readSum_5 : decode cX7_readSum 5 = .ok (.istore_n 3, 1) := by decide +kernel
theorem dX7_readSum_6 : decode cX7_readSum 6 = .ok (.iload_n 3, 1) := by decide +kernel
theorem dX7_readSum_7 : decode cX7_readSum 7 = .ok (.sipush 400, 3) := by decide +kernel
theorem dX7_readSum_10 : decode cX7_readSum 10 = .ok (.if_icmp .ge 96, 3) := by decide +kernel
theorem dX7_readSum_13 : decode cX7_readSum 13 = .ok (.aload_n 0, 1) := by decide +kernel
theorem dX7_readSum_14 : decode cX7_readSum 14 = .ok (.invokevirtual 128, 3) := by decide +kernel
theorem dX7_readSum_17 : decode cX7_readSum 17 = .ok (.ifCond .ne 5, 3) := by decide +kernel
theorem dX7_readSum_20 : decode cX7_readSum 20 = .ok (.iconst 0, 1) := by decide +kernel
theorem dX7_readSum_21 : decode cX7_readSum 21 = .ok (.ireturn, 1) := by decide +kernel
theorem dX7_readSum_22 : decode cX7_readSum 22 = .ok (.iload_n 2, 1) := by decide +kernel
theorem dX7_readSum_23 : decode cX7_readSum 23 = .ok (.iconst (-1), 1) := by decide +kernel
theorem dX7_readSum_24 : decode cX7_readSum 24 = .ok (.if_icmp .eq 12, 3) := by decide +kernel
