theorem dX12_personOf_12 : decode cX12_personOf 12 = .ok (.iadd, 1) := by decide +kernel
theorem dX12_personOf_13 : decode cX12_personOf 13 = .ok (.iaload, 1) := by decide +kernel
theorem dX12_personOf_14 : decode cX12_personOf 14 = .ok (.ireturn, 1) := by decide +kernel
theorem dX12_begins_0 : decode cX12_begins 0 = .ok (.sipush 172, 3) := by decide +kernel
theorem dX12_begins_3 : decode cX12_begins 3 = .ok (.iconst 5, 1) := by decide +kernel
theorem dX12_begins_4 : decode cX12_begins 4 = .ok (.iload_n 1, 1) := by decide +kernel
theorem dX12_begins_5 : decode cX12_begins 5 = .ok (.imul, 1) := by decide +kernel
theorem dX12_begins_6 : decode cX12_begins 6 = .ok (.iadd, 1) := by decide +kernel
theorem dX12_begins_7 : decode cX12_begins 7 = .ok (.istore_n 3, 1) := by decide +kernel
theorem dX12_begins_8 : decode cX12_begins 8 = .ok (.aload_n 0, 1) := by decide +kernel
theorem dX12_begins_9 : decode cX12_begins 9 = .ok (.getfield 48, 3) := by decide +kernel
theorem dX12_begins_12 : decode cX12_begins 12 = .ok (.iload_n 3, 1) := by decide +kernel
theorem dX12_begins_13 : decode cX12_begins 13 = .ok (.iload_n 2, 1) := by decide +kernel
theorem dX12_begins_14 : decode cX12_begins 14 = .ok (.iastore, 1) := by decide +kernel
theorem dX12_begins_15 : decode cX12_begins 15 = .ok (.aload_n 0, 1) := by decide +kernel
theorem dX12_begins_16 : decode cX12_begins 16 = .ok (.getfield 48, 3) := by decide +kernel
theorem dX12_begins_19 : decode cX12_begins 19 = .ok (.iload_n 3, 1) := by decide +kernel
theorem dX12_begins_20 : decode cX12_begins 20 = .ok (.iconst 2, 1) := by decide +kernel
theorem dX12_begins_21 : decode cX12_begins 21 = .ok (.iadd, 1) := by decide +kernel
theorem dX12_begins_22 : decode cX12_begins 22 = .ok (.iconst 0, 1) := by decide +kernel
theorem dX12_begins_23 : decode cX12_begins 23 = .ok (.iastore, 1) := by decide +kernel
theorem dX12_begins_24 : decode cX12_begins 24 = .ok (.aload_n 0, 1) := by decide +kernel
theorem dX12_begins_25 : decode cX12_begins 25 = .ok (.getfield 48, 3) := by decide +kernel
theorem dX12_begins_28 : decode cX12_begins 28 = .ok (.iload_n 3, 1) := by decide +kernel
theorem dX12_begins_29 : decode cX12_begins 29 = .ok (.iconst 3, 1) := by decide +kernel
theorem dX12_begins_30 : decode cX12_begins 30 = .ok (.iadd, 1) := by decide +kernel
theorem dX12_begins_31 : decode cX12_begins 31 = .ok (.iconst (-1), 1) := by decide +kernel
theorem dX12_begins_32 : decode cX12_begins 32 = .ok (.iastore, 1) := by decide +kernel
theorem dX12_begins_33 : decode cX12_begins 33 = .ok (.aload_n 0, 1) := by decide +kernel
theorem dX12_begins_34 : decode cX12_begins 34 = .ok (.getfield 48, 3) := by decide +kernel
theorem dX12_begins_37 : decode cX12_begins 37 = .ok (.iload_n 3, 1) := by decide +kernel
theorem dX12_begins_38 : decode cX12_begins 38 = .ok (.iconst 4, 1) := by decide +kernel
theorem dX12_begins_39 : decode cX12_begins 39 = .ok (.iadd, 1) := by decide +kernel
theorem dX12_begins_40 : decode cX12_begins 40 = .ok (.iconst (-1), 1) := by decide +kernel
theorem dX12_begins_41 : decode cX12_begins 41 = .ok (.iastore, 1) := by decide +kernel
theorem dX12_begins_42 : decode cX12_begins 42 = .ok (.return_, 1) := by decide +kernel
theorem dX12_topRoom_0 : decode cX12_topRoom 0 = .ok (.iconst 0, 1) := by decide +kernel
theorem dX12_topRoom_1 : decode cX12_topRoom 1 = .ok (.istore_n 1, 1) := by decide +kernel
theorem dX12_topRoom_2 : decode cX12_topRoom 2 = .ok (.iconst 1, 1) := by decide +kernel
theorem dX12_topRoom_3 : decode cX12_topRoom 3 = .ok (.istore_n 2, 1) := by decide +kernel
theorem dX12_topRoom_4 : decode cX12_topRoom 4 = .ok (.iload_n 2, 1) := by decide +kernel
theorem dX12_topRoom_5 : decode cX12_topRoom 5 = .ok (.aload_n 0, 1) := by decide +kernel
theorem dX12_topRoom_6 : decode cX12_topRoom 6 = .ok (.getfield 48, 3) := by decide +kernel
theorem dX12_topRoom_9 : decode cX12_topRoom 9 = .ok (.iconst 0, 1) := by decide +kernel
theorem dX12_topRoom_10 : decode cX12_topRoom 10 = .ok (.iaload, 1) := by decide +kernel
theorem dX12_topRoom_11 : decode cX12_topRoom 11 = .ok (.if_icmp .ge 36, 3) := by decide +kernel
theorem dX12_topRoom_14 : decode cX12_topRoom 14 = .ok (.aload_n 0, 1) := by decide +kernel
theorem dX12_topRoom_15 : decode cX12_topRoom 15 = .ok (.getfield 48, 3) := by decide +kernel
theorem dX12_topRoom_18 : decode cX12_topRoom 18 = .ok (.bipush 12, 2) := by decide +kernel
theorem dX12_topRoom_20 : decode cX12_topRoom 20 = .ok (.iload_n 2, 1) := by decide +kernel
theorem dX12_topRoom_21 : decode cX12_topRoom 21 = .ok (.iadd, 1) := by decide +kernel
theorem dX12_topRoom_22 : decode cX12_topRoom 22 = .ok (.iaload, 1) := by decide +kernel
theorem dX12_topRoom_23 : decode cX12_topRoom 23 = .ok (.aload_n 0, 1) := by decide +kernel
theorem dX12_topRoom_24 : decode cX12_topRoom 24 = .ok (.getfield 48, 3) := by decide +kernel
theorem dX12_topRoom_27 : decode cX12_topRoom 27 = .ok (.bipush 12, 2) := by decide +kernel
theorem dX12_topRoom_29 : decode cX12_topRoom 29 = .ok (.iload_n 1, 1) := by decide +kernel
theorem dX12_topRoom_30 : decode cX12_topRoom 30 = .ok (.iadd, 1) := by decide +kernel
theorem dX12_topRoom_31 : decode cX12_topRoom 31 = .ok (.iaload, 1) := by decide +kernel
theorem dX12_topRoom_32 : decode cX12_topRoom 32 = .ok (.if_icmp .le 7, 3) := by decide +kernel
theorem dX12_topRoom_35 : decode cX12_topRoom 35 = .ok (.iload_n 2, 1) := by decide +kernel
theorem dX12_topRoom_36 : decode cX12_topRoom 36 = .ok (.goto 4, 3) := by decide +kernel
theorem dX12_topRoom_39 : decode cX12_topRoom 39 = .ok (.iload_n 1, 1) := by decide +kernel
theorem dX12_topRoom_40 : decode cX12_topRoom 40 = .ok (.istore_n 1, 1) := by decide +kernel
theorem dX12_topRoom_41 : decode cX12_topRoom 41 = .ok (.iinc 2 1, 3) := by decide +kernel
theorem dX12_topRoom_44 : decode cX12_topRoom 44 = .ok (.goto (-40), 3) := by decide +kernel
theorem dX12_topRoom_47 : decode cX12_topRoom 47 = .ok (.iload_n 1, 1) := by decide +kernel
theorem dX12_topRoom_48 : decode cX12_topRoom 48 = .ok (.ireturn, 1) := by decide +kernel
theorem dX12_inRoom_0 : decode cX12_inRoom 0 = .ok (.iconst 0, 1) := by decide +kernel
theorem dX12_inRoom_1 : decode cX12_inRoom 1 = .ok (.istore_n 2, 1) := by decide +kernel
theorem dX12_inRoom_2 : decode cX12_inRoom 2 = .ok (.iconst 0, 1) := by decide +kernel
theorem dX12_inRoom_3 : decode cX12_inRoom 3 = .ok (.istore_n 3, 1) := by decide +kernel
theorem dX12_inRoom_4 : decode cX12_inRoom 4 = .ok (.iload_n 3, 1) := by decide +kernel
theorem dX12_inRoom_5 : decode cX12_inRoom 5 = .ok (.aload_n 0, 1) := by decide +kernel
theorem dX12_inRoom_6 : decode cX12_inRoom 6 = .ok (.getfield 48, 3) := by decide +kernel
theorem dX12_inRoom_9 : decode cX12_inRoom 9 = .ok (.iconst 2, 1) := by decide +kernel
theorem dX12_inRoom_10 : decode cX12_inRoom 10 = .ok (.iaload, 1) := by decide +kernel
theorem dX12_inRoom_11 : decode cX12_inRoom 11 = .ok (.if_icmp .ge 29, 3) := by decide +kernel
theorem dX12_inRoom_14 : decode cX12_inRoom 14 = .ok (.iload_n 2, 1) := by decide +kernel
theorem dX12_inRoom_15 : decode cX12_inRoom 15 = .ok (.aload_n 0, 1) := by decide +kernel
theorem dX12_inRoom_16 : decode cX12_inRoom 16 = .ok (.iload_n 3, 1) := by decide +kernel
theorem dX12_inRoom_17 : decode cX12_inRoom 17 = .ok (.iconst 0, 1) := by decide +kernel
theorem dX12_inRoom_18 : decode cX12_inRoom 18 = .ok (.invokevirtual 318, 3) := by decide +kernel
theorem dX12_inRoom_21 : decode cX12_inRoom 21 = .ok (.iload_n 1, 1) := by decide +kernel
theorem dX12_inRoom_22 : decode cX12_inRoom 22 = .ok (.if_icmp .ne 9, 3) := by decide +kernel
theorem dX12_inRoom_25 : decode cX12_inRoom 25 = .ok (.iconst 1, 1) := by decide +kernel
theorem dX12_inRoom_26 : decode cX12_inRoom 26 = .ok (.iload_n 3, 1) := by decide +kernel
theorem dX12_inRoom_27 : decode cX12_inRoom 27 = .ok (.ishl, 1) := by decide +kernel
theorem dX12_inRoom_28 : decode cX12_inRoom 28 = .ok (.goto 4, 3) := by decide +kernel
theorem dX12_inRoom_31 : decode cX12_inRoom 31 = .ok (.iconst 0, 1) := by decide +kernel
theorem dX12_inRoom_32 : decode cX12_inRoom 32 = .ok (.ior, 1) := by decide +kernel
theorem dX12_inRoom_33 : decode cX12_inRoom 33 = .ok (.istore_n 2, 1) := by decide +kernel
theorem dX12_inRoom_34 : decode cX12_inRoom 34 = .ok (.iinc 3 1, 3) := by decide +kernel
theorem dX12_inRoom_37 : decode cX12_inRoom 37 = .ok (.goto (-33), 3) := by decide +kernel
theorem dX12_inRoom_40 : decode cX12_inRoom 40 = .ok (.iload_n 2, 1) := by decide +kernel
theorem dX12_inRoom_41 : decode cX12_inRoom 41 = .ok (.ireturn, 1) := by decide +kernel
theorem dX12_bits_0 : decode cX12_bits 0 = .ok (.iconst 0, 1) := by decide +kernel
theorem dX12_bits_1 : decode cX12_bits 1 = .ok (.istore_n 1, 1) := by decide +kernel
theorem dX12_bits_2 : decode cX12_bits 2 = .ok (.iload_n 0, 1) := by decide +kernel
theorem dX12_bits_3 : decode cX12_bits 3 = .ok (.istore_n 2, 1) := by decide +kernel
theorem dX12_bits_4 : decode cX12_bits 4 = .ok (.iload_n 2, 1) := by decide +kernel
theorem dX12_bits_5 : decode cX12_bits 5 = .ok (.ifCond .eq 15, 3) := by decide +kernel
theorem dX12_bits_8 : decode cX12_bits 8 = .ok (.iinc 1 1, 3) := by decide +kernel
theorem dX12_bits_11 : decode cX12_bits 11 = .ok (.iload_n 2, 1) := by decide +kernel
theorem dX12_bits_12 : decode cX12_bits 12 = .ok (.iload_n 2, 1) := by decide +kernel
theorem dX12_bits_13 : decode cX12_bits 13 = .ok (.iconst 1, 1) := by decide +kernel
theorem dX12_bits_14 : decode cX12_bits 14 = .ok (.isub, 1) := by decide +kernel
theorem dX12_bits_15 : decode cX12_bits 15 = .ok (.iand, 1) := by decide +kernel
theorem dX12_bits_16 : decode cX12_bits 16 = .ok (.istore_n 2, 1) := by decide +kernel
theorem dX12_bits_17 : decode cX12_bits 17 = .ok (.goto (-13), 3) := by decide +kernel
theorem dX12_bits_20 : decode cX12_bits 20 = .ok (.iload_n 1, 1) := by decide +kernel
theorem dX12_bits_21 : decode cX12_bits 21 = .ok (.ireturn, 1) := by decide +kernel
theorem dX12_endOf_0 : decode cX12_endOf 0 = .ok (.aload_n 0, 1) := by decide +kernel
theorem dX12_endOf_1 : decode cX12_endOf 1 = .ok (.iload_n 1, 1) := by decide +kernel
theorem dX12_endOf_2 : decode cX12_endOf 2 = .ok (.iconst 0, 1) := by decide +kernel
theorem dX12_endOf_3 : decode cX12_endOf 3 = .ok (.invokevirtual 322, 3) := by decide +kernel
theorem dX12_endOf_6 : decode cX12_endOf 6 = .ok (.iload_n 2, 1) := by decide +kernel
theorem dX12_endOf_7 : decode cX12_endOf 7 = .ok (.if_icmp .ne 10, 3) := by decide +kernel
theorem dX12_endOf_10 : decode cX12_endOf 10 = .ok (.aload_n 0, 1) := by decide +kernel
theorem dX12_endOf_11 : decode cX12_endOf 11 = .ok (.iload_n 1, 1) := by decide +kernel
theorem dX12_endOf_12 : decode cX12_endOf 12 = .ok (.iconst 1, 1) := by decide +kernel
theorem dX12_endOf_13 : decode cX12_endOf 13 = .ok (.invokevirtual 322, 3) := by decide +kernel
theorem dX12_endOf_16 : decode cX12_endOf 16 = .ok (.ireturn, 1) := by decide +kernel
theorem dX12_endOf_17 : decode cX12_endOf 17 = .ok (.aload_n 0, 1) := by decide +kernel
theorem dX12_endOf_18 : decode cX12_endOf 18 = .ok (.iload_n 1, 1) := by decide +kernel
theorem dX12_endOf_19 : decode cX12_endOf 19 = .ok (.iconst 3, 1) := by decide +kernel
theorem dX12_endOf_20 : decode cX12_endOf 20 = .ok (.invokevirtual 322, 3) := by decide +kernel
theorem dX12_endOf_23 : decode cX12_endOf 23 = .ok (.iconst 1, 1) := by decide +kernel
theorem dX12_endOf_24 : decode cX12_endOf 24 = .ok (.if_icmp .ne 22, 3) := by decide +kernel
theorem dX12_endOf_27 : decode cX12_endOf 27 = .ok (.aload_n 0, 1) := by decide +kernel
theorem dX12_endOf_28 : decode cX12_endOf 28 = .ok (.iload_n 1, 1) := by decide +kernel
theorem dX12_endOf_29 : decode cX12_endOf 29 = .ok (.iconst 1, 1) := by decide +kernel
theorem dX12_endOf_30 : decode cX12_endOf 30 = .ok (.invokevirtual 322, 3) := by decide +kernel
theorem dX12_endOf_33 : decode cX12_endOf 33 = .ok (.iload_n 2, 1) := by decide +kernel
theorem dX12_endOf_34 : decode cX12_endOf 34 = .ok (.if_icmp .ne 12, 3) := by decide +kernel
theorem dX12_endOf_37 : decode cX12_endOf 37 = .ok (.aload_n 0, 1) := by decide +kernel
theorem dX12_endOf_38 : decode cX12_endOf 38 = .ok (.iload_n 1, 1) := by decide +kernel
theorem dX12_endOf_39 : decode cX12_endOf 39 = .ok (.iconst 0, 1) := by decide +kernel
theorem dX12_endOf_40 : decode cX12_endOf 40 = .ok (.invokevirtual 322, 3) := by decide +kernel
theorem dX12_endOf_43 : decode cX12_endOf 43 = .ok (.goto 4, 3) := by decide +kernel
theorem dX12_endOf_46 : decode cX12_endOf 46 = .ok (.iconst (-1), 1) := by decide +kernel
theorem dX12_endOf_47 : decode cX12_endOf 47 = .ok (.ireturn, 1) := by decide +kernel
theorem dX12_isOpen_0 : decode cX12_isOpen 0 = .ok (.aload_n 0, 1) := by decide +kernel
theorem dX12_isOpen_1 : decode cX12_isOpen 1 = .ok (.iload_n 1, 1) := by decide +kernel
theorem dX12_isOpen_2 : decode cX12_isOpen 2 = .ok (.iconst 4, 1) := by decide +kernel
theorem dX12_isOpen_3 : decode cX12_isOpen 3 = .ok (.invokevirtual 322, 3) := by decide +kernel
theorem dX12_isOpen_6 : decode cX12_isOpen 6 = .ok (.ifCond .lt 25, 3) := by decide +kernel
theorem dX12_isOpen_9 : decode cX12_isOpen 9 = .ok (.iload_n 2, 1) := by decide +kernel
theorem dX12_isOpen_10 : decode cX12_isOpen 10 = .ok (.i2l, 1) := by decide +kernel
theorem dX12_isOpen_11 : decode cX12_isOpen 11 = .ok (.aload_n 0, 1) := by decide +kernel
theorem dX12_isOpen_12 : decode cX12_isOpen 12 = .ok (.iload_n 1, 1) := by decide +kernel
theorem dX12_isOpen_13 : decode cX12_isOpen 13 = .ok (.iconst 4, 1) := by decide +kernel
theorem dX12_isOpen_14 : decode cX12_isOpen 14 = .ok (.invokevirtual 322, 3) := by decide +kernel
theorem dX12_isOpen_17 : decode cX12_isOpen 17 = .ok (.i2l, 1) := by decide +kernel
theorem dX12_isOpen_18 : decode cX12_isOpen 18 = .ok (.aload_n 0, 1) := by decide +kernel
theorem dX12_isOpen_19 : decode cX12_isOpen 19 = .ok (.iload_n 1, 1) := by decide +kernel
theorem dX12_isOpen_20 : decode cX12_isOpen 20 = .ok (.iconst 5, 1) := by decide +kernel
theorem dX12_isOpen_21 : decode cX12_isOpen 21 = .ok (.invokevirtual 322, 3) := by decide +kernel
theorem dX12_isOpen_24 : decode cX12_isOpen 24 = .ok (.i2l, 1) := by decide +kernel
theorem dX12_isOpen_25 : decode cX12_isOpen 25 = .ok (.invokestatic 148, 3) := by decide +kernel
theorem dX12_isOpen_28 : decode cX12_isOpen 28 = .ok (.ifCond .eq 7, 3) := by decide +kernel
theorem dX12_isOpen_31 : decode cX12_isOpen 31 = .ok (.iconst 1, 1) := by decide +kernel
theorem dX12_isOpen_32 : decode cX12_isOpen 32 = .ok (.goto 4, 3) := by decide +kernel
theorem dX12_isOpen_35 : decode cX12_isOpen 35 = .ok (.iconst 0, 1) := by decide +kernel
theorem dX12_isOpen_36 : decode cX12_isOpen 36 = .ok (.ireturn, 1) := by decide +kernel
theorem dX12_room_0 : decode cX12_room 0 = .ok (.aload_n 0, 1) := by decide +kernel
theorem dX12_room_1 : decode cX12_room 1 = .ok (.iload_n 1, 1) := by decide +kernel
theorem dX12_room_2 : decode cX12_room 2 = .ok (.invokevirtual 325, 3) := by decide +kernel
theorem dX12_room_5 : decode cX12_room 5 = .ok (.ifCond .eq 15, 3) := by decide +kernel
theorem dX12_room_8 : decode cX12_room 8 = .ok (.iload_n 2, 1) := by decide +kernel
theorem dX12_room_9 : decode cX12_room 9 = .ok (.i2l, 1) := by decide +kernel
theorem dX12_room_10 : decode cX12_room 10 = .ok (.lconst 0, 1) := by decide +kernel
theorem dX12_room_11 : decode cX12_room 11 = .ok (.ldc2_w 328, 3) := by decide +kernel
theorem dX12_room_14 : decode cX12_room 14 = .ok (.invokestatic 148, 3) := by decide +kernel
theorem dX12_room_17 : decode cX12_room 17 = .ok (.ifCond .ne 5, 3) := by decide +kernel
theorem dX12_room_20 : decode cX12_room 20 = .ok (.iconst (-1), 1) := by decide +kernel
theorem dX12_room_21 : decode cX12_room 21 = .ok (.ireturn, 1) := by decide +kernel
theorem dX12_room_22 : decode cX12_room 22 = .ok (.iload_n 2, 1) := by decide +kernel
theorem dX12_room_23 : decode cX12_room 23 = .ok (.ifCond .ne 15, 3) := by decide +kernel
theorem dX12_room_26 : decode cX12_room 26 = .ok (.aload_n 0, 1) := by decide +kernel
theorem dX12_room_27 : decode cX12_room 27 = .ok (.getfield 48, 3) := by decide +kernel
theorem dX12_room_30 : decode cX12_room 30 = .ok (.bipush 12, 2) := by decide +kernel
theorem dX12_room_32 : decode cX12_room 32 = .ok (.iload_n 1, 1) := by decide +kernel
theorem dX12_room_33 : decode cX12_room 33 = .ok (.iadd, 1) := by decide +kernel
theorem dX12_room_34 : decode cX12_room 34 = .ok (.iaload, 1) := by decide +kernel
theorem dX12_room_35 : decode cX12_room 35 = .ok (.goto 29, 3) := by decide +kernel
theorem dX12_room_38 : decode cX12_room 38 = .ok (.iload_n 2, 1) := by decide +kernel
theorem dX12_room_39 : decode cX12_room 39 = .ok (.iconst 1, 1) := by decide +kernel
theorem dX12_room_40 : decode cX12_room 40 = .ok (.if_icmp .ne 11, 3) := by decide +kernel
theorem dX12_room_43 : decode cX12_room 43 = .ok (.aload_n 0, 1) := by decide +kernel
theorem dX12_room_44 : decode cX12_room 44 = .ok (.iload_n 1, 1) := by decide +kernel
theorem dX12_room_45 : decode cX12_room 45 = .ok (.invokevirtual 330, 3) := by decide +kernel
theorem dX12_room_48 : decode cX12_room 48 = .ok (.goto 16, 3) := by decide +kernel
theorem dX12_room_51 : decode cX12_room 51 = .ok (.aload_n 0, 1) := by decide +kernel
theorem dX12_room_52 : decode cX12_room 52 = .ok (.invokevirtual 333, 3) := by decide +kernel
theorem dX12_room_55 : decode cX12_room 55 = .ok (.iload_n 1, 1) := by decide +kernel
theorem dX12_room_56 : decode cX12_room 56 = .ok (.if_icmp .ne 7, 3) := by decide +kernel
theorem dX12_room_59 : decode cX12_room 59 = .ok (.iconst 1, 1) := by decide +kernel
theorem dX12_room_60 : decode cX12_room 60 = .ok (.goto 4, 3) := by decide +kernel
theorem dX12_room_63 : decode cX12_room 63 = .ok (.iconst 0, 1) := by decide +kernel
theorem dX12_room_64 : decode cX12_room 64 = .ok (.ireturn, 1) := by decide +kernel
theorem dX12_way_0 : decode cX12_way 0 = .ok (.aload_n 0, 1) := by decide +kernel
theorem dX12_way_1 : decode cX12_way 1 = .ok (.iload_n 1, 1) := by decide +kernel
theorem dX12_way_2 : decode cX12_way 2 = .ok (.invokevirtual 336, 3) := by decide +kernel
theorem dX12_way_5 : decode cX12_way 5 = .ok (.ifCond .eq 24, 3) := by decide +kernel
theorem dX12_way_8 : decode cX12_way 8 = .ok (.iload_n 2, 1) := by decide +kernel
theorem dX12_way_9 : decode cX12_way 9 = .ok (.i2l, 1) := by decide +kernel
theorem dX12_way_10 : decode cX12_way 10 = .ok (.lconst 0, 1) := by decide +kernel
theorem dX12_way_11 : decode cX12_way 11 = .ok (.ldc2_w 339, 3) := by decide +kernel
theorem dX12_way_14 : decode cX12_way 14 = .ok (.invokestatic 148, 3) := by decide +kernel
theorem dX12_way_17 : decode cX12_way 17 = .ok (.ifCond .eq 12, 3) := by decide +kernel
theorem dX12_way_20 : decode cX12_way 20 = .ok (.aload_n 0, 1) := by decide +kernel
theorem dX12_way_21 : decode cX12_way 21 = .ok (.iload_n 1, 1) := by decide +kernel
theorem dX12_way_22 : decode cX12_way 22 = .ok (.iload_n 2, 1) := by decide +kernel
theorem dX12_way_23 : decode cX12_way 23 = .ok (.invokevirtual 322, 3) := by decide +kernel
theorem dX12_way_26 : decode cX12_way 26 = .ok (.goto 5, 3) := by decide +kernel
theorem dX12_way_29 : decode cX12_way 29 = .ok (.bipush (-2), 2) := by decide +kernel
theorem dX12_way_31 : decode cX12_way 31 = .ok (.ireturn, 1) := by decide +kernel
theorem dX12_person_0 : decode cX12_person 0 = .ok (.aload_n 0, 1) := by decide +kernel
theorem dX12_person_1 : decode cX12_person 1 = .ok (.iload_n 1, 1) := by decide +kernel
theorem dX12_person_2 : decode cX12_person 2 = .ok (.invokevirtual 341, 3) := by decide +kernel
theorem dX12_person_5 : decode cX12_person 5 = .ok (.ifCond .eq 15, 3) := by decide +kernel
theorem dX12_person_8 : decode cX12_person 8 = .ok (.iload_n 2, 1) := by decide +kernel
theorem dX12_person_9 : decode cX12_person 9 = .ok (.i2l, 1) := by decide +kernel
theorem dX12_person_10 : decode cX12_person 10 = .ok (.lconst 0, 1) := by decide +kernel
theorem dX12_person_11 : decode cX12_person 11 = .ok (.ldc2_w 344, 3) := by decide +kernel
theorem dX12_person_14 : decode cX12_person 14 = .ok (.invokestatic 148, 3) := by decide +kernel
theorem dX12_person_17 : decode cX12_person 17 = .ok (.ifCond .ne 6, 3) := by decide +kernel
theorem dX12_person_20 : decode cX12_person 20 = .ok (.bipush (-2), 2) := by decide +kernel
theorem dX12_person_22 : decode cX12_person 22 = .ok (.ireturn, 1) := by decide +kernel
theorem dX12_person_23 : decode cX12_person 23 = .ok (.iload_n 2, 1) := by decide +kernel
theorem dX12_person_24 : decode cX12_person 24 = .ok (.iconst 2, 1) := by decide +kernel
theorem dX12_person_25 : decode cX12_person 25 = .ok (.if_icmp .ne 19, 3) := by decide +kernel
theorem dX12_person_28 : decode cX12_person 28 = .ok (.aload_n 0, 1) := by decide +kernel
theorem dX12_person_29 : decode cX12_person 29 = .ok (.iload_n 1, 1) := by decide +kernel
theorem dX12_person_30 : decode cX12_person 30 = .ok (.invokevirtual 346, 3) := by decide +kernel
theorem dX12_person_33 : decode cX12_person 33 = .ok (.ifCond .eq 7, 3) := by decide +kernel
theorem dX12_person_36 : decode cX12_person 36 = .ok (.iconst 1, 1) := by decide +kernel
theorem dX12_person_37 : decode cX12_person 37 = .ok (.goto 13, 3) := by decide +kernel
theorem dX12_person_40 : decode cX12_person 40 = .ok (.iconst 0, 1) := by decide +kernel
theorem dX12_person_41 : decode cX12_person 41 = .ok (.goto 9, 3) := by decide +kernel
theorem dX12_person_44 : decode cX12_person 44 = .ok (.aload_n 0, 1) := by decide +kernel
theorem dX12_person_45 : decode cX12_person 45 = .ok (.iload_n 1, 1) := by decide +kernel
theorem dX12_person_46 : decode cX12_person 46 = .ok (.iload_n 2, 1) := by decide +kernel
theorem dX12_person_47 : decode cX12_person 47 = .ok (.invokevirtual 318, 3) := by decide +kernel
theorem dX12_person_50 : decode cX12_person 50 = .ok (.ireturn, 1) := by decide +kernel
theorem dX12_setsOff_0 : decode cX12_setsOff 0 = .ok (.sipush 172, 3) := by decide +kernel
theorem dX12_setsOff_3 : decode cX12_setsOff 3 = .ok (.iconst 5, 1) := by decide +kernel
theorem dX12_setsOff_4 : decode cX12_setsOff 4 = .ok (.iload_n 1, 1) := by decide +kernel
theorem dX12_setsOff_5 : decode cX12_setsOff 5 = .ok (.imul, 1) := by decide +kernel
theorem dX12_setsOff_6 : decode cX12_setsOff 6 = .ok (.iadd, 1) := by decide +kernel
theorem dX12_setsOff_7 : decode cX12_setsOff 7 = .ok (.istore 4, 2) := by decide +kernel
theorem dX12_setsOff_9 : decode cX12_setsOff 9 = .ok (.aload_n 0, 1) := by decide +kernel
theorem dX12_setsOff_10 : decode cX12_setsOff 10 = .ok (.getfield 48, 3) := by decide +kernel
theorem dX12_setsOff_13 : decode cX12_setsOff 13 = .ok (.iload 4, 2) := by decide +kernel
theorem dX12_setsOff_15 : decode cX12_setsOff 15 = .ok (.iconst (-1), 1) := by decide +kernel
theorem dX12_setsOff_16 : decode cX12_setsOff 16 = .ok (.iastore, 1) := by decide +kernel
theorem dX12_setsOff_17 : decode cX12_setsOff 17 = .ok (.aload_n 0, 1) := by decide +kernel
theorem dX12_setsOff_18 : decode cX12_setsOff 18 = .ok (.getfield 48, 3) := by decide +kernel
theorem dX12_setsOff_21 : decode cX12_setsOff 21 = .ok (.iload 4, 2) := by decide +kernel
theorem dX12_setsOff_23 : decode cX12_setsOff 23 = .ok (.iconst 3, 1) := by decide +kernel
theorem dX12_setsOff_24 : decode cX12_setsOff 24 = .ok (.iadd, 1) := by decide +kernel
theorem dX12_setsOff_25 : decode cX12_setsOff 25 = .ok (.iload_n 2, 1) := by decide +kernel
theorem dX12_setsOff_26 : decode cX12_setsOff 26 = .ok (.iastore, 1) := by decide +kernel
theorem dX12_setsOff_27 : decode cX12_setsOff 27 = .ok (.aload_n 0, 1) := by decide +kernel
theorem dX12_setsOff_28 : decode cX12_setsOff 28 = .ok (.getfield 48, 3) := by decide +kernel
theorem dX12_setsOff_31 : decode cX12_setsOff 31 = .ok (.iload 4, 2) := by decide +kernel
theorem dX12_setsOff_33 : decode cX12_setsOff 33 = .ok (.iconst 4, 1) := by decide +kernel
theorem dX12_setsOff_34 : decode cX12_setsOff 34 = .ok (.iadd, 1) := by decide +kernel
theorem dX12_setsOff_35 : decode cX12_setsOff 35 = .ok (.aload_n 0, 1) := by decide +kernel
theorem dX12_setsOff_36 : decode cX12_setsOff 36 = .ok (.getfield 48, 3) := by decide +kernel
theorem dX12_setsOff_39 : decode cX12_setsOff 39 = .ok (.iconst 3, 1) := by decide +kernel
theorem dX12_setsOff_40 : decode cX12_setsOff 40 = .ok (.iaload, 1) := by decide +kernel
theorem dX12_setsOff_41 : decode cX12_setsOff 41 = .ok (.iload_n 3, 1) := by decide +kernel
theorem dX12_setsOff_42 : decode cX12_setsOff 42 = .ok (.iadd, 1) := by decide +kernel
theorem dX12_setsOff_43 : decode cX12_setsOff 43 = .ok (.iastore, 1) := by decide +kernel
theorem dX12_setsOff_44 : decode cX12_setsOff 44 = .ok (.return_, 1) := by decide +kernel
theorem dX12_riding_0 : decode cX12_riding 0 = .ok (.iconst 0, 1) := by decide +kernel
theorem dX12_riding_1 : decode cX12_riding 1 = .ok (.istore_n 1, 1) := by decide +kernel
theorem dX12_riding_2 : decode cX12_riding 2 = .ok (.iconst 0, 1) := by decide +kernel
theorem dX12_riding_3 : decode cX12_riding 3 = .ok (.istore_n 2, 1) := by decide +kernel
theorem dX12_riding_4 : decode cX12_riding 4 = .ok (.iload_n 2, 1) := by decide +kernel
theorem dX12_riding_5 : decode cX12_riding 5 = .ok (.aload_n 0, 1) := by decide +kernel
theorem dX12_riding_6 : decode cX12_riding 6 = .ok (.getfield 48, 3) := by decide +kernel
theorem dX12_riding_9 : decode cX12_riding 9 = .ok (.iconst 2, 1) := by decide +kernel
theorem dX12_riding_10 : decode cX12_riding 10 = .ok (.iaload, 1) := by decide +kernel
theorem dX12_riding_11 : decode cX12_riding 11 = .ok (.if_icmp .ge 34, 3) := by decide +kernel
theorem dX12_riding_14 : decode cX12_riding 14 = .ok (.iload_n 1, 1) := by decide +kernel
theorem dX12_riding_15 : decode cX12_riding 15 = .ok (.aload_n 0, 1) := by decide +kernel
theorem dX12_riding_16 : decode cX12_riding 16 = .ok (.iload_n 2, 1) := by decide +kernel
theorem dX12_riding_17 : decode cX12_riding 17 = .ok (.iconst 2, 1) := by decide +kernel
theorem dX12_riding_18 : decode cX12_riding 18 = .ok (.invokevirtual 318, 3) := by decide +kernel
theorem dX12_riding_21 : decode cX12_riding 21 = .ok (.aload_n 0, 1) := by decide +kernel
theorem dX12_riding_22 : decode cX12_riding 22 = .ok (.getfield 48, 3) := by decide +kernel
theorem dX12_riding_25 : decode cX12_riding 25 = .ok (.iconst 3, 1) := by decide +kernel
theorem dX12_riding_26 : decode cX12_riding 26 = .ok (.iaload, 1) := by decide +kernel
theorem dX12_riding_27 : decode cX12_riding 27 = .ok (.iconst 1, 1) := by decide +kernel
theorem dX12_riding_28 : decode cX12_riding 28 = .ok (.iadd, 1) := by decide +kernel
theorem dX12_riding_29 : decode cX12_riding 29 = .ok (.if_icmp .ne 7, 3) := by decide +kernel
theorem dX12_riding_32 : decode cX12_riding 32 = .ok (.iconst 1, 1) := by decide +kernel
theorem dX12_riding_33 : decode cX12_riding 33 = .ok (.goto 4, 3) := by decide +kernel
theorem dX12_riding_36 : decode cX12_riding 36 = .ok (.iconst 0, 1) := by decide +kernel
theorem dX12_riding_37 : decode cX12_riding 37 = .ok (.iadd, 1) := by decide +kernel
theorem dX12_riding_38 : decode cX12_riding 38 = .ok (.istore_n 1, 1) := by decide +kernel
theorem dX12_riding_39 : decode cX12_riding 39 = .ok (.iinc 2 1, 3) := by decide +kernel
theorem dX12_riding_42 : decode cX12_riding 42 = .ok (.goto (-38), 3) := by decide +kernel
theorem dX12_riding_45 : decode cX12_riding 45 = .ok (.iload_n 1, 1) := by decide +kernel
theorem dX12_riding_46 : decode cX12_riding 46 = .ok (.ireturn, 1) := by decide +kernel
theorem dX12_takes_0 : decode cX12_takes 0 = .ok (.aload_n 0, 1) := by decide +kernel
theorem dX12_takes_1 : decode cX12_takes 1 = .ok (.iload_n 2, 1) := by decide +kernel
theorem dX12_takes_2 : decode cX12_takes 2 = .ok (.invokevirtual 336, 3) := by decide +kernel
theorem dX12_takes_5 : decode cX12_takes 5 = .ok (.ifCond .eq 31, 3) := by decide +kernel
theorem dX12_takes_8 : decode cX12_takes 8 = .ok (.aload_n 0, 1) := by decide +kernel
theorem dX12_takes_9 : decode cX12_takes 9 = .ok (.iload_n 2, 1) := by decide +kernel
theorem dX12_takes_10 : decode cX12_takes 10 = .ok (.aload_n 0, 1) := by decide +kernel
theorem dX12_takes_11 : decode cX12_takes 11 = .ok (.iload_n 1, 1) := by decide +kernel
theorem dX12_takes_12 : decode cX12_takes 12 = .ok (.iconst 0, 1) := by decide +kernel
theorem dX12_takes_13 : decode cX12_takes 13 = .ok (.invokevirtual 318, 3) := by decide +kernel
theorem dX12_takes_16 : decode cX12_takes 16 = .ok (.invokevirtual 349, 3) := by decide +kernel
theorem dX12_takes_19 : decode cX12_takes 19 = .ok (.ifCond .lt 17, 3) := by decide +kernel
theorem dX12_takes_22 : decode cX12_takes 22 = .ok (.aload_n 0, 1) := by decide +kernel
theorem dX12_takes_23 : decode cX12_takes 23 = .ok (.iload_n 2, 1) := by decide +kernel
theorem dX12_takes_24 : decode cX12_takes 24 = .ok (.aload_n 0, 1) := by decide +kernel
theorem dX12_takes_25 : decode cX12_takes 25 = .ok (.getfield 48, 3) := by decide +kernel
theorem dX12_takes_28 : decode cX12_takes 28 = .ok (.iconst 3, 1) := by decide +kernel
theorem dX12_takes_29 : decode cX12_takes 29 = .ok (.iaload, 1) := by decide +kernel
theorem dX12_takes_30 : decode cX12_takes 30 = .ok (.invokevirtual 352, 3) := by decide +kernel
theorem dX12_takes_33 : decode cX12_takes 33 = .ok (.ifCond .ne 5, 3) := by decide +kernel
theorem dX12_takes_36 : decode cX12_takes 36 = .ok (.iconst 0, 1) := by decide +kernel
theorem dX12_takes_37 : decode cX12_takes 37 = .ok (.ireturn, 1) := by decide +kernel
theorem dX12_takes_38 : decode cX12_takes 38 = .ok (.aload_n 0, 1) := by decide +kernel
theorem dX12_takes_39 : decode cX12_takes 39 = .ok (.iload_n 1, 1) := by decide +kernel
theorem dX12_takes_40 : decode cX12_takes 40 = .ok (.aload_n 0, 1) := by decide +kernel
theorem dX12_takes_41 : decode cX12_takes 41 = .ok (.iload_n 2, 1) := by decide +kernel
theorem dX12_takes_42 : decode cX12_takes 42 = .ok (.aload_n 0, 1) := by decide +kernel
theorem dX12_takes_43 : decode cX12_takes 43 = .ok (.iload_n 1, 1) := by decide +kernel
theorem dX12_takes_44 : decode cX12_takes 44 = .ok (.iconst 0, 1) := by decide +kernel
theorem dX12_takes_45 : decode cX12_takes 45 = .ok (.invokevirtual 318, 3) := by decide +kernel
theorem dX12_takes_48 : decode cX12_takes 48 = .ok (.invokevirtual 349, 3) := by decide +kernel
theorem dX12_takes_51 : decode cX12_takes 51 = .ok (.aload_n 0, 1) := by decide +kernel
theorem dX12_takes_52 : decode cX12_takes 52 = .ok (.iload_n 2, 1) := by decide +kernel
theorem dX12_takes_53 : decode cX12_takes 53 = .ok (.iconst 2, 1) := by decide +kernel
theorem dX12_takes_54 : decode cX12_takes 54 = .ok (.invokevirtual 322, 3) := by decide +kernel
theorem dX12_takes_57 : decode cX12_takes 57 = .ok (.invokevirtual 355, 3) := by decide +kernel
theorem dX12_takes_60 : decode cX12_takes 60 = .ok (.iconst 1, 1) := by decide +kernel
theorem dX12_takes_61 : decode cX12_takes 61 = .ok (.ireturn, 1) := by decide +kernel
theorem dX12_ridesUp_0 : decode cX12_ridesUp 0 = .ok (.aload_n 0, 1) := by decide +kernel
theorem dX12_ridesUp_1 : decode cX12_ridesUp 1 = .ok (.getfield 48, 3) := by decide +kernel
theorem dX12_ridesUp_4 : decode cX12_ridesUp 4 = .ok (.iconst 4, 1) := by decide +kernel
theorem dX12_ridesUp_5 : decode cX12_ridesUp 5 = .ok (.iaload, 1) := by decide +kernel
theorem dX12_ridesUp_6 : decode cX12_ridesUp 6 = .ok (.ifCond .eq 41, 3) := by decide +kernel
theorem dX12_ridesUp_9 : decode cX12_ridesUp 9 = .ok (.aload_n 0, 1) := by decide +kernel
theorem dX12_ridesUp_10 : decode cX12_ridesUp 10 = .ok (.getfield 48, 3) := by decide +kernel
theorem dX12_ridesUp_13 : decode cX12_ridesUp 13 = .ok (.iconst 3, 1) := by decide +kernel
theorem dX12_ridesUp_14 : decode cX12_ridesUp 14 = .ok (.iaload, 1) := by decide +kernel
theorem dX12_ridesUp_15 : decode cX12_ridesUp 15 = .ok (.aload_n 0, 1) := by decide +kernel
theorem dX12_ridesUp_16 : decode cX12_ridesUp 16 = .ok (.getfield 48, 3) := by decide +kernel
theorem dX12_ridesUp_19 : decode cX12_ridesUp 19 = .ok (.bipush 6, 2) := by decide +kernel
theorem dX12_ridesUp_21 : decode cX12_ridesUp 21 = .ok (.iaload, 1) := by decide +kernel
theorem dX12_ridesUp_22 : decode cX12_ridesUp 22 = .ok (.irem, 1) := by decide +kernel
theorem dX12_ridesUp_23 : decode cX12_ridesUp 23 = .ok (.ifCond .ne 24, 3) := by decide +kernel
theorem dX12_ridesUp_26 : decode cX12_ridesUp 26 = .ok (.aload_n 0, 1) := by decide +kernel
theorem dX12_ridesUp_27 : decode cX12_ridesUp 27 = .ok (.iload_n 1, 1) := by decide +kernel
theorem dX12_ridesUp_28 : decode cX12_ridesUp 28 = .ok (.invokevirtual 346, 3) := by decide +kernel
theorem dX12_ridesUp_31 : decode cX12_ridesUp 31 = .ok (.ifCond .ne 16, 3) := by decide +kernel
theorem dX12_ridesUp_34 : decode cX12_ridesUp 34 = .ok (.aload_n 0, 1) := by decide +kernel
theorem dX12_ridesUp_35 : decode cX12_ridesUp 35 = .ok (.invokevirtual 359, 3) := by decide +kernel
theorem dX12_ridesUp_38 : decode cX12_ridesUp 38 = .ok (.aload_n 0, 1) := by decide +kernel
theorem dX12_ridesUp_39 : decode cX12_ridesUp 39 = .ok (.getfield 48, 3) := by decide +kernel
theorem dX12_ridesUp_42 : decode cX12_ridesUp 42 = .ok (.iconst 5, 1) := by decide +kernel
theorem dX12_ridesUp_43 : decode cX12_ridesUp 43 = .ok (.iaload, 1) := by decide +kernel
theorem dX12_ridesUp_44 : decode cX12_ridesUp 44 = .ok (.if_icmp .ne 5, 3) := by decide +kernel
theorem dX12_ridesUp_47 : decode cX12_ridesUp 47 = .ok (.iconst 0, 1) := by decide +kernel
theorem dX12_ridesUp_48 : decode cX12_ridesUp 48 = .ok (.ireturn, 1) := by decide +kernel
theorem dX12_ridesUp_49 : decode cX12_ridesUp 49 = .ok (.aload_n 0, 1) := by decide +kernel
theorem dX12_ridesUp_50 : decode cX12_ridesUp 50 = .ok (.iload_n 1, 1) := by decide +kernel
theorem dX12_ridesUp_51 : decode cX12_ridesUp 51 = .ok (.aload_n 0, 1) := by decide +kernel
theorem dX12_ridesUp_52 : decode cX12_ridesUp 52 = .ok (.invokevirtual 333, 3) := by decide +kernel
theorem dX12_ridesUp_55 : decode cX12_ridesUp 55 = .ok (.aload_n 0, 1) := by decide +kernel
theorem dX12_ridesUp_56 : decode cX12_ridesUp 56 = .ok (.getfield 48, 3) := by decide +kernel
theorem dX12_ridesUp_59 : decode cX12_ridesUp 59 = .ok (.iconst 4, 1) := by decide +kernel
theorem dX12_ridesUp_60 : decode cX12_ridesUp 60 = .ok (.iaload, 1) := by decide +kernel
theorem dX12_ridesUp_61 : decode cX12_ridesUp 61 = .ok (.invokevirtual 355, 3) := by decide +kernel
theorem dX12_ridesUp_64 : decode cX12_ridesUp 64 = .ok (.aload_n 0, 1) := by decide +kernel
theorem dX12_ridesUp_65 : decode cX12_ridesUp 65 = .ok (.getfield 48, 3) := by decide +kernel
theorem dX12_ridesUp_68 : decode cX12_ridesUp 68 = .ok (.sipush 172, 3) := by decide +kernel
theorem dX12_ridesUp_71 : decode cX12_ridesUp 71 = .ok (.iconst 5, 1) := by decide +kernel
theorem dX12_ridesUp_72 : decode cX12_ridesUp 72 = .ok (.iload_n 1, 1) := by decide +kernel
theorem dX12_ridesUp_73 : decode cX12_ridesUp 73 = .ok (.imul, 1) := by decide +kernel
theorem dX12_ridesUp_74 : decode cX12_ridesUp 74 = .ok (.iadd, 1) := by decide +kernel
theorem dX12_ridesUp_75 : decode cX12_ridesUp 75 = .ok (.iconst 2, 1) := by decide +kernel
theorem dX12_ridesUp_76 : decode cX12_ridesUp 76 = .ok (.iadd, 1) := by decide +kernel
theorem dX12_ridesUp_77 : decode cX12_ridesUp 77 = .ok (.aload_n 0, 1) := by decide +kernel
theorem dX12_ridesUp_78 : decode cX12_ridesUp 78 = .ok (.getfield 48, 3) := by decide +kernel
theorem dX12_ridesUp_81 : decode cX12_ridesUp 81 = .ok (.iconst 3, 1) := by decide +kernel
theorem dX12_ridesUp_82 : decode cX12_ridesUp 82 = .ok (.iaload, 1) := by decide +kernel
theorem dX12_ridesUp_83 : decode cX12_ridesUp 83 = .ok (.iconst 1, 1) := by decide +kernel
theorem dX12_ridesUp_84 : decode cX12_ridesUp 84 = .ok (.iadd, 1) := by decide +kernel
theorem dX12_ridesUp_85 : decode cX12_ridesUp 85 = .ok (.iastore, 1) := by decide +kernel
theorem dX12_ridesUp_86 : decode cX12_ridesUp 86 = .ok (.iconst 1, 1) := by decide +kernel
theorem dX12_ridesUp_87 : decode cX12_ridesUp 87 = .ok (.ireturn, 1) := by decide +kernel
theorem dX12_ridden_0 : decode cX12_ridden 0 = .ok (.aload_n 0, 1) := by decide +kernel
theorem dX12_ridden_1 : decode cX12_ridden 1 = .ok (.iload_n 1, 1) := by decide +kernel
theorem dX12_ridden_2 : decode cX12_ridden 2 = .ok (.iconst 2, 1) := by decide +kernel
theorem dX12_ridden_3 : decode cX12_ridden 3 = .ok (.invokevirtual 318, 3) := by decide +kernel
theorem dX12_ridden_6 : decode cX12_ridden 6 = .ok (.ifCond .le 7, 3) := by decide +kernel
theorem dX12_ridden_9 : decode cX12_ridden 9 = .ok (.iconst 1, 1) := by decide +kernel
theorem dX12_ridden_10 : decode cX12_ridden 10 = .ok (.goto 4, 3) := by decide +kernel
theorem dX12_ridden_13 : decode cX12_ridden 13 = .ok (.iconst 0, 1) := by decide +kernel
theorem dX12_ridden_14 : decode cX12_ridden 14 = .ok (.ireturn, 1) := by decide +kernel
theorem dX12_go_0 : decode cX12_go 0 = .ok (.aload_n 0, 1) := by decide +kernel
theorem dX12_go_1 : decode cX12_go 1 = .ok (.iload_n 1, 1) := by decide +kernel
theorem dX12_go_2 : decode cX12_go 2 = .ok (.invokevirtual 341, 3) := by decide +kernel
theorem dX12_go_5 : decode cX12_go 5 = .ok (.ifCond .eq 24, 3) := by decide +kernel
theorem dX12_go_8 : decode cX12_go 8 = .ok (.aload_n 0, 1) := by decide +kernel
theorem dX12_go_9 : decode cX12_go 9 = .ok (.iload_n 1, 1) := by decide +kernel
theorem dX12_go_10 : decode cX12_go 10 = .ok (.iconst 0, 1) := by decide +kernel
theorem dX12_go_11 : decode cX12_go 11 = .ok (.invokevirtual 318, 3) := by decide +kernel
theorem dX12_go_14 : decode cX12_go 14 = .ok (.ifCond .lt 15, 3) := by decide +kernel
theorem dX12_go_17 : decode cX12_go 17 = .ok (.aload_n 0, 1) := by decide +kernel
theorem dX12_go_18 : decode cX12_go 18 = .ok (.getfield 48, 3) := by decide +kernel
theorem dX12_go_21 : decode cX12_go 21 = .ok (.iconst 3, 1) := by decide +kernel
theorem dX12_go_22 : decode cX12_go 22 = .ok (.iaload, 1) := by decide +kernel
theorem dX12_go_23 : decode cX12_go 23 = .ok (.sipush 1440, 3) := by decide +kernel
theorem dX12_go_26 : decode cX12_go 26 = .ok (.if_icmp .ne 5, 3) := by decide +kernel
theorem dX12_go_29 : decode cX12_go 29 = .ok (.iconst 0, 1) := by decide +kernel
theorem dX12_go_30 : decode cX12_go 30 = .ok (.ireturn, 1) := by decide +kernel
theorem dX12_go_31 : decode cX12_go 31 = .ok (.iload_n 2, 1) := by decide +kernel
theorem dX12_go_32 : decode cX12_go 32 = .ok (.bipush 24, 2) := by decide +kernel
theorem dX12_go_34 : decode cX12_go 34 = .ok (.if_icmp .ne 11, 3) := by decide +kernel
theorem dX12_go_37 : decode cX12_go 37 = .ok (.aload_n 0, 1) := by decide +kernel
theorem dX12_go_38 : decode cX12_go 38 = .ok (.iload_n 1, 1) := by decide +kernel
theorem dX12_go_39 : decode cX12_go 39 = .ok (.invokevirtual 362, 3) := by decide +kernel
theorem dX12_go_42 : decode cX12_go 42 = .ok (.goto 9, 3) := by decide +kernel
theorem dX12_go_45 : decode cX12_go 45 = .ok (.aload_n 0, 1) := by decide +kernel
theorem dX12_go_46 : decode cX12_go 46 = .ok (.iload_n 1, 1) := by decide +kernel
theorem dX12_go_47 : decode cX12_go 47 = .ok (.iload_n 2, 1) := by decide +kernel
theorem dX12_go_48 : decode cX12_go 48 = .ok (.invokevirtual 365, 3) := by decide +kernel
theorem dX12_go_51 : decode cX12_go 51 = .ok (.ireturn, 1) := by decide +kernel
theorem dX12_words_0 : decode cX12_words 0 = .ok (.aload_n 0, 1) := by decide +kernel
theorem dX12_words_1 : decode cX12_words 1 = .ok (.iload_n 1, 1) := by decide +kernel
theorem dX12_words_2 : decode cX12_words 2 = .ok (.iconst 0, 1) := by decide +kernel
theorem dX12_words_3 : decode cX12_words 3 = .ok (.invokevirtual 318, 3) := by decide +kernel
theorem dX12_words_6 : decode cX12_words 6 = .ok (.istore_n 2, 1) := by decide +kernel
theorem dX12_words_7 : decode cX12_words 7 = .ok (.aload_n 0, 1) := by decide +kernel
theorem dX12_words_8 : decode cX12_words 8 = .ok (.getfield 45, 3) := by decide +kernel
theorem dX12_words_11 : decode cX12_words 11 = .ok (.iconst 0, 1) := by decide +kernel
theorem dX12_words_12 : decode cX12_words 12 = .ok (.aload_n 0, 1) := by decide +kernel
theorem dX12_words_13 : decode cX12_words 13 = .ok (.getfield 48, 3) := by decide +kernel
theorem dX12_words_16 : decode cX12_words 16 = .ok (.iconst 3, 1) := by decide +kernel
theorem dX12_words_17 : decode cX12_words 17 = .ok (.iaload, 1) := by decide +kernel
theorem dX12_words_18 : decode cX12_words 18 = .ok (.i2l, 1) := by decide +kernel
theorem dX12_words_19 : decode cX12_words 19 = .ok (.lastore, 1) := by decide +kernel
theorem dX12_words_20 : decode cX12_words 20 = .ok (.aload_n 0, 1) := by decide +kernel
theorem dX12_words_21 : decode cX12_words 21 = .ok (.getfield 45, 3) := by decide +kernel
theorem dX12_words_24 : decode cX12_words 24 = .ok (.iconst 1, 1) := by decide +kernel
theorem dX12_words_25 : decode cX12_words 25 = .ok (.iload_n 1, 1) := by decide +kernel
theorem dX12_words_26 : decode cX12_words 26 = .ok (.i2l, 1) := by decide +kernel
theorem dX12_words_27 : decode cX12_words 27 = .ok (.lastore, 1) := by decide +kernel
theorem dX12_words_28 : decode cX12_words 28 = .ok (.aload_n 0, 1) := by decide +kernel
theorem dX12_words_29 : decode cX12_words 29 = .ok (.getfield 45, 3) := by decide +kernel
theorem dX12_words_32 : decode cX12_words 32 = .ok (.iconst 2, 1) := by decide +kernel
theorem dX12_words_33 : decode cX12_words 33 = .ok (.iload_n 2, 1) := by decide +kernel
theorem dX12_words_34 : decode cX12_words 34 = .ok (.i2l, 1) := by decide +kernel
theorem dX12_words_35 : decode cX12_words 35 = .ok (.lastore, 1) := by decide +kernel
theorem dX12_words_36 : decode cX12_words 36 = .ok (.aload_n 0, 1) := by decide +kernel
theorem dX12_words_37 : decode cX12_words 37 = .ok (.getfield 45, 3) := by decide +kernel
theorem dX12_words_40 : decode cX12_words 40 = .ok (.iconst 3, 1) := by decide +kernel
theorem dX12_words_41 : decode cX12_words 41 = .ok (.aload_n 0, 1) := by decide +kernel
theorem dX12_words_42 : decode cX12_words 42 = .ok (.getfield 48, 3) := by decide +kernel
theorem dX12_words_45 : decode cX12_words 45 = .ok (.bipush 12, 2) := by decide +kernel
theorem dX12_words_47 : decode cX12_words 47 = .ok (.iload_n 2, 1) := by decide +kernel
theorem dX12_words_48 : decode cX12_words 48 = .ok (.iadd, 1) := by decide +kernel
theorem dX12_words_49 : decode cX12_words 49 = .ok (.iaload, 1) := by decide +kernel
theorem dX12_words_50 : decode cX12_words 50 = .ok (.i2l, 1) := by decide +kernel
theorem dX12_words_51 : decode cX12_words 51 = .ok (.lastore, 1) := by decide +kernel
theorem dX12_words_52 : decode cX12_words 52 = .ok (.aload_n 0, 1) := by decide +kernel
theorem dX12_words_53 : decode cX12_words 53 = .ok (.getfield 45, 3) := by decide +kernel
theorem dX12_words_56 : decode cX12_words 56 = .ok (.iconst 4, 1) := by decide +kernel
theorem dX12_words_57 : decode cX12_words 57 = .ok (.aload_n 0, 1) := by decide +kernel
theorem dX12_words_58 : decode cX12_words 58 = .ok (.iload_n 2, 1) := by decide +kernel
theorem dX12_words_59 : decode cX12_words 59 = .ok (.invokevirtual 330, 3) := by decide +kernel
theorem dX12_words_62 : decode cX12_words 62 = .ok (.invokestatic 368, 3) := by decide +kernel
theorem dX12_words_65 : decode cX12_words 65 = .ok (.i2l, 1) := by decide +kernel
theorem dX12_words_66 : decode cX12_words 66 = .ok (.lastore, 1) := by decide +kernel
theorem dX12_words_67 : decode cX12_words 67 = .ok (.aload_n 0, 1) := by decide +kernel
theorem dX12_words_68 : decode cX12_words 68 = .ok (.getfield 45, 3) := by decide +kernel
theorem dX12_words_71 : decode cX12_words 71 = .ok (.iconst 5, 1) := by decide +kernel
theorem dX12_words_72 : decode cX12_words 72 = .ok (.aload_n 0, 1) := by decide +kernel
theorem dX12_words_73 : decode cX12_words 73 = .ok (.iload_n 1, 1) := by decide +kernel
theorem dX12_words_74 : decode cX12_words 74 = .ok (.invokevirtual 346, 3) := by decide +kernel
theorem dX12_words_77 : decode cX12_words 77 = .ok (.ifCond .eq 7, 3) := by decide +kernel
theorem dX12_words_80 : decode cX12_words 80 = .ok (.lconst 1, 1) := by decide +kernel
theorem dX12_words_81 : decode cX12_words 81 = .ok (.goto 4, 3) := by decide +kernel
theorem dX12_words_84 : decode cX12_words 84 = .ok (.lconst 0, 1) := by decide +kernel
theorem dX12_words_85 : decode cX12_words 85 = .ok (.lastore, 1) := by decide +kernel
theorem dX12_words_86 : decode cX12_words 86 = .ok (.aload_n 0, 1) := by decide +kernel
theorem dX12_words_87 : decode cX12_words 87 = .ok (.getfield 45, 3) := by decide +kernel
theorem dX12_words_90 : decode cX12_words 90 = .ok (.bipush 6, 2) := by decide +kernel
theorem dX12_words_92 : decode cX12_words 92 = .ok (.aload_n 0, 1) := by decide +kernel
theorem dX12_words_93 : decode cX12_words 93 = .ok (.iload_n 1, 1) := by decide +kernel
theorem dX12_words_94 : decode cX12_words 94 = .ok (.iconst 1, 1) := by decide +kernel
theorem dX12_words_95 : decode cX12_words 95 = .ok (.invokevirtual 318, 3) := by decide +kernel
theorem dX12_words_98 : decode cX12_words 98 = .ok (.iload_n 2, 1) := by decide +kernel
theorem dX12_words_99 : decode cX12_words 99 = .ok (.if_icmp .ne 7, 3) := by decide +kernel
theorem dX12_words_102 : decode cX12_words 102 = .ok (.lconst 1, 1) := by decide +kernel
theorem dX12_words_103 : decode cX12_words 103 = .ok (.goto 4, 3) := by decide +kernel
theorem dX12_words_106 : decode cX12_words 106 = .ok (.lconst 0, 1) := by decide +kernel
theorem dX12_words_107 : decode cX12_words 107 = .ok (.lastore, 1) := by decide +kernel
theorem dX12_words_108 : decode cX12_words 108 = .ok (.aload_n 0, 1) := by decide +kernel
theorem dX12_words_109 : decode cX12_words 109 = .ok (.getfield 45, 3) := by decide +kernel
theorem dX12_words_112 : decode cX12_words 112 = .ok (.bipush 7, 2) := by decide +kernel
theorem dX12_words_114 : decode cX12_words 114 = .ok (.aload_n 0, 1) := by decide +kernel
theorem dX12_words_115 : decode cX12_words 115 = .ok (.invokevirtual 333, 3) := by decide +kernel
theorem dX12_words_118 : decode cX12_words 118 = .ok (.iload_n 2, 1) := by decide +kernel
theorem dX12_words_119 : decode cX12_words 119 = .ok (.if_icmp .ne 7, 3) := by decide +kernel
theorem dX12_words_122 : decode cX12_words 122 = .ok (.lconst 1, 1) := by decide +kernel
theorem dX12_words_123 : decode cX12_words 123 = .ok (.goto 4, 3) := by decide +kernel
theorem dX12_words_126 : decode cX12_words 126 = .ok (.lconst 0, 1) := by decide +kernel
theorem dX12_words_127 : decode cX12_words 127 = .ok (.lastore, 1) := by decide +kernel
theorem dX12_words_128 : decode cX12_words 128 = .ok (.return_, 1) := by decide +kernel
theorem dX12_does_0 : decode cX12_does 0 = .ok (.aload_n 0, 1) := by decide +kernel
theorem dX12_does_1 : decode cX12_does 1 = .ok (.iload_n 2, 1) := by decide +kernel
theorem dX12_does_2 : decode cX12_does 2 = .ok (.invokevirtual 371, 3) := by decide +kernel
theorem dX12_does_5 : decode cX12_does 5 = .ok (.iconst 0, 1) := by decide +kernel
theorem dX12_does_6 : decode cX12_does 6 = .ok (.istore_n 3, 1) := by decide +kernel
theorem dX12_does_7 : decode cX12_does 7 = .ok (.iload_n 3, 1) := by decide +kernel
theorem dX12_does_8 : decode cX12_does 8 = .ok (.aload_n 0, 1) := by decide +kernel
theorem dX12_does_9 : decode cX12_does 9 = .ok (.getfield 23, 3) := by decide +kernel
theorem dX12_does_12 : decode cX12_does 12 = .ok (.iload_n 1, 1) := by decide +kernel
theorem dX12_does_13 : decode cX12_does 13 = .ok (.iaload, 1) := by decide +kernel
theorem dX12_does_14 : decode cX12_does 14 = .ok (.if_icmp .ge 113, 3) := by decide +kernel
theorem dX12_does_17 : decode cX12_does 17 = .ok (.bipush 48, 2) := by decide +kernel
theorem dX12_does_19 : decode cX12_does 19 = .ok (.iload_n 1, 1) := by decide +kernel
theorem dX12_does_20 : decode cX12_does 20 = .ok (.imul, 1) := by decide +kernel
theorem dX12_does_21 : decode cX12_does 21 = .ok (.iconst 4, 1) := by decide +kernel
theorem dX12_does_22 : decode cX12_does 22 = .ok (.iload_n 3, 1) := by decide +kernel
theorem dX12_does_23 : decode cX12_does 23 = .ok (.imul, 1) := by decide +kernel
theorem dX12_does_24 : decode cX12_does 24 = .ok (.iadd, 1) := by decide +kernel
theorem dX12_does_25 : decode cX12_does 25 = .ok (.istore 4, 2) := by decide +kernel
theorem dX12_does_27 : decode cX12_does 27 = .ok (.aload_n 0, 1) := by decide +kernel
theorem dX12_does_28 : decode cX12_does 28 = .ok (.getfield 20, 3) := by decide +kernel
theorem dX12_does_31 : decode cX12_does 31 = .ok (.iload 4, 2) := by decide +kernel
theorem dX12_does_33 : decode cX12_does 33 = .ok (.iconst 2, 1) := by decide +kernel
theorem dX12_does_34 : decode cX12_does 34 = .ok (.iadd, 1) := by decide +kernel
theorem dX12_does_35 : decode cX12_does 35 = .ok (.iaload, 1) := by decide +kernel
theorem dX12_does_36 : decode cX12_does 36 = .ok (.ifCond .lt 34, 3) := by decide +kernel
theorem dX12_does_39 : decode cX12_does 39 = .ok (.aload_n 0, 1) := by decide +kernel
theorem dX12_does_40 : decode cX12_does 40 = .ok (.iload_n 1, 1) := by decide +kernel
theorem dX12_does_41 : decode cX12_does 41 = .ok (.aload_n 0, 1) := by decide +kernel
theorem dX12_does_42 : decode cX12_does 42 = .ok (.getfield 20, 3) := by decide +kernel
theorem dX12_does_45 : decode cX12_does 45 = .ok (.iload 4, 2) := by decide +kernel
theorem dX12_does_47 : decode cX12_does 47 = .ok (.iconst 2, 1) := by decide +kernel
theorem dX12_does_48 : decode cX12_does 48 = .ok (.iadd, 1) := by decide +kernel
theorem dX12_does_49 : decode cX12_does 49 = .ok (.iaload, 1) := by decide +kernel
theorem dX12_does_50 : decode cX12_does 50 = .ok (.aload_n 0, 1) := by decide +kernel
theorem dX12_does_51 : decode cX12_does 51 = .ok (.getfield 20, 3) := by decide +kernel
theorem dX12_does_54 : decode cX12_does 54 = .ok (.iload 4, 2) := by decide +kernel
theorem dX12_does_56 : decode cX12_does 56 = .ok (.iconst 3, 1) := by decide +kernel
theorem dX12_does_57 : decode cX12_does 57 = .ok (.iadd, 1) := by decide +kernel
theorem dX12_does_58 : decode cX12_does 58 = .ok (.iaload, 1) := by decide +kernel
theorem dX12_does_59 : decode cX12_does 59 = .ok (.invokevirtual 374, 3) := by decide +kernel
theorem dX12_does_62 : decode cX12_does 62 = .ok (.lconst 0, 1) := by decide +kernel
theorem dX12_does_63 : decode cX12_does 63 = .ok (.lcmp, 1) := by decide +kernel
theorem dX12_does_64 : decode cX12_does 64 = .ok (.ifCond .ne 6, 3) := by decide +kernel
theorem dX12_does_67 : decode cX12_does 67 = .ok (.goto 54, 3) := by decide +kernel
theorem dX12_does_70 : decode cX12_does 70 = .ok (.aload_n 0, 1) := by decide +kernel
theorem dX12_does_71 : decode cX12_does 71 = .ok (.getfield 20, 3) := by decide +kernel
theorem dX12_does_74 : decode cX12_does 74 = .ok (.iload 4, 2) := by decide +kernel
theorem dX12_does_76 : decode cX12_does 76 = .ok (.iaload, 1) := by decide +kernel
theorem dX12_does_77 : decode cX12_does 77 = .ok (.iconst 2, 1) := by decide +kernel
theorem dX12_does_78 : decode cX12_does 78 = .ok (.if_icmp .eq 42, 3) := by decide +kernel
theorem dX12_does_81 : decode cX12_does 81 = .ok (.aload_n 0, 1) := by decide +kernel
theorem dX12_does_82 : decode cX12_does 82 = .ok (.getfield 20, 3) := by decide +kernel
theorem dX12_does_85 : decode cX12_does 85 = .ok (.iload 4, 2) := by decide +kernel
theorem dX12_does_87 : decode cX12_does 87 = .ok (.iaload, 1) := by decide +kernel
theorem dX12_does_88 : decode cX12_does 88 = .ok (.iconst 1, 1) := by decide +kernel
theorem dX12_does_89 : decode cX12_does 89 = .ok (.if_icmp .ne 14, 3) := by decide +kernel
theorem dX12_does_92 : decode cX12_does 92 = .ok (.aload_n 0, 1) := by decide +kernel
theorem dX12_does_93 : decode cX12_does 93 = .ok (.iload_n 2, 1) := by decide +kernel
theorem dX12_does_94 : decode cX12_does 94 = .ok (.invokevirtual 362, 3) := by decide +kernel
theorem dX12_does_97 : decode cX12_does 97 = .ok (.ifCond .eq 24, 3) := by decide +kernel
theorem dX12_does_100 : decode cX12_does 100 = .ok (.goto 20, 3) := by decide +kernel
theorem dX12_does_103 : decode cX12_does 103 = .ok (.aload_n 0, 1) := by decide +kernel
theorem dX12_does_104 : decode cX12_does 104 = .ok (.iload_n 2, 1) := by decide +kernel
theorem dX12_does_105 : decode cX12_does 105 = .ok (.aload_n 0, 1) := by decide +kernel
theorem dX12_does_106 : decode cX12_does 106 = .ok (.getfield 20, 3) := by decide +kernel
theorem dX12_does_109 : decode cX12_does 109 = .ok (.iload 4, 2) := by decide +kernel
theorem dX12_does_111 : decode cX12_does 111 = .ok (.iconst 1, 1) := by decide +kernel
theorem dX12_does_112 : decode cX12_does 112 = .ok (.iadd, 1) := by decide +kernel
theorem dX12_does_113 : decode cX12_does 113 = .ok (.iaload, 1) := by decide +kernel
theorem dX12_does_114 : decode cX12_does 114 = .ok (.invokevirtual 365, 3) := by decide +kernel
theorem dX12_does_117 : decode cX12_does 117 = .ok (.ifCond .eq 4, 3) := by decide +kernel
theorem dX12_does_120 : decode cX12_does 120 = .ok (.return_, 1) := by decide +kernel
theorem dX12_does_121 : decode cX12_does 121 = .ok (.iinc 3 1, 3) := by decide +kernel
theorem dX12_does_124 : decode cX12_does 124 = .ok (.goto (-117), 3) := by decide +kernel
theorem dX12_does_127 : decode cX12_does 127 = .ok (.return_, 1) := by decide +kernel
theorem dX12_minute_0 : decode cX12_minute 0 = .ok (.iconst 0, 1) := by decide +kernel
theorem dX12_minute_1 : decode cX12_minute 1 = .ok (.istore_n 2, 1) := by decide +kernel
theorem dX12_minute_2 : decode cX12_minute 2 = .ok (.iload_n 2, 1) := by decide +kernel
theorem dX12_minute_3 : decode cX12_minute 3 = .ok (.aload_n 0, 1) := by decide +kernel
theorem dX12_minute_4 : decode cX12_minute 4 = .ok (.getfield 48, 3) := by decide +kernel
theorem dX12_minute_7 : decode cX12_minute 7 = .ok (.iconst 2, 1) := by decide +kernel
theorem dX12_minute_8 : decode cX12_minute 8 = .ok (.iaload, 1) := by decide +kernel
theorem dX12_minute_9 : decode cX12_minute 9 = .ok (.if_icmp .ge 24, 3) := by decide +kernel
theorem dX12_minute_12 : decode cX12_minute 12 = .ok (.aload_n 0, 1) := by decide +kernel
theorem dX12_minute_13 : decode cX12_minute 13 = .ok (.iload_n 2, 1) := by decide +kernel
theorem dX12_minute_14 : decode cX12_minute 14 = .ok (.iconst 0, 1) := by decide +kernel
theorem dX12_minute_15 : decode cX12_minute 15 = .ok (.invokevirtual 318, 3) := by decide +kernel
theorem dX12_minute_18 : decode cX12_minute 18 = .ok (.ifCond .lt 9, 3) := by decide +kernel
theorem dX12_minute_21 : decode cX12_minute 21 = .ok (.aload_n 0, 1) := by decide +kernel
theorem dX12_minute_22 : decode cX12_minute 22 = .ok (.iload_n 1, 1) := by decide +kernel
theorem dX12_minute_23 : decode cX12_minute 23 = .ok (.iload_n 2, 1) := by decide +kernel
theorem dX12_minute_24 : decode cX12_minute 24 = .ok (.invokevirtual 378, 3) := by decide +kernel
theorem dX12_minute_27 : decode cX12_minute 27 = .ok (.iinc 2 1, 3) := by decide +kernel
theorem dX12_minute_30 : decode cX12_minute 30 = .ok (.goto (-28), 3) := by decide +kernel
theorem dX12_minute_33 : decode cX12_minute 33 = .ok (.aload_n 0, 1) := by decide +kernel
theorem dX12_minute_34 : decode cX12_minute 34 = .ok (.getfield 48, 3) := by decide +kernel
theorem dX12_minute_37 : decode cX12_minute 37 = .ok (.iconst 3, 1) := by decide +kernel
theorem dX12_minute_38 : decode cX12_minute 38 = .ok (.dup2, 1) := by decide +kernel
theorem dX12_minute_39 : decode cX12_minute 39 = .ok (.iaload, 1) := by decide +kernel
theorem dX12_minute_40 : decode cX12_minute 40 = .ok (.iconst 1, 1) := by decide +kernel
theorem dX12_minute_41 : decode cX12_minute 41 = .ok (.iadd, 1) := by decide +kernel
theorem dX12_minute_42 : decode cX12_minute 42 = .ok (.iastore, 1) := by decide +kernel
theorem dX12_minute_43 : decode cX12_minute 43 = .ok (.iconst 0, 1) := by decide +kernel
theorem dX12_minute_44 : decode cX12_minute 44 = .ok (.istore_n 2, 1) := by decide +kernel
theorem dX12_minute_45 : decode cX12_minute 45 = .ok (.iload_n 2, 1) := by decide +kernel
theorem dX12_minute_46 : decode cX12_minute 46 = .ok (.aload_n 0, 1) := by decide +kernel
theorem dX12_minute_47 : decode cX12_minute 47 = .ok (.getfield 48, 3) := by decide +kernel
theorem dX12_minute_50 : decode cX12_minute 50 = .ok (.iconst 2, 1) := by decide +kernel
theorem dX12_minute_51 : decode cX12_minute 51 = .ok (.iaload, 1) := by decide +kernel
theorem dX12_minute_52 : decode cX12_minute 52 = .ok (.if_icmp .ge 90, 3) := by decide +kernel
theorem dX12_minute_55 : decode cX12_minute 55 = .ok (.sipush 172, 3) := by decide +kernel
theorem dX12_minute_58 : decode cX12_minute 58 = .ok (.iconst 5, 1) := by decide +kernel
theorem dX12_minute_59 : decode cX12_minute 59 = .ok (.iload_n 2, 1) := by decide +kernel
theorem dX12_minute_60 : decode cX12_minute 60 = .ok (.imul, 1) := by decide +kernel
theorem dX12_minute_61 : decode cX12_minute 61 = .ok (.iadd, 1) := by decide +kernel
theorem dX12_minute_62 : decode cX12_minute 62 = .ok (.istore_n 3, 1) := by decide +kernel
theorem dX12_minute_63 : decode cX12_minute 63 = .ok (.aload_n 0, 1) := by decide +kernel
theorem dX12_minute_64 : decode cX12_minute 64 = .ok (.getfield 48, 3) := by decide +kernel
theorem dX12_minute_67 : decode cX12_minute 67 = .ok (.iload_n 3, 1) := by decide +kernel
theorem dX12_minute_68 : decode cX12_minute 68 = .ok (.iaload, 1) := by decide +kernel
theorem dX12_minute_69 : decode cX12_minute 69 = .ok (.ifCond .ge 67, 3) := by decide +kernel
theorem dX12_minute_72 : decode cX12_minute 72 = .ok (.aload_n 0, 1) := by decide +kernel
theorem dX12_minute_73 : decode cX12_minute 73 = .ok (.getfield 48, 3) := by decide +kernel
theorem dX12_minute_76 : decode cX12_minute 76 = .ok (.iload_n 3, 1) := by decide +kernel
theorem dX12_minute_77 : decode cX12_minute 77 = .ok (.iconst 4, 1) := by decide +kernel
theorem dX12_minute_78 : decode cX12_minute 78 = .ok (.iadd, 1) := by decide +kernel
theorem dX12_minute_79 : decode cX12_minute 79 = .ok (.iaload, 1) := by decide +kernel
theorem dX12_minute_80 : decode cX12_minute 80 = .ok (.aload_n 0, 1) := by decide +kernel
theorem dX12_minute_81 : decode cX12_minute 81 = .ok (.getfield 48, 3) := by decide +kernel
theorem dX12_minute_84 : decode cX12_minute 84 = .ok (.iconst 3, 1) := by decide +kernel
theorem dX12_minute_85 : decode cX12_minute 85 = .ok (.iaload, 1) := by decide +kernel
theorem dX12_minute_86 : decode cX12_minute 86 = .ok (.if_icmp .gt 50, 3) := by decide +kernel
theorem dX12_minute_89 : decode cX12_minute 89 = .ok (.aload_n 0, 1) := by decide +kernel
theorem dX12_minute_90 : decode cX12_minute 90 = .ok (.getfield 48, 3) := by decide +kernel
theorem dX12_minute_93 : decode cX12_minute 93 = .ok (.iconst 3, 1) := by decide +kernel
theorem dX12_minute_94 : decode cX12_minute 94 = .ok (.iaload, 1) := by decide +kernel
theorem dX12_minute_95 : decode cX12_minute 95 = .ok (.sipush 1440, 3) := by decide +kernel
theorem dX12_minute_98 : decode cX12_minute 98 = .ok (.if_icmp .ne 6, 3) := by decide +kernel
theorem dX12_minute_101 : decode cX12_minute 101 = .ok (.goto 35, 3) := by decide +kernel
theorem dX12_minute_104 : decode cX12_minute 104 = .ok (.aload_n 0, 1) := by decide +kernel
theorem dX12_minute_105 : decode cX12_minute 105 = .ok (.getfield 48, 3) := by decide +kernel
theorem dX12_minute_108 : decode cX12_minute 108 = .ok (.iload_n 3, 1) := by decide +kernel
theorem dX12_minute_109 : decode cX12_minute 109 = .ok (.aload_n 0, 1) := by decide +kernel
theorem dX12_minute_110 : decode cX12_minute 110 = .ok (.getfield 48, 3) := by decide +kernel
theorem dX12_minute_113 : decode cX12_minute 113 = .ok (.iload_n 3, 1) := by decide +kernel
theorem dX12_minute_114 : decode cX12_minute 114 = .ok (.iconst 3, 1) := by decide +kernel
theorem dX12_minute_115 : decode cX12_minute 115 = .ok (.iadd, 1) := by decide +kernel
theorem dX12_minute_116 : decode cX12_minute 116 = .ok (.iaload, 1) := by decide +kernel
theorem dX12_minute_117 : decode cX12_minute 117 = .ok (.iastore, 1) := by decide +kernel
theorem dX12_minute_118 : decode cX12_minute 118 = .ok (.aload_n 0, 1) := by decide +kernel
theorem dX12_minute_119 : decode cX12_minute 119 = .ok (.getfield 48, 3) := by decide +kernel
theorem dX12_minute_122 : decode cX12_minute 122 = .ok (.iload_n 3, 1) := by decide +kernel
theorem dX12_minute_123 : decode cX12_minute 123 = .ok (.iconst 3, 1) := by decide +kernel
theorem dX12_minute_124 : decode cX12_minute 124 = .ok (.iadd, 1) := by decide +kernel
theorem dX12_minute_125 : decode cX12_minute 125 = .ok (.iconst (-1), 1) := by decide +kernel
theorem dX12_minute_126 : decode cX12_minute 126 = .ok (.iastore, 1) := by decide +kernel
theorem dX12_minute_127 : decode cX12_minute 127 = .ok (.aload_n 0, 1) := by decide +kernel
theorem dX12_minute_128 : decode cX12_minute 128 = .ok (.getfield 48, 3) := by decide +kernel
theorem dX12_minute_131 : decode cX12_minute 131 = .ok (.iload_n 3, 1) := by decide +kernel
theorem dX12_minute_132 : decode cX12_minute 132 = .ok (.iconst 4, 1) := by decide +kernel
theorem dX12_minute_133 : decode cX12_minute 133 = .ok (.iadd, 1) := by decide +kernel
theorem dX12_minute_134 : decode cX12_minute 134 = .ok (.iconst (-1), 1) := by decide +kernel
theorem dX12_minute_135 : decode cX12_minute 135 = .ok (.iastore, 1) := by decide +kernel
theorem dX12_minute_136 : decode cX12_minute 136 = .ok (.iinc 2 1, 3) := by decide +kernel
theorem dX12_minute_139 : decode cX12_minute 139 = .ok (.goto (-94), 3) := by decide +kernel
theorem dX12_minute_142 : decode cX12_minute 142 = .ok (.return_, 1) := by decide +kernel
theorem dX12_tick_0 : decode cX12_tick 0 = .ok (.aload_n 0, 1) := by decide +kernel
theorem dX12_tick_1 : decode cX12_tick 1 = .ok (.iload_n 1, 1) := by decide +kernel
theorem dX12_tick_2 : decode cX12_tick 2 = .ok (.invokevirtual 381, 3) := by decide +kernel
theorem dX12_tick_5 : decode cX12_tick 5 = .ok (.ifCond .eq 29, 3) := by decide +kernel
theorem dX12_tick_8 : decode cX12_tick 8 = .ok (.iload_n 2, 1) := by decide +kernel
theorem dX12_tick_9 : decode cX12_tick 9 = .ok (.i2l, 1) := by decide +kernel
theorem dX12_tick_10 : decode cX12_tick 10 = .ok (.lconst 1, 1) := by decide +kernel
theorem dX12_tick_11 : decode cX12_tick 11 = .ok (.ldc2_w 384, 3) := by decide +kernel
theorem dX12_tick_14 : decode cX12_tick 14 = .ok (.invokestatic 148, 3) := by decide +kernel
theorem dX12_tick_17 : decode cX12_tick 17 = .ok (.ifCond .eq 17, 3) := by decide +kernel
theorem dX12_tick_20 : decode cX12_tick 20 = .ok (.aload_n 0, 1) := by decide +kernel
theorem dX12_tick_21 : decode cX12_tick 21 = .ok (.getfield 48, 3) := by decide +kernel
theorem dX12_tick_24 : decode cX12_tick 24 = .ok (.iconst 3, 1) := by decide +kernel
theorem dX12_tick_25 : decode cX12_tick 25 = .ok (.iaload, 1) := by decide +kernel
theorem dX12_tick_26 : decode cX12_tick 26 = .ok (.iload_n 2, 1) := by decide +kernel
theorem dX12_tick_27 : decode cX12_tick 27 = .ok (.iadd, 1) := by decide +kernel
theorem dX12_tick_28 : decode cX12_tick 28 = .ok (.sipush 1440, 3) := by decide +kernel
theorem dX12_tick_31 : decode cX12_tick 31 = .ok (.if_icmp .le 5, 3) := by decide +kernel
theorem dX12_tick_34 : decode cX12_tick 34 = .ok (.iconst (-1), 1) := by decide +kernel
theorem dX12_tick_35 : decode cX12_tick 35 = .ok (.ireturn, 1) := by decide +kernel
theorem dX12_tick_36 : decode cX12_tick 36 = .ok (.iconst 0, 1) := by decide +kernel
theorem dX12_tick_37 : decode cX12_tick 37 = .ok (.istore_n 3, 1) := by decide +kernel
theorem dX12_tick_38 : decode cX12_tick 38 = .ok (.iload_n 3, 1) := by decide +kernel
theorem dX12_tick_39 : decode cX12_tick 39 = .ok (.iload_n 2, 1) := by decide +kernel
theorem dX12_tick_40 : decode cX12_tick 40 = .ok (.if_icmp .ge 14, 3) := by decide +kernel
theorem dX12_tick_43 : decode cX12_tick 43 = .ok (.aload_n 0, 1) := by decide +kernel
theorem dX12_tick_44 : decode cX12_tick 44 = .ok (.iload_n 1, 1) := by decide +kernel
theorem dX12_tick_45 : decode cX12_tick 45 = .ok (.invokevirtual 386, 3) := by decide +kernel
theorem dX12_tick_48 : decode cX12_tick 48 = .ok (.iinc 3 1, 3) := by decide +kernel
theorem dX12_tick_51 : decode cX12_tick 51 = .ok (.goto (-13), 3) := by decide +kernel
theorem dX12_tick_54 : decode cX12_tick 54 = .ok (.aload_n 0, 1) := by decide +kernel
theorem dX12_tick_55 : decode cX12_tick 55 = .ok (.getfield 48, 3) := by decide +kernel
theorem dX12_tick_58 : decode cX12_tick 58 = .ok (.iconst 3, 1) := by decide +kernel
theorem dX12_tick_59 : decode cX12_tick 59 = .ok (.iaload, 1) := by decide +kernel
theorem dX12_tick_60 : decode cX12_tick 60 = .ok (.ireturn, 1) := by decide +kernel
theorem dX12_keeps_0 : decode cX12_keeps 0 = .ok (.iconst 0, 1) := by decide +kernel
theorem dX12_keeps_1 : decode cX12_keeps 1 = .ok (.istore_n 1, 1) := by decide +kernel
theorem dX12_keeps_2 : decode cX12_keeps 2 = .ok (.iload_n 1, 1) := by decide +kernel
theorem dX12_keeps_3 : decode cX12_keeps 3 = .ok (.sipush 328, 3) := by decide +kernel
theorem dX12_keeps_6 : decode cX12_keeps 6 = .ok (.if_icmp .ge 21, 3) := by decide +kernel
theorem dX12_keeps_9 : decode cX12_keeps 9 = .ok (.aload_n 0, 1) := by decide +kernel
theorem dX12_keeps_10 : decode cX12_keeps 10 = .ok (.getfield 51, 3) := by decide +kernel
theorem dX12_keeps_13 : decode cX12_keeps 13 = .ok (.iload_n 1, 1) := by decide +kernel
theorem dX12_keeps_14 : decode cX12_keeps 14 = .ok (.aload_n 0, 1) := by decide +kernel
theorem dX12_keeps_15 : decode cX12_keeps 15 = .ok (.getfield 48, 3) := by decide +kernel
theorem dX12_keeps_18 : decode cX12_keeps 18 = .ok (.iload_n 1, 1) := by decide +kernel
theorem dX12_keeps_19 : decode cX12_keeps 19 = .ok (.iaload, 1) := by decide +kernel
theorem dX12_keeps_20 : decode cX12_keeps 20 = .ok (.iastore, 1) := by decide +kernel
theorem dX12_keeps_21 : decode cX12_keeps 21 = .ok (.iinc 1 1, 3) := by decide +kernel
theorem dX12_keeps_24 : decode cX12_keeps 24 = .ok (.goto (-22), 3) := by decide +kernel
theorem dX12_keeps_27 : decode cX12_keeps 27 = .ok (.return_, 1) := by decide +kernel
theorem dX12_putsBack_0 : decode cX12_putsBack 0 = .ok (.iconst 0, 1) := by decide +kernel
theorem dX12_putsBack_1 : decode cX12_putsBack 1 = .ok (.istore_n 1, 1) := by decide +kernel
theorem dX12_putsBack_2 : decode cX12_putsBack 2 = .ok (.iload_n 1, 1) := by decide +kernel
theorem dX12_putsBack_3 : decode cX12_putsBack 3 = .ok (.sipush 328, 3) := by decide +kernel
theorem dX12_putsBack_6 : decode cX12_putsBack 6 = .ok (.if_icmp .ge 21, 3) := by decide +kernel
theorem dX12_putsBack_9 : decode cX12_putsBack 9 = .ok (.aload_n 0, 1) := by decide +kernel
theorem dX12_putsBack_10 : decode cX12_putsBack 10 = .ok (.getfield 48, 3) := by decide +kernel
theorem dX12_putsBack_13 : decode cX12_putsBack 13 = .ok (.iload_n 1, 1) := by decide +kernel
theorem dX12_putsBack_14 : decode cX12_putsBack 14 = .ok (.aload_n 0, 1) := by decide +kernel
theorem dX12_putsBack_15 : decode cX12_putsBack 15 = .ok (.getfield 51, 3) := by decide +kernel
theorem dX12_putsBack_18 : decode cX12_putsBack 18 = .ok (.iload_n 1, 1) := by decide +kernel
theorem dX12_putsBack_19 : decode cX12_putsBack 19 = .ok (.iaload, 1) := by decide +kernel
theorem dX12_putsBack_20 : decode cX12_putsBack 20 = .ok (.iastore, 1) := by decide +kernel
theorem dX12_putsBack_21 : decode cX12_putsBack 21 = .ok (.iinc 1 1, 3) := by decide +kernel
theorem dX12_putsBack_24 : decode cX12_putsBack 24 = .ok (.goto (-22), 3) := by decide +kernel
theorem dX12_putsBack_27 : decode cX12_putsBack 27 = .ok (.return_, 1) := by decide +kernel
theorem dX12_atHome_0 : decode cX12_atHome 0 = .ok (.iconst 0, 1) := by decide +kernel
theorem dX12_atHome_1 : decode cX12_atHome 1 = .ok (.istore_n 1, 1) := by decide +kernel
theorem dX12_atHome_2 : decode cX12_atHome 2 = .ok (.iconst 0, 1) := by decide +kernel
theorem dX12_atHome_3 : decode cX12_atHome 3 = .ok (.istore_n 2, 1) := by decide +kernel
theorem dX12_atHome_4 : decode cX12_atHome 4 = .ok (.iload_n 2, 1) := by decide +kernel
theorem dX12_atHome_5 : decode cX12_atHome 5 = .ok (.aload_n 0, 1) := by decide +kernel
theorem dX12_atHome_6 : decode cX12_atHome 6 = .ok (.getfield 48, 3) := by decide +kernel
theorem dX12_atHome_9 : decode cX12_atHome 9 = .ok (.iconst 2, 1) := by decide +kernel
theorem dX12_atHome_10 : decode cX12_atHome 10 = .ok (.iaload, 1) := by decide +kernel
theorem dX12_atHome_11 : decode cX12_atHome 11 = .ok (.if_icmp .ge 32, 3) := by decide +kernel
theorem dX12_atHome_14 : decode cX12_atHome 14 = .ok (.iload_n 1, 1) := by decide +kernel
theorem dX12_atHome_15 : decode cX12_atHome 15 = .ok (.aload_n 0, 1) := by decide +kernel
theorem dX12_atHome_16 : decode cX12_atHome 16 = .ok (.iload_n 2, 1) := by decide +kernel
theorem dX12_atHome_17 : decode cX12_atHome 17 = .ok (.iconst 0, 1) := by decide +kernel
theorem dX12_atHome_18 : decode cX12_atHome 18 = .ok (.invokevirtual 318, 3) := by decide +kernel
theorem dX12_atHome_21 : decode cX12_atHome 21 = .ok (.aload_n 0, 1) := by decide +kernel
theorem dX12_atHome_22 : decode cX12_atHome 22 = .ok (.iload_n 2, 1) := by decide +kernel
theorem dX12_atHome_23 : decode cX12_atHome 23 = .ok (.iconst 1, 1) := by decide +kernel
theorem dX12_atHome_24 : decode cX12_atHome 24 = .ok (.invokevirtual 318, 3) := by decide +kernel
theorem dX12_atHome_27 : decode cX12_atHome 27 = .ok (.if_icmp .ne 7, 3) := by decide +kernel
theorem dX12_atHome_30 : decode cX12_atHome 30 = .ok (.iconst 1, 1) := by decide +kernel
theorem dX12_atHome_31 : decode cX12_atHome 31 = .ok (.goto 4, 3) := by decide +kernel
theorem dX12_atHome_34 : decode cX12_atHome 34 = .ok (.iconst 0, 1) := by decide +kernel
theorem dX12_atHome_35 : decode cX12_atHome 35 = .ok (.iadd, 1) := by decide +kernel
theorem dX12_atHome_36 : decode cX12_atHome 36 = .ok (.istore_n 1, 1) := by decide +kernel
theorem dX12_atHome_37 : decode cX12_atHome 37 = .ok (.iinc 2 1, 3) := by decide +kernel
theorem dX12_atHome_40 : decode cX12_atHome 40 = .ok (.goto (-36), 3) := by decide +kernel
theorem dX12_atHome_43 : decode cX12_atHome 43 = .ok (.iload_n 1, 1) := by decide +kernel
theorem dX12_atHome_44 : decode cX12_atHome 44 = .ok (.ireturn, 1) := by decide +kernel
theorem dX12_onTheWay_0 : decode cX12_onTheWay 0 = .ok (.iconst 0, 1) := by decide +kernel
theorem dX12_onTheWay_1 : decode cX12_onTheWay 1 = .ok (.istore_n 1, 1) := by decide +kernel
theorem dX12_onTheWay_2 : decode cX12_onTheWay 2 = .ok (.iconst 0, 1) := by decide +kernel
theorem dX12_onTheWay_3 : decode cX12_onTheWay 3 = .ok (.istore_n 2, 1) := by decide +kernel
theorem dX12_onTheWay_4 : decode cX12_onTheWay 4 = .ok (.iload_n 2, 1) := by decide +kernel
theorem dX12_onTheWay_5 : decode cX12_onTheWay 5 = .ok (.aload_n 0, 1) := by decide +kernel
theorem dX12_onTheWay_6 : decode cX12_onTheWay 6 = .ok (.getfield 48, 3) := by decide +kernel
theorem dX12_onTheWay_9 : decode cX12_onTheWay 9 = .ok (.iconst 2, 1) := by decide +kernel
theorem dX12_onTheWay_10 : decode cX12_onTheWay 10 = .ok (.iaload, 1) := by decide +kernel
theorem dX12_onTheWay_11 : decode cX12_onTheWay 11 = .ok (.if_icmp .ge 26, 3) := by decide +kernel
theorem dX12_onTheWay_14 : decode cX12_onTheWay 14 = .ok (.iload_n 1, 1) := by decide +kernel
theorem dX12_onTheWay_15 : decode cX12_onTheWay 15 = .ok (.aload_n 0, 1) := by decide +kernel
theorem dX12_onTheWay_16 : decode cX12_onTheWay 16 = .ok (.iload_n 2, 1) := by decide +kernel
theorem dX12_onTheWay_17 : decode cX12_onTheWay 17 = .ok (.iconst 0, 1) := by decide +kernel
theorem dX12_onTheWay_18 : decode cX12_onTheWay 18 = .ok (.invokevirtual 318, 3) := by decide +kernel
theorem dX12_onTheWay_21 : decode cX12_onTheWay 21 = .ok (.ifCond .ge 7, 3) := by decide +kernel
theorem dX12_onTheWay_24 : decode cX12_onTheWay 24 = .ok (.iconst 1, 1) := by decide +kernel
theorem dX12_onTheWay_25 : decode cX12_onTheWay 25 = .ok (.goto 4, 3) := by decide +kernel
theorem dX12_onTheWay_28 : decode cX12_onTheWay 28 = .ok (.iconst 0, 1) := by decide +kernel
theorem dX12_onTheWay_29 : decode cX12_onTheWay 29 = .ok (.iadd, 1) := by decide +kernel
theorem dX12_onTheWay_30 : decode cX12_onTheWay 30 = .ok (.istore_n 1, 1) := by decide +kernel
theorem dX12_onTheWay_31 : decode cX12_onTheWay 31 = .ok (.iinc 2 1, 3) := by decide +kernel
theorem dX12_onTheWay_34 : decode cX12_onTheWay 34 = .ok (.goto (-30), 3) := by decide +kernel
theorem dX12_onTheWay_37 : decode cX12_onTheWay 37 = .ok (.iload_n 1, 1) := by decide +kernel
theorem dX12_onTheWay_38 : decode cX12_onTheWay 38 = .ok (.ireturn, 1) := by decide +kernel
theorem dX12_haveRidden_0 : decode cX12_haveRidden 0 = .ok (.iconst 0, 1) := by decide +kernel
theorem dX12_haveRidden_1 : decode cX12_haveRidden 1 = .ok (.istore_n 1, 1) := by decide +kernel
theorem dX12_haveRidden_2 : decode cX12_haveRidden 2 = .ok (.iconst 0, 1) := by decide +kernel
theorem dX12_haveRidden_3 : decode cX12_haveRidden 3 = .ok (.istore_n 2, 1) := by decide +kernel
theorem dX12_haveRidden_4 : decode cX12_haveRidden 4 = .ok (.iload_n 2, 1) := by decide +kernel
theorem dX12_haveRidden_5 : decode cX12_haveRidden 5 = .ok (.aload_n 0, 1) := by decide +kernel
theorem dX12_haveRidden_6 : decode cX12_haveRidden 6 = .ok (.getfield 48, 3) := by decide +kernel
theorem dX12_haveRidden_9 : decode cX12_haveRidden 9 = .ok (.iconst 2, 1) := by decide +kernel
theorem dX12_haveRidden_10 : decode cX12_haveRidden 10 = .ok (.iaload, 1) := by decide +kernel
theorem dX12_haveRidden_11 : decode cX12_haveRidden 11 = .ok (.if_icmp .ge 25, 3) := by decide +kernel
theorem dX12_haveRidden_14 : decode cX12_haveRidden 14 = .ok (.iload_n 1, 1) := by decide +kernel
theorem dX12_haveRidden_15 : decode cX12_haveRidden 15 = .ok (.aload_n 0, 1) := by decide +kernel
theorem dX12_haveRidden_16 : decode cX12_haveRidden 16 = .ok (.iload_n 2, 1) := by decide +kernel
theorem dX12_haveRidden_17 : decode cX12_haveRidden 17 = .ok (.invokevirtual 346, 3) := by decide +kernel
theorem dX12_haveRidden_20 : decode cX12_haveRidden 20 = .ok (.ifCond .eq 7, 3) := by decide +kernel
theorem dX12_haveRidden_23 : decode cX12_haveRidden 23 = .ok (.iconst 1, 1) := by decide +kernel
theorem dX12_haveRidden_24 : decode cX12_haveRidden 24 = .ok (.goto 4, 3) := by decide +kernel
theorem dX12_haveRidden_27 : decode cX12_haveRidden 27 = .ok (.iconst 0, 1) := by decide +kernel
theorem dX12_haveRidden_28 : decode cX12_haveRidden 28 = .ok (.iadd, 1) := by decide +kernel
theorem dX12_haveRidden_29 : decode cX12_haveRidden 29 = .ok (.istore_n 1, 1) := by decide +kernel
theorem dX12_haveRidden_30 : decode cX12_haveRidden 30 = .ok (.iinc 2 1, 3) := by decide +kernel
theorem dX12_haveRidden_33 : decode cX12_haveRidden 33 = .ok (.goto (-29), 3) := by decide +kernel
theorem dX12_haveRidden_36 : decode cX12_haveRidden 36 = .ok (.iload_n 1, 1) := by decide +kernel
theorem dX12_haveRidden_37 : decode cX12_haveRidden 37 = .ok (.ireturn, 1) := by decide +kernel
theorem dX12_ahead_0 : decode cX12_ahead 0 = .ok (.aload_n 0, 1) := by decide +kernel
theorem dX12_ahead_1 : decode cX12_ahead 1 = .ok (.iload_n 1, 1) := by decide +kernel
theorem dX12_ahead_2 : decode cX12_ahead 2 = .ok (.invokevirtual 381, 3) := by decide +kernel
theorem dX12_ahead_5 : decode cX12_ahead 5 = .ok (.ifCond .eq 15, 3) := by decide +kernel
theorem dX12_ahead_8 : decode cX12_ahead 8 = .ok (.iload_n 2, 1) := by decide +kernel
theorem dX12_ahead_9 : decode cX12_ahead 9 = .ok (.i2l, 1) := by decide +kernel
theorem dX12_ahead_10 : decode cX12_ahead 10 = .ok (.lconst 0, 1) := by decide +kernel
theorem dX12_ahead_11 : decode cX12_ahead 11 = .ok (.ldc2_w 328, 3) := by decide +kernel
theorem dX12_ahead_14 : decode cX12_ahead 14 = .ok (.invokestatic 148, 3) := by decide +kernel
theorem dX12_ahead_17 : decode cX12_ahead 17 = .ok (.ifCond .ne 5, 3) := by decide +kernel
theorem dX12_ahead_20 : decode cX12_ahead 20 = .ok (.iconst (-1), 1) := by decide +kernel
theorem dX12_ahead_21 : decode cX12_ahead 21 = .ok (.ireturn, 1) := by decide +kernel
theorem dX12_ahead_22 : decode cX12_ahead 22 = .ok (.aload_n 0, 1) := by decide +kernel
theorem dX12_ahead_23 : decode cX12_ahead 23 = .ok (.invokevirtual 389, 3) := by decide +kernel
theorem dX12_ahead_26 : decode cX12_ahead 26 = .ok (.aload_n 0, 1) := by decide +kernel
theorem dX12_ahead_27 : decode cX12_ahead 27 = .ok (.getfield 48, 3) := by decide +kernel
theorem dX12_ahead_30 : decode cX12_ahead 30 = .ok (.iconst 3, 1) := by decide +kernel
theorem dX12_ahead_31 : decode cX12_ahead 31 = .ok (.iaload, 1) := by decide +kernel
theorem dX12_ahead_32 : decode cX12_ahead 32 = .ok (.sipush 1440, 3) := by decide +kernel
theorem dX12_ahead_35 : decode cX12_ahead 35 = .ok (.if_icmp .ge 11, 3) := by decide +kernel
theorem dX12_ahead_38 : decode cX12_ahead 38 = .ok (.aload_n 0, 1) := by decide +kernel
theorem dX12_ahead_39 : decode cX12_ahead 39 = .ok (.iload_n 1, 1) := by decide +kernel
theorem dX12_ahead_40 : decode cX12_ahead 40 = .ok (.invokevirtual 386, 3) := by decide +kernel
theorem dX12_ahead_43 : decode cX12_ahead 43 = .ok (.goto (-17), 3) := by decide +kernel
theorem dX12_ahead_46 : decode cX12_ahead 46 = .ok (.iload_n 2, 1) := by decide +kernel
theorem dX12_ahead_47 : decode cX12_ahead 47 = .ok (.ifCond .ne 10, 3) := by decide +kernel
theorem dX12_ahead_50 : decode cX12_ahead 50 = .ok (.aload_n 0, 1) := by decide +kernel
theorem dX12_ahead_51 : decode cX12_ahead 51 = .ok (.invokevirtual 392, 3) := by decide +kernel
theorem dX12_ahead_54 : decode cX12_ahead 54 = .ok (.goto 19, 3) := by decide +kernel
theorem dX12_ahead_57 : decode cX12_ahead 57 = .ok (.iload_n 2, 1) := by decide +kernel
theorem dX12_ahead_58 : decode cX12_ahead 58 = .ok (.iconst 1, 1) := by decide +kernel
theorem dX12_ahead_59 : decode cX12_ahead 59 = .ok (.if_icmp .ne 10, 3) := by decide +kernel
theorem dX12_ahead_62 : decode cX12_ahead 62 = .ok (.aload_n 0, 1) := by decide +kernel
theorem dX12_ahead_63 : decode cX12_ahead 63 = .ok (.invokevirtual 395, 3) := by decide +kernel
theorem dX12_ahead_66 : decode cX12_ahead 66 = .ok (.goto 7, 3) := by decide +kernel
theorem dX12_ahead_69 : decode cX12_ahead 69 = .ok (.aload_n 0, 1) := by decide +kernel
theorem dX12_ahead_70 : decode cX12_ahead 70 = .ok (.invokevirtual 398, 3) := by decide +kernel
theorem dX12_ahead_73 : decode cX12_ahead 73 = .ok (.istore_n 3, 1) := by decide +kernel
theorem dX12_ahead_74 : decode cX12_ahead 74 = .ok (.aload_n 0, 1) := by decide +kernel
theorem dX12_ahead_75 : decode cX12_ahead 75 = .ok (.invokevirtual 401, 3) := by decide +kernel
theorem dX12_ahead_78 : decode cX12_ahead 78 = .ok (.iload_n 3, 1) := by decide +kernel
theorem dX12_ahead_79 : decode cX12_ahead 79 = .ok (.ireturn, 1) := by decide +kernel
theorem dX12_opens__0 : decode cX12_opens_ 0 = .ok (.aload_n 0, 1) := by decide +kernel
theorem dX12_opens__1 : decode cX12_opens_ 1 = .ok (.iload_n 1, 1) := by decide +kernel
theorem dX12_opens__2 : decode cX12_opens_ 2 = .ok (.iconst 4, 1) := by decide +kernel
theorem dX12_opens__3 : decode cX12_opens_ 3 = .ok (.invokevirtual 322, 3) := by decide +kernel
theorem dX12_opens__6 : decode cX12_opens_ 6 = .ok (.ifCond .ge 5, 3) := by decide +kernel
theorem dX12_opens__9 : decode cX12_opens_ 9 = .ok (.iload_n 2, 1) := by decide +kernel
theorem dX12_opens__10 : decode cX12_opens_ 10 = .ok (.ireturn, 1) := by decide +kernel
theorem dX12_opens__11 : decode cX12_opens_ 11 = .ok (.iload_n 2, 1) := by decide +kernel
theorem dX12_opens__12 : decode cX12_opens_ 12 = .ok (.aload_n 0, 1) := by decide +kernel
theorem dX12_opens__13 : decode cX12_opens_ 13 = .ok (.iload_n 1, 1) := by decide +kernel
theorem dX12_opens__14 : decode cX12_opens_ 14 = .ok (.iconst 4, 1) := by decide +kernel
theorem dX12_opens__15 : decode cX12_opens_ 15 = .ok (.invokevirtual 322, 3) := by decide +kernel
theorem dX12_opens__18 : decode cX12_opens_ 18 = .ok (.invokestatic 404, 3) := by decide +kernel
theorem dX12_opens__21 : decode cX12_opens_ 21 = .ok (.istore_n 3, 1) := by decide +kernel
theorem dX12_opens__22 : decode cX12_opens_ 22 = .ok (.iload_n 3, 1) := by decide +kernel
theorem dX12_opens__23 : decode cX12_opens_ 23 = .ok (.aload_n 0, 1) := by decide +kernel
theorem dX12_opens__24 : decode cX12_opens_ 24 = .ok (.iload_n 1, 1) := by decide +kernel
theorem dX12_opens__25 : decode cX12_opens_ 25 = .ok (.iconst 5, 1) := by decide +kernel
theorem dX12_opens__26 : decode cX12_opens_ 26 = .ok (.invokevirtual 322, 3) := by decide +kernel
theorem dX12_opens__29 : decode cX12_opens_ 29 = .ok (.if_icmp .le 8, 3) := by decide +kernel
theorem dX12_opens__32 : decode cX12_opens_ 32 = .ok (.ldc 188, 2) := by decide +kernel
theorem dX12_opens__34 : decode cX12_opens_ 34 = .ok (.goto 4, 3) := by decide +kernel
theorem dX12_opens__37 : decode cX12_opens_ 37 = .ok (.iload_n 3, 1) := by decide +kernel
theorem dX12_opens__38 : decode cX12_opens_ 38 = .ok (.ireturn, 1) := by decide +kernel
theorem dX12_nearest_0 : decode cX12_nearest 0 = .ok (.iconst (-1), 1) := by decide +kernel
theorem dX12_nearest_1 : decode cX12_nearest 1 = .ok (.istore_n 1, 1) := by decide +kernel
theorem dX12_nearest_2 : decode cX12_nearest 2 = .ok (.iconst 0, 1) := by decide +kernel
theorem dX12_nearest_3 : decode cX12_nearest 3 = .ok (.istore_n 2, 1) := by decide +kernel
theorem dX12_nearest_4 : decode cX12_nearest 4 = .ok (.iload_n 2, 1) := by decide +kernel
theorem dX12_nearest_5 : decode cX12_nearest 5 = .ok (.bipush 32, 2) := by decide +kernel
theorem dX12_nearest_7 : decode cX12_nearest 7 = .ok (.if_icmp .ge 51, 3) := by decide +kernel
theorem dX12_nearest_10 : decode cX12_nearest 10 = .ok (.aload_n 0, 1) := by decide +kernel
theorem dX12_nearest_11 : decode cX12_nearest 11 = .ok (.getfield 57, 3) := by decide +kernel
theorem dX12_nearest_14 : decode cX12_nearest 14 = .ok (.iload_n 2, 1) := by decide +kernel
theorem dX12_nearest_15 : decode cX12_nearest 15 = .ok (.baload, 1) := by decide +kernel
theorem dX12_nearest_16 : decode cX12_nearest 16 = .ok (.ifCond .ne 36, 3) := by decide +kernel
theorem dX12_nearest_19 : decode cX12_nearest 19 = .ok (.aload_n 0, 1) := by decide +kernel
theorem dX12_nearest_20 : decode cX12_nearest 20 = .ok (.getfield 54, 3) := by decide +kernel
theorem dX12_nearest_23 : decode cX12_nearest 23 = .ok (.iload_n 2, 1) := by decide +kernel
theorem dX12_nearest_24 : decode cX12_nearest 24 = .ok (.iaload, 1) := by decide +kernel
theorem dX12_nearest_25 : decode cX12_nearest 25 = .ok (.sipush 1439, 3) := by decide +kernel
theorem dX12_nearest_28 : decode cX12_nearest 28 = .ok (.if_icmp .gt 24, 3) := by decide +kernel
theorem dX12_nearest_31 : decode cX12_nearest 31 = .ok (.iload_n 1, 1) := by decide +kernel
theorem dX12_nearest_32 : decode cX12_nearest 32 = .ok (.ifCond .lt 18, 3) := by decide +kernel
theorem dX12_nearest_35 : decode cX12_nearest 35 = .ok (.aload_n 0, 1) := by decide +kernel
theorem dX12_nearest_36 : decode cX12_nearest 36 = .ok (.getfield 54, 3) := by decide +kernel
theorem dX12_nearest_39 : decode cX12_nearest 39 = .ok (.iload_n 2, 1) := by decide +kernel
theorem dX12_nearest_40 : decode cX12_nearest 40 = .ok (.iaload, 1) := by decide +kernel
theorem dX12_nearest_41 : decode cX12_nearest 41 = .ok (.aload_n 0, 1) := by decide +kernel
theorem dX12_nearest_42 : decode cX12_nearest 42 = .ok (.getfield 54, 3) := by decide +kernel
theorem dX12_nearest_45 : decode cX12_nearest 45 = .ok (.iload_n 1, 1) := by decide +kernel
theorem dX12_nearest_46 : decode cX12_nearest 46 = .ok (.iaload, 1) := by decide +kernel
theorem dX12_nearest_47 : decode cX12_nearest 47 = .ok (.if_icmp .ge 5, 3) := by decide +kernel
theorem dX12_nearest_50 : decode cX12_nearest 50 = .ok (.iload_n 2, 1) := by decide +kernel
theorem dX12_nearest_51 : decode cX12_nearest 51 = .ok (.istore_n 1, 1) := by decide +kernel
theorem dX12_nearest_52 : decode cX12_nearest 52 = .ok (.iinc 2 1, 3) := by decide +kernel
theorem dX12_nearest_55 : decode cX12_nearest 55 = .ok (.goto (-51), 3) := by decide +kernel
theorem dX12_nearest_58 : decode cX12_nearest 58 = .ok (.iload_n 1, 1) := by decide +kernel
theorem dX12_nearest_59 : decode cX12_nearest 59 = .ok (.ireturn, 1) := by decide +kernel
theorem dX12_comesTo_0 : decode cX12_comesTo 0 = .ok (.iload_n 2, 1) := by decide +kernel
theorem dX12_comesTo_1 : decode cX12_comesTo 1 = .ok (.aload_n 0, 1) := by decide +kernel
theorem dX12_comesTo_2 : decode cX12_comesTo 2 = .ok (.getfield 54, 3) := by decide +kernel
theorem dX12_comesTo_5 : decode cX12_comesTo 5 = .ok (.iload_n 1, 1) := by decide +kernel
theorem dX12_comesTo_6 : decode cX12_comesTo 6 = .ok (.iaload, 1) := by decide +kernel
theorem dX12_comesTo_7 : decode cX12_comesTo 7 = .ok (.if_icmp .ge 10, 3) := by decide +kernel
theorem dX12_comesTo_10 : decode cX12_comesTo 10 = .ok (.aload_n 0, 1) := by decide +kernel
theorem dX12_comesTo_11 : decode cX12_comesTo 11 = .ok (.getfield 54, 3) := by decide +kernel
theorem dX12_comesTo_14 : decode cX12_comesTo 14 = .ok (.iload_n 1, 1) := by decide +kernel
theorem dX12_comesTo_15 : decode cX12_comesTo 15 = .ok (.iload_n 2, 1) := by decide +kernel
theorem dX12_comesTo_16 : decode cX12_comesTo 16 = .ok (.iastore, 1) := by decide +kernel
theorem dX12_comesTo_17 : decode cX12_comesTo 17 = .ok (.return_, 1) := by decide +kernel
theorem dX12_spreads_0 : decode cX12_spreads 0 = .ok (.iconst 0, 1) := by decide +kernel
theorem dX12_spreads_1 : decode cX12_spreads 1 = .ok (.istore 4, 2) := by decide +kernel
theorem dX12_spreads_3 : decode cX12_spreads 3 = .ok (.iload 4, 2) := by decide +kernel
theorem dX12_spreads_5 : decode cX12_spreads 5 = .ok (.bipush 32, 2) := by decide +kernel
theorem dX12_spreads_7 : decode cX12_spreads 7 = .ok (.if_icmp .ge 26, 3) := by decide +kernel
theorem dX12_spreads_10 : decode cX12_spreads 10 = .ok (.aload_n 0, 1) := by decide +kernel
theorem dX12_spreads_11 : decode cX12_spreads 11 = .ok (.getfield 54, 3) := by decide +kernel
theorem dX12_spreads_14 : decode cX12_spreads 14 = .ok (.iload 4, 2) := by decide +kernel
theorem dX12_spreads_16 : decode cX12_spreads 16 = .ok (.ldc 188, 2) := by decide +kernel
theorem dX12_spreads_18 : decode cX12_spreads 18 = .ok (.iastore, 1) := by decide +kernel
theorem dX12_spreads_19 : decode cX12_spreads 19 = .ok (.aload_n 0, 1) := by decide +kernel
theorem dX12_spreads_20 : decode cX12_spreads 20 = .ok (.getfield 57, 3) := by decide +kernel
theorem dX12_spreads_23 : decode cX12_spreads 23 = .ok (.iload 4, 2) := by decide +kernel
theorem dX12_spreads_25 : decode cX12_spreads 25 = .ok (.iconst 0, 1) := by decide +kernel
theorem dX12_spreads_26 : decode cX12_spreads 26 = .ok (.bastore, 1) := by decide +kernel
theorem dX12_spreads_27 : decode cX12_spreads 27 = .ok (.iinc 4 1, 3) := by decide +kernel
theorem dX12_spreads_30 : decode cX12_spreads 30 = .ok (.goto (-27), 3) := by decide +kernel
theorem dX12_spreads_33 : decode cX12_spreads 33 = .ok (.aload_n 0, 1) := by decide +kernel
theorem dX12_spreads_34 : decode cX12_spreads 34 = .ok (.getfield 54, 3) := by decide +kernel
theorem dX12_spreads_37 : decode cX12_spreads 37 = .ok (.iconst 2, 1) := by decide +kernel
theorem dX12_spreads_38 : decode cX12_spreads 38 = .ok (.iload_n 1, 1) := by decide +kernel
theorem dX12_spreads_39 : decode cX12_spreads 39 = .ok (.imul, 1) := by decide +kernel
theorem dX12_spreads_40 : decode cX12_spreads 40 = .ok (.iload_n 3, 1) := by decide +kernel
theorem dX12_spreads_41 : decode cX12_spreads 41 = .ok (.ifCond .eq 7, 3) := by decide +kernel
theorem dX12_spreads_44 : decode cX12_spreads 44 = .ok (.iconst 0, 1) := by decide +kernel
theorem dX12_spreads_45 : decode cX12_spreads 45 = .ok (.goto 4, 3) := by decide +kernel
theorem dX12_spreads_48 : decode cX12_spreads 48 = .ok (.iconst 1, 1) := by decide +kernel
theorem dX12_spreads_49 : decode cX12_spreads 49 = .ok (.iadd, 1) := by decide +kernel
theorem dX12_spreads_50 : decode cX12_spreads 50 = .ok (.iload_n 2, 1) := by decide +kernel
theorem dX12_spreads_51 : decode cX12_spreads 51 = .ok (.iastore, 1) := by decide +kernel
theorem dX12_spreads_52 : decode cX12_spreads 52 = .ok (.aload_n 0, 1) := by decide +kernel
theorem dX12_spreads_53 : decode cX12_spreads 53 = .ok (.invokevirtual 407, 3) := by decide +kernel
theorem dX12_spreads_56 : decode cX12_spreads 56 = .ok (.istore 4, 2) := by decide +kernel
theorem dX12_spreads_58 : decode cX12_spreads 58 = .ok (.iload 4, 2) := by decide +kernel
theorem dX12_spreads_60 : decode cX12_spreads 60 = .ok (.ifCond .lt 184, 3) := by decide +kernel
theorem dX12_spreads_63 : decode cX12_spreads 63 = .ok (.aload_n 0, 1) := by decide +kernel
theorem dX12_spreads_64 : decode cX12_spreads 64 = .ok (.getfield 57, 3) := by decide +kernel
theorem dX12_spreads_67 : decode cX12_spreads 67 = .ok (.iload 4, 2) := by decide +kernel
theorem dX12_spreads_69 : decode cX12_spreads 69 = .ok (.iconst 1, 1) := by decide +kernel
theorem dX12_spreads_70 : decode cX12_spreads 70 = .ok (.bastore, 1) := by decide +kernel
theorem dX12_spreads_71 : decode cX12_spreads 71 = .ok (.aload_n 0, 1) := by decide +kernel
theorem dX12_spreads_72 : decode cX12_spreads 72 = .ok (.getfield 54, 3) := by decide +kernel
theorem dX12_spreads_75 : decode cX12_spreads 75 = .ok (.iload 4, 2) := by decide +kernel
theorem dX12_spreads_77 : decode cX12_spreads 77 = .ok (.iaload, 1) := by decide +kernel
theorem dX12_spreads_78 : decode cX12_spreads 78 = .ok (.istore 5, 2) := by decide +kernel
theorem dX12_spreads_80 : decode cX12_spreads 80 = .ok (.iconst 0, 1) := by decide +kernel
theorem dX12_spreads_81 : decode cX12_spreads 81 = .ok (.istore 6, 2) := by decide +kernel
theorem dX12_spreads_83 : decode cX12_spreads 83 = .ok (.iload 6, 2) := by decide +kernel
theorem dX12_spreads_85 : decode cX12_spreads 85 = .ok (.aload_n 0, 1) := by decide +kernel
theorem dX12_spreads_86 : decode cX12_spreads 86 = .ok (.getfield 48, 3) := by decide +kernel
theorem dX12_spreads_89 : decode cX12_spreads 89 = .ok (.iconst 1, 1) := by decide +kernel
theorem dX12_spreads_90 : decode cX12_spreads 90 = .ok (.iaload, 1) := by decide +kernel
theorem dX12_spreads_91 : decode cX12_spreads 91 = .ok (.if_icmp .ge 69, 3) := by decide +kernel
theorem dX12_spreads_94 : decode cX12_spreads 94 = .ok (.aload_n 0, 1) := by decide +kernel
theorem dX12_spreads_95 : decode cX12_spreads 95 = .ok (.iload 6, 2) := by decide +kernel
theorem dX12_spreads_97 : decode cX12_spreads 97 = .ok (.iload 4, 2) := by decide +kernel
theorem dX12_spreads_99 : decode cX12_spreads 99 = .ok (.iconst 2, 1) := by decide +kernel
theorem dX12_spreads_100 : decode cX12_spreads 100 = .ok (.idiv, 1) := by decide +kernel
theorem dX12_spreads_101 : decode cX12_spreads 101 = .ok (.invokevirtual 349, 3) := by decide +kernel
theorem dX12_spreads_104 : decode cX12_spreads 104 = .ok (.istore 7, 2) := by decide +kernel
theorem dX12_spreads_106 : decode cX12_spreads 106 = .ok (.iload 7, 2) := by decide +kernel
theorem dX12_spreads_108 : decode cX12_spreads 108 = .ok (.ifCond .lt 46, 3) := by decide +kernel
theorem dX12_spreads_111 : decode cX12_spreads 111 = .ok (.aload_n 0, 1) := by decide +kernel
theorem dX12_spreads_112 : decode cX12_spreads 112 = .ok (.iload 6, 2) := by decide +kernel
theorem dX12_spreads_114 : decode cX12_spreads 114 = .ok (.iload 5, 2) := by decide +kernel
theorem dX12_spreads_116 : decode cX12_spreads 116 = .ok (.invokevirtual 410, 3) := by decide +kernel
theorem dX12_spreads_119 : decode cX12_spreads 119 = .ok (.sipush 1439, 3) := by decide +kernel
theorem dX12_spreads_122 : decode cX12_spreads 122 = .ok (.if_icmp .gt 32, 3) := by decide +kernel
theorem dX12_spreads_125 : decode cX12_spreads 125 = .ok (.aload_n 0, 1) := by decide +kernel
theorem dX12_spreads_126 : decode cX12_spreads 126 = .ok (.iconst 2, 1) := by decide +kernel
theorem dX12_spreads_127 : decode cX12_spreads 127 = .ok (.iload 7, 2) := by decide +kernel
theorem dX12_spreads_129 : decode cX12_spreads 129 = .ok (.imul, 1) := by decide +kernel
theorem dX12_spreads_130 : decode cX12_spreads 130 = .ok (.iload 4, 2) := by decide +kernel
theorem dX12_spreads_132 : decode cX12_spreads 132 = .ok (.iconst 2, 1) := by decide +kernel
theorem dX12_spreads_133 : decode cX12_spreads 133 = .ok (.irem, 1) := by decide +kernel
theorem dX12_spreads_134 : decode cX12_spreads 134 = .ok (.iadd, 1) := by decide +kernel
theorem dX12_spreads_135 : decode cX12_spreads 135 = .ok (.aload_n 0, 1) := by decide +kernel
theorem dX12_spreads_136 : decode cX12_spreads 136 = .ok (.iload 6, 2) := by decide +kernel
theorem dX12_spreads_138 : decode cX12_spreads 138 = .ok (.iload 5, 2) := by decide +kernel
theorem dX12_spreads_140 : decode cX12_spreads 140 = .ok (.invokevirtual 410, 3) := by decide +kernel
theorem dX12_spreads_143 : decode cX12_spreads 143 = .ok (.aload_n 0, 1) := by decide +kernel
theorem dX12_spreads_144 : decode cX12_spreads 144 = .ok (.iload 6, 2) := by decide +kernel
theorem dX12_spreads_146 : decode cX12_spreads 146 = .ok (.iconst 2, 1) := by decide +kernel
theorem dX12_spreads_147 : decode cX12_spreads 147 = .ok (.invokevirtual 322, 3) := by decide +kernel
theorem dX12_spreads_150 : decode cX12_spreads 150 = .ok (.iadd, 1) := by decide +kernel
theorem dX12_spreads_151 : decode cX12_spreads 151 = .ok (.invokevirtual 412, 3) := by decide +kernel
theorem dX12_spreads_154 : decode cX12_spreads 154 = .ok (.iinc 6 1, 3) := by decide +kernel
theorem dX12_spreads_157 : decode cX12_spreads 157 = .ok (.goto (-74), 3) := by decide +kernel
theorem dX12_spreads_160 : decode cX12_spreads 160 = .ok (.iload 4, 2) := by decide +kernel
theorem dX12_spreads_162 : decode cX12_spreads 162 = .ok (.iconst 2, 1) := by decide +kernel
theorem dX12_spreads_163 : decode cX12_spreads 163 = .ok (.irem, 1) := by decide +kernel
theorem dX12_spreads_164 : decode cX12_spreads 164 = .ok (.ifCond .ne 71, 3) := by decide +kernel
theorem dX12_spreads_167 : decode cX12_spreads 167 = .ok (.aload_n 0, 1) := by decide +kernel
theorem dX12_spreads_168 : decode cX12_spreads 168 = .ok (.getfield 48, 3) := by decide +kernel
theorem dX12_spreads_171 : decode cX12_spreads 171 = .ok (.iconst 4, 1) := by decide +kernel
theorem dX12_spreads_172 : decode cX12_spreads 172 = .ok (.iaload, 1) := by decide +kernel
theorem dX12_spreads_173 : decode cX12_spreads 173 = .ok (.ifCond .le 62, 3) := by decide +kernel
theorem dX12_spreads_176 : decode cX12_spreads 176 = .ok (.iload 5, 2) := by decide +kernel
theorem dX12_spreads_178 : decode cX12_spreads 178 = .ok (.aload_n 0, 1) := by decide +kernel
theorem dX12_spreads_179 : decode cX12_spreads 179 = .ok (.getfield 48, 3) := by decide +kernel
theorem dX12_spreads_182 : decode cX12_spreads 182 = .ok (.bipush 6, 2) := by decide +kernel
theorem dX12_spreads_184 : decode cX12_spreads 184 = .ok (.iaload, 1) := by decide +kernel
theorem dX12_spreads_185 : decode cX12_spreads 185 = .ok (.iadd, 1) := by decide +kernel
theorem dX12_spreads_186 : decode cX12_spreads 186 = .ok (.iconst 1, 1) := by decide +kernel
theorem dX12_spreads_187 : decode cX12_spreads 187 = .ok (.isub, 1) := by decide +kernel
theorem dX12_spreads_188 : decode cX12_spreads 188 = .ok (.aload_n 0, 1) := by decide +kernel
theorem dX12_spreads_189 : decode cX12_spreads 189 = .ok (.getfield 48, 3) := by decide +kernel
theorem dX12_spreads_192 : decode cX12_spreads 192 = .ok (.bipush 6, 2) := by decide +kernel
theorem dX12_spreads_194 : decode cX12_spreads 194 = .ok (.iaload, 1) := by decide +kernel
theorem dX12_spreads_195 : decode cX12_spreads 195 = .ok (.idiv, 1) := by decide +kernel
theorem dX12_spreads_196 : decode cX12_spreads 196 = .ok (.aload_n 0, 1) := by decide +kernel
theorem dX12_spreads_197 : decode cX12_spreads 197 = .ok (.getfield 48, 3) := by decide +kernel
theorem dX12_spreads_200 : decode cX12_spreads 200 = .ok (.bipush 6, 2) := by decide +kernel
theorem dX12_spreads_202 : decode cX12_spreads 202 = .ok (.iaload, 1) := by decide +kernel
theorem dX12_spreads_203 : decode cX12_spreads 203 = .ok (.imul, 1) := by decide +kernel
theorem dX12_spreads_204 : decode cX12_spreads 204 = .ok (.istore 6, 2) := by decide +kernel
theorem dX12_spreads_206 : decode cX12_spreads 206 = .ok (.iload 6, 2) := by decide +kernel
theorem dX12_spreads_208 : decode cX12_spreads 208 = .ok (.sipush 1439, 3) := by decide +kernel
theorem dX12_spreads_211 : decode cX12_spreads 211 = .ok (.if_icmp .gt 24, 3) := by decide +kernel
theorem dX12_spreads_214 : decode cX12_spreads 214 = .ok (.aload_n 0, 1) := by decide +kernel
theorem dX12_spreads_215 : decode cX12_spreads 215 = .ok (.iconst 2, 1) := by decide +kernel
theorem dX12_spreads_216 : decode cX12_spreads 216 = .ok (.aload_n 0, 1) := by decide +kernel
theorem dX12_spreads_217 : decode cX12_spreads 217 = .ok (.invokevirtual 333, 3) := by decide +kernel
theorem dX12_spreads_220 : decode cX12_spreads 220 = .ok (.imul, 1) := by decide +kernel
theorem dX12_spreads_221 : decode cX12_spreads 221 = .ok (.iconst 1, 1) := by decide +kernel
theorem dX12_spreads_222 : decode cX12_spreads 222 = .ok (.iadd, 1) := by decide +kernel
theorem dX12_spreads_223 : decode cX12_spreads 223 = .ok (.iload 6, 2) := by decide +kernel
theorem dX12_spreads_225 : decode cX12_spreads 225 = .ok (.aload_n 0, 1) := by decide +kernel
theorem dX12_spreads_226 : decode cX12_spreads 226 = .ok (.getfield 48, 3) := by decide +kernel
theorem dX12_spreads_229 : decode cX12_spreads 229 = .ok (.iconst 4, 1) := by decide +kernel
theorem dX12_spreads_230 : decode cX12_spreads 230 = .ok (.iaload, 1) := by decide +kernel
theorem dX12_spreads_231 : decode cX12_spreads 231 = .ok (.iadd, 1) := by decide +kernel
theorem dX12_spreads_232 : decode cX12_spreads 232 = .ok (.invokevirtual 412, 3) := by decide +kernel
theorem dX12_spreads_235 : decode cX12_spreads 235 = .ok (.aload_n 0, 1) := by decide +kernel
theorem dX12_spreads_236 : decode cX12_spreads 236 = .ok (.invokevirtual 407, 3) := by decide +kernel
theorem dX12_spreads_239 : decode cX12_spreads 239 = .ok (.istore 4, 2) := by decide +kernel
theorem dX12_spreads_241 : decode cX12_spreads 241 = .ok (.goto (-183), 3) := by decide +kernel
theorem dX12_spreads_244 : decode cX12_spreads 244 = .ok (.return_, 1) := by decide +kernel
theorem dX12_soonestTo_0 : decode cX12_soonestTo 0 = .ok (.aload_n 0, 1) := by decide +kernel
theorem dX12_soonestTo_1 : decode cX12_soonestTo 1 = .ok (.getfield 54, 3) := by decide +kernel
theorem dX12_soonestTo_4 : decode cX12_soonestTo 4 = .ok (.iconst 2, 1) := by decide +kernel
theorem dX12_soonestTo_5 : decode cX12_soonestTo 5 = .ok (.iload_n 1, 1) := by decide +kernel
theorem dX12_soonestTo_6 : decode cX12_soonestTo 6 = .ok (.imul, 1) := by decide +kernel
theorem dX12_soonestTo_7 : decode cX12_soonestTo 7 = .ok (.iaload, 1) := by decide +kernel
theorem dX12_soonestTo_8 : decode cX12_soonestTo 8 = .ok (.aload_n 0, 1) := by decide +kernel
theorem dX12_soonestTo_9 : decode cX12_soonestTo 9 = .ok (.getfield 54, 3) := by decide +kernel
theorem dX12_soonestTo_12 : decode cX12_soonestTo 12 = .ok (.iconst 2, 1) := by decide +kernel
theorem dX12_soonestTo_13 : decode cX12_soonestTo 13 = .ok (.iload_n 1, 1) := by decide +kernel
theorem dX12_soonestTo_14 : decode cX12_soonestTo 14 = .ok (.imul, 1) := by decide +kernel
theorem dX12_soonestTo_15 : decode cX12_soonestTo 15 = .ok (.iconst 1, 1) := by decide +kernel
theorem dX12_soonestTo_16 : decode cX12_soonestTo 16 = .ok (.iadd, 1) := by decide +kernel
theorem dX12_soonestTo_17 : decode cX12_soonestTo 17 = .ok (.iaload, 1) := by decide +kernel
theorem dX12_soonestTo_18 : decode cX12_soonestTo 18 = .ok (.if_icmp .ge 14, 3) := by decide +kernel
theorem dX12_soonestTo_21 : decode cX12_soonestTo 21 = .ok (.aload_n 0, 1) := by decide +kernel
theorem dX12_soonestTo_22 : decode cX12_soonestTo 22 = .ok (.getfield 54, 3) := by decide +kernel
theorem dX12_soonestTo_25 : decode cX12_soonestTo 25 = .ok (.iconst 2, 1) := by decide +kernel
theorem dX12_soonestTo_26 : decode cX12_soonestTo 26 = .ok (.iload_n 1, 1) := by decide +kernel
theorem dX12_soonestTo_27 : decode cX12_soonestTo 27 = .ok (.imul, 1) := by decide +kernel
theorem dX12_soonestTo_28 : decode cX12_soonestTo 28 = .ok (.iaload, 1) := by decide +kernel
theorem dX12_soonestTo_29 : decode cX12_soonestTo 29 = .ok (.goto 13, 3) := by decide +kernel
theorem dX12_soonestTo_32 : decode cX12_soonestTo 32 = .ok (.aload_n 0, 1) := by decide +kernel
theorem dX12_soonestTo_33 : decode cX12_soonestTo 33 = .ok (.getfield 54, 3) := by decide +kernel
theorem dX12_soonestTo_36 : decode cX12_soonestTo 36 = .ok (.iconst 2, 1) := by decide +kernel
theorem dX12_soonestTo_37 : decode cX12_soonestTo 37 = .ok (.iload_n 1, 1) := by decide +kernel
theorem dX12_soonestTo_38 : decode cX12_soonestTo 38 = .ok (.imul, 1) := by decide +kernel
theorem dX12_soonestTo_39 : decode cX12_soonestTo 39 = .ok (.iconst 1, 1) := by decide +kernel
theorem dX12_soonestTo_40 : decode cX12_soonestTo 40 = .ok (.iadd, 1) := by decide +kernel
theorem dX12_soonestTo_41 : decode cX12_soonestTo 41 = .ok (.iaload, 1) := by decide +kernel
theorem dX12_soonestTo_42 : decode cX12_soonestTo 42 = .ok (.istore_n 2, 1) := by decide +kernel
theorem dX12_soonestTo_43 : decode cX12_soonestTo 43 = .ok (.iload_n 2, 1) := by decide +kernel
theorem dX12_soonestTo_44 : decode cX12_soonestTo 44 = .ok (.sipush 1439, 3) := by decide +kernel
theorem dX12_soonestTo_47 : decode cX12_soonestTo 47 = .ok (.if_icmp .le 8, 3) := by decide +kernel
theorem dX12_soonestTo_50 : decode cX12_soonestTo 50 = .ok (.ldc 188, 2) := by decide +kernel
theorem dX12_soonestTo_52 : decode cX12_soonestTo 52 = .ok (.goto 4, 3) := by decide +kernel
theorem dX12_soonestTo_55 : decode cX12_soonestTo 55 = .ok (.iload_n 2, 1) := by decide +kernel
theorem dX12_soonestTo_56 : decode cX12_soonestTo 56 = .ok (.ireturn, 1) := by decide +kernel
theorem dX12_soonest_0 : decode cX12_soonest 0 = .ok (.aload_n 0, 1) := by decide +kernel
theorem dX12_soonest_1 : decode cX12_soonest 1 = .ok (.iload_n 1, 1) := by decide +kernel
theorem dX12_soonest_2 : decode cX12_soonest 2 = .ok (.invokevirtual 325, 3) := by decide +kernel
theorem dX12_soonest_5 : decode cX12_soonest 5 = .ok (.ifCond .eq 18, 3) := by decide +kernel
theorem dX12_soonest_8 : decode cX12_soonest 8 = .ok (.iload_n 2, 1) := by decide +kernel
theorem dX12_soonest_9 : decode cX12_soonest 9 = .ok (.invokestatic 415, 3) := by decide +kernel
theorem dX12_soonest_12 : decode cX12_soonest 12 = .ok (.ifCond .eq 11, 3) := by decide +kernel
theorem dX12_soonest_15 : decode cX12_soonest 15 = .ok (.aload_n 0, 1) := by decide +kernel
theorem dX12_soonest_16 : decode cX12_soonest 16 = .ok (.iload_n 3, 1) := by decide +kernel
theorem dX12_soonest_17 : decode cX12_soonest 17 = .ok (.invokevirtual 325, 3) := by decide +kernel
theorem dX12_soonest_20 : decode cX12_soonest 20 = .ok (.ifCond .ne 5, 3) := by decide +kernel
theorem dX12_soonest_23 : decode cX12_soonest 23 = .ok (.iconst (-1), 1) := by decide +kernel
theorem dX12_soonest_24 : decode cX12_soonest 24 = .ok (.ireturn, 1) := by decide +kernel
theorem dX12_soonest_25 : decode cX12_soonest 25 = .ok (.aload_n 0, 1) := by decide +kernel
theorem dX12_soonest_26 : decode cX12_soonest 26 = .ok (.iload_n 1, 1) := by decide +kernel
theorem dX12_soonest_27 : decode cX12_soonest 27 = .ok (.iload_n 2, 1) := by decide +kernel
theorem dX12_soonest_28 : decode cX12_soonest 28 = .ok (.iload 4, 2) := by decide +kernel
theorem dX12_soonest_30 : decode cX12_soonest 30 = .ok (.invokevirtual 418, 3) := by decide +kernel
theorem dX12_soonest_33 : decode cX12_soonest 33 = .ok (.aload_n 0, 1) := by decide +kernel
theorem dX12_soonest_34 : decode cX12_soonest 34 = .ok (.iload_n 3, 1) := by decide +kernel
theorem dX12_soonest_35 : decode cX12_soonest 35 = .ok (.invokevirtual 422, 3) := by decide +kernel
theorem dX12_soonest_38 : decode cX12_soonest 38 = .ok (.ldc 188, 2) := by decide +kernel
theorem dX12_soonest_40 : decode cX12_soonest 40 = .ok (.if_icmp .ne 8, 3) := by decide +kernel
theorem dX12_soonest_43 : decode cX12_soonest 43 = .ok (.bipush (-2), 2) := by decide +kernel
theorem dX12_soonest_45 : decode cX12_soonest 45 = .ok (.goto 8, 3) := by decide +kernel
theorem dX12_soonest_48 : decode cX12_soonest 48 = .ok (.aload_n 0, 1) := by decide +kernel
theorem dX12_soonest_49 : decode cX12_soonest 49 = .ok (.iload_n 3, 1) := by decide +kernel
theorem dX12_soonest_50 : decode cX12_soonest 50 = .ok (.invokevirtual 422, 3) := by decide +kernel
theorem dX12_soonest_53 : decode cX12_soonest 53 = .ok (.ireturn, 1) := by decide +kernel
theorem dX12_still_0 : decode cX12_still 0 = .ok (.aload_n 0, 1) := by decide +kernel
theorem dX12_still_1 : decode cX12_still 1 = .ok (.iload_n 1, 1) := by decide +kernel
theorem dX12_still_2 : decode cX12_still 2 = .ok (.invokevirtual 325, 3) := by decide +kernel
theorem dX12_still_5 : decode cX12_still 5 = .ok (.ifCond .eq 10, 3) := by decide +kernel
theorem dX12_still_8 : decode cX12_still 8 = .ok (.iload_n 2, 1) := by decide +kernel
theorem dX12_still_9 : decode cX12_still 9 = .ok (.invokestatic 415, 3) := by decide +kernel
theorem dX12_still_12 : decode cX12_still 12 = .ok (.ifCond .ne 5, 3) := by decide +kernel
theorem dX12_still_15 : decode cX12_still 15 = .ok (.iconst (-1), 1) := by decide +kernel
theorem dX12_still_16 : decode cX12_still 16 = .ok (.ireturn, 1) := by decide +kernel
theorem dX12_still_17 : decode cX12_still 17 = .ok (.aload_n 0, 1) := by decide +kernel
theorem dX12_still_18 : decode cX12_still 18 = .ok (.iload_n 1, 1) := by decide +kernel
theorem dX12_still_19 : decode cX12_still 19 = .ok (.iload_n 2, 1) := by decide +kernel
theorem dX12_still_20 : decode cX12_still 20 = .ok (.iload_n 3, 1) := by decide +kernel
theorem dX12_still_21 : decode cX12_still 21 = .ok (.invokevirtual 418, 3) := by decide +kernel
theorem dX12_still_24 : decode cX12_still 24 = .ok (.iconst 0, 1) := by decide +kernel
theorem dX12_still_25 : decode cX12_still 25 = .ok (.istore 4, 2) := by decide +kernel
theorem dX12_still_27 : decode cX12_still 27 = .ok (.iconst 0, 1) := by decide +kernel
theorem dX12_still_28 : decode cX12_still 28 = .ok (.istore 5, 2) := by decide +kernel
theorem dX12_still_30 : decode cX12_still 30 = .ok (.iload 5, 2) := by decide +kernel
theorem dX12_still_32 : decode cX12_still 32 = .ok (.aload_n 0, 1) := by decide +kernel
theorem dX12_still_33 : decode cX12_still 33 = .ok (.getfield 48, 3) := by decide +kernel
theorem dX12_still_36 : decode cX12_still 36 = .ok (.iconst 0, 1) := by decide +kernel
theorem dX12_still_37 : decode cX12_still 37 = .ok (.iaload, 1) := by decide +kernel
theorem dX12_still_38 : decode cX12_still 38 = .ok (.if_icmp .ge 33, 3) := by decide +kernel
theorem dX12_still_41 : decode cX12_still 41 = .ok (.iload 4, 2) := by decide +kernel
theorem dX12_still_43 : decode cX12_still 43 = .ok (.aload_n 0, 1) := by decide +kernel
theorem dX12_still_44 : decode cX12_still 44 = .ok (.iload 5, 2) := by decide +kernel
theorem dX12_still_46 : decode cX12_still 46 = .ok (.invokevirtual 422, 3) := by decide +kernel
theorem dX12_still_49 : decode cX12_still 49 = .ok (.ldc 188, 2) := by decide +kernel
theorem dX12_still_51 : decode cX12_still 51 = .ok (.if_icmp .ge 10, 3) := by decide +kernel
theorem dX12_still_54 : decode cX12_still 54 = .ok (.iconst 1, 1) := by decide +kernel
theorem dX12_still_55 : decode cX12_still 55 = .ok (.iload 5, 2) := by decide +kernel
theorem dX12_still_57 : decode cX12_still 57 = .ok (.ishl, 1) := by decide +kernel
theorem dX12_still_58 : decode cX12_still 58 = .ok (.goto 4, 3) := by decide +kernel
theorem dX12_still_61 : decode cX12_still 61 = .ok (.iconst 0, 1) := by decide +kernel
theorem dX12_still_62 : decode cX12_still 62 = .ok (.ior, 1) := by decide +kernel
theorem dX12_still_63 : decode cX12_still 63 = .ok (.istore 4, 2) := by decide +kernel
theorem dX12_still_65 : decode cX12_still 65 = .ok (.iinc 5 1, 3) := by decide +kernel
theorem dX12_still_68 : decode cX12_still 68 = .ok (.goto (-38), 3) := by decide +kernel
theorem dX12_still_71 : decode cX12_still 71 = .ok (.iload 4, 2) := by decide +kernel
theorem dX12_still_73 : decode cX12_still 73 = .ok (.ireturn, 1) := by decide +kernel
theorem dX12_descends_0 : decode cX12_descends 0 = .ok (.iconst 0, 1) := by decide +kernel
theorem dX12_descends_1 : decode cX12_descends 1 = .ok (.istore_n 2, 1) := by decide +kernel
theorem dX12_descends_2 : decode cX12_descends 2 = .ok (.iload_n 2, 1) := by decide +kernel
theorem dX12_descends_3 : decode cX12_descends 3 = .ok (.bipush 16, 2) := by decide +kernel
theorem dX12_descends_5 : decode cX12_descends 5 = .ok (.if_icmp .ge 41, 3) := by decide +kernel
theorem dX12_descends_8 : decode cX12_descends 8 = .ok (.aload_n 0, 1) := by decide +kernel
theorem dX12_descends_9 : decode cX12_descends 9 = .ok (.getfield 61, 3) := by decide +kernel
theorem dX12_descends_12 : decode cX12_descends 12 = .ok (.iload_n 2, 1) := by decide +kernel
theorem dX12_descends_13 : decode cX12_descends 13 = .ok (.iload_n 2, 1) := by decide +kernel
theorem dX12_descends_14 : decode cX12_descends 14 = .ok (.iload_n 1, 1) := by decide +kernel
theorem dX12_descends_15 : decode cX12_descends 15 = .ok (.if_icmp .ne 7, 3) := by decide +kernel
theorem dX12_descends_18 : decode cX12_descends 18 = .ok (.iconst 1, 1) := by decide +kernel
theorem dX12_descends_19 : decode cX12_descends 19 = .ok (.goto 4, 3) := by decide +kernel
theorem dX12_descends_22 : decode cX12_descends 22 = .ok (.iconst 0, 1) := by decide +kernel
theorem dX12_descends_23 : decode cX12_descends 23 = .ok (.iastore, 1) := by decide +kernel
theorem dX12_descends_24 : decode cX12_descends 24 = .ok (.aload_n 0, 1) := by decide +kernel
theorem dX12_descends_25 : decode cX12_descends 25 = .ok (.getfield 64, 3) := by decide +kernel
theorem dX12_descends_28 : decode cX12_descends 28 = .ok (.iload_n 2, 1) := by decide +kernel
theorem dX12_descends_29 : decode cX12_descends 29 = .ok (.iload_n 2, 1) := by decide +kernel
theorem dX12_descends_30 : decode cX12_descends 30 = .ok (.iload_n 1, 1) := by decide +kernel
theorem dX12_descends_31 : decode cX12_descends 31 = .ok (.if_icmp .ne 7, 3) := by decide +kernel
theorem dX12_descends_34 : decode cX12_descends 34 = .ok (.iconst 0, 1) := by decide +kernel
theorem dX12_descends_35 : decode cX12_descends 35 = .ok (.goto 4, 3) := by decide +kernel
theorem dX12_descends_38 : decode cX12_descends 38 = .ok (.iconst (-1), 1) := by decide +kernel
theorem dX12_descends_39 : decode cX12_descends 39 = .ok (.iastore, 1) := by decide +kernel
theorem dX12_descends_40 : decode cX12_descends 40 = .ok (.iinc 2 1, 3) := by decide +kernel
theorem dX12_descends_43 : decode cX12_descends 43 = .ok (.goto (-41), 3) := by decide +kernel
theorem dX12_descends_46 : decode cX12_descends 46 = .ok (.aload_n 0, 1) := by decide +kernel
theorem dX12_descends_47 : decode cX12_descends 47 = .ok (.getfield 48, 3) := by decide +kernel
theorem dX12_descends_50 : decode cX12_descends 50 = .ok (.bipush 12, 2) := by decide +kernel
theorem dX12_descends_52 : decode cX12_descends 52 = .ok (.iload_n 1, 1) := by decide +kernel
theorem dX12_descends_53 : decode cX12_descends 53 = .ok (.iadd, 1) := by decide +kernel
theorem dX12_descends_54 : decode cX12_descends 54 = .ok (.iaload, 1) := by decide +kernel
theorem dX12_descends_55 : decode cX12_descends 55 = .ok (.iconst 1, 1) := by decide +kernel
theorem dX12_descends_56 : decode cX12_descends 56 = .ok (.iadd, 1) := by decide +kernel
theorem dX12_descends_57 : decode cX12_descends 57 = .ok (.istore_n 2, 1) := by decide +kernel
theorem dX12_descends_58 : decode cX12_descends 58 = .ok (.iload_n 2, 1) := by decide +kernel
theorem dX12_descends_59 : decode cX12_descends 59 = .ok (.bipush 40, 2) := by decide +kernel
theorem dX12_descends_61 : decode cX12_descends 61 = .ok (.if_icmp .gt 174, 3) := by decide +kernel
theorem dX12_descends_64 : decode cX12_descends 64 = .ok (.iconst 0, 1) := by decide +kernel
theorem dX12_descends_65 : decode cX12_descends 65 = .ok (.istore_n 3, 1) := by decide +kernel
theorem dX12_descends_66 : decode cX12_descends 66 = .ok (.iload_n 3, 1) := by decide +kernel
theorem dX12_descends_67 : decode cX12_descends 67 = .ok (.aload_n 0, 1) := by decide +kernel
theorem dX12_descends_68 : decode cX12_descends 68 = .ok (.getfield 48, 3) := by decide +kernel
theorem dX12_descends_71 : decode cX12_descends 71 = .ok (.iconst 0, 1) := by decide +kernel
theorem dX12_descends_72 : decode cX12_descends 72 = .ok (.iaload, 1) := by decide +kernel
theorem dX12_descends_73 : decode cX12_descends 73 = .ok (.if_icmp .ge 156, 3) := by decide +kernel
theorem dX12_descends_76 : decode cX12_descends 76 = .ok (.iconst 0, 1) := by decide +kernel
theorem dX12_descends_77 : decode cX12_descends 77 = .ok (.istore 4, 2) := by decide +kernel
theorem dX12_descends_79 : decode cX12_descends 79 = .ok (.iload 4, 2) := by decide +kernel
theorem dX12_descends_81 : decode cX12_descends 81 = .ok (.aload_n 0, 1) := by decide +kernel
theorem dX12_descends_82 : decode cX12_descends 82 = .ok (.getfield 48, 3) := by decide +kernel
theorem dX12_descends_85 : decode cX12_descends 85 = .ok (.iconst 1, 1) := by decide +kernel
theorem dX12_descends_86 : decode cX12_descends 86 = .ok (.iaload, 1) := by decide +kernel
theorem dX12_descends_87 : decode cX12_descends 87 = .ok (.if_icmp .ge 136, 3) := by decide +kernel
theorem dX12_descends_90 : decode cX12_descends 90 = .ok (.aload_n 0, 1) := by decide +kernel
theorem dX12_descends_91 : decode cX12_descends 91 = .ok (.getfield 48, 3) := by decide +kernel
theorem dX12_descends_94 : decode cX12_descends 94 = .ok (.bipush 12, 2) := by decide +kernel
theorem dX12_descends_96 : decode cX12_descends 96 = .ok (.iload_n 3, 1) := by decide +kernel
theorem dX12_descends_97 : decode cX12_descends 97 = .ok (.iadd, 1) := by decide +kernel
theorem dX12_descends_98 : decode cX12_descends 98 = .ok (.iaload, 1) := by decide +kernel
theorem dX12_descends_99 : decode cX12_descends 99 = .ok (.iload_n 2, 1) := by decide +kernel
theorem dX12_descends_100 : decode cX12_descends 100 = .ok (.if_icmp .ne 123, 3) := by decide +kernel
theorem dX12_descends_103 : decode cX12_descends 103 = .ok (.aload_n 0, 1) := by decide +kernel
theorem dX12_descends_104 : decode cX12_descends 104 = .ok (.iload 4, 2) := by decide +kernel
theorem dX12_descends_106 : decode cX12_descends 106 = .ok (.iconst 1, 1) := by decide +kernel
theorem dX12_descends_107 : decode cX12_descends 107 = .ok (.invokevirtual 322, 3) := by decide +kernel
theorem dX12_descends_110 : decode cX12_descends 110 = .ok (.istore 5, 2) := by decide +kernel
theorem dX12_descends_112 : decode cX12_descends 112 = .ok (.aload_n 0, 1) := by decide +kernel
theorem dX12_descends_113 : decode cX12_descends 113 = .ok (.iload 4, 2) := by decide +kernel
theorem dX12_descends_115 : decode cX12_descends 115 = .ok (.iconst 3, 1) := by decide +kernel
theorem dX12_descends_116 : decode cX12_descends 116 = .ok (.invokevirtual 322, 3) := by decide +kernel
theorem dX12_descends_119 : decode cX12_descends 119 = .ok (.iconst 1, 1) := by decide +kernel
theorem dX12_descends_120 : decode cX12_descends 120 = .ok (.if_icmp .eq 97, 3) := by decide +kernel
theorem dX12_descends_123 : decode cX12_descends 123 = .ok (.aload_n 0, 1) := by decide +kernel
theorem dX12_descends_124 : decode cX12_descends 124 = .ok (.iload 4, 2) := by decide +kernel
theorem dX12_descends_126 : decode cX12_descends 126 = .ok (.iconst 0, 1) := by decide +kernel
theorem dX12_descends_127 : decode cX12_descends 127 = .ok (.invokevirtual 322, 3) := by decide +kernel
theorem dX12_descends_130 : decode cX12_descends 130 = .ok (.iload_n 3, 1) := by decide +kernel
theorem dX12_descends_131 : decode cX12_descends 131 = .ok (.if_icmp .ne 86, 3) := by decide +kernel
theorem dX12_descends_134 : decode cX12_descends 134 = .ok (.aload_n 0, 1) := by decide +kernel
theorem dX12_descends_135 : decode cX12_descends 135 = .ok (.getfield 64, 3) := by decide +kernel
theorem dX12_descends_138 : decode cX12_descends 138 = .ok (.iload 5, 2) := by decide +kernel
theorem dX12_descends_140 : decode cX12_descends 140 = .ok (.iaload, 1) := by decide +kernel
theorem dX12_descends_141 : decode cX12_descends 141 = .ok (.ifCond .ge 6, 3) := by decide +kernel
theorem dX12_descends_144 : decode cX12_descends 144 = .ok (.goto 73, 3) := by decide +kernel
theorem dX12_descends_147 : decode cX12_descends 147 = .ok (.aload_n 0, 1) := by decide +kernel
theorem dX12_descends_148 : decode cX12_descends 148 = .ok (.getfield 61, 3) := by decide +kernel
theorem dX12_descends_151 : decode cX12_descends 151 = .ok (.iload_n 3, 1) := by decide +kernel
theorem dX12_descends_152 : decode cX12_descends 152 = .ok (.aload_n 0, 1) := by decide +kernel
theorem dX12_descends_153 : decode cX12_descends 153 = .ok (.getfield 61, 3) := by decide +kernel
theorem dX12_descends_156 : decode cX12_descends 156 = .ok (.iload_n 3, 1) := by decide +kernel
theorem dX12_descends_157 : decode cX12_descends 157 = .ok (.iaload, 1) := by decide +kernel
theorem dX12_descends_158 : decode cX12_descends 158 = .ok (.aload_n 0, 1) := by decide +kernel
theorem dX12_descends_159 : decode cX12_descends 159 = .ok (.getfield 61, 3) := by decide +kernel
theorem dX12_descends_162 : decode cX12_descends 162 = .ok (.iload 5, 2) := by decide +kernel
theorem dX12_descends_164 : decode cX12_descends 164 = .ok (.iaload, 1) := by decide +kernel
theorem dX12_descends_165 : decode cX12_descends 165 = .ok (.iadd, 1) := by decide +kernel
theorem dX12_descends_166 : decode cX12_descends 166 = .ok (.ldc_w 425, 3) := by decide +kernel
theorem dX12_descends_169 : decode cX12_descends 169 = .ok (.if_icmp .le 9, 3) := by decide +kernel
theorem dX12_descends_172 : decode cX12_descends 172 = .ok (.ldc_w 425, 3) := by decide +kernel
theorem dX12_descends_175 : decode cX12_descends 175 = .ok (.goto 17, 3) := by decide +kernel
theorem dX12_descends_178 : decode cX12_descends 178 = .ok (.aload_n 0, 1) := by decide +kernel
theorem dX12_descends_179 : decode cX12_descends 179 = .ok (.getfield 61, 3) := by decide +kernel
theorem dX12_descends_182 : decode cX12_descends 182 = .ok (.iload_n 3, 1) := by decide +kernel
theorem dX12_descends_183 : decode cX12_descends 183 = .ok (.iaload, 1) := by decide +kernel
theorem dX12_descends_184 : decode cX12_descends 184 = .ok (.aload_n 0, 1) := by decide +kernel
theorem dX12_descends_185 : decode cX12_descends 185 = .ok (.getfield 61, 3) := by decide +kernel
theorem dX12_descends_188 : decode cX12_descends 188 = .ok (.iload 5, 2) := by decide +kernel
theorem dX12_descends_190 : decode cX12_descends 190 = .ok (.iaload, 1) := by decide +kernel
theorem dX12_descends_191 : decode cX12_descends 191 = .ok (.iadd, 1) := by decide +kernel
theorem dX12_descends_192 : decode cX12_descends 192 = .ok (.iastore, 1) := by decide +kernel
theorem dX12_descends_193 : decode cX12_descends 193 = .ok (.aload_n 0, 1) := by decide +kernel
theorem dX12_descends_194 : decode cX12_descends 194 = .ok (.getfield 64, 3) := by decide +kernel
theorem dX12_descends_197 : decode cX12_descends 197 = .ok (.iload_n 3, 1) := by decide +kernel
theorem dX12_descends_198 : decode cX12_descends 198 = .ok (.aload_n 0, 1) := by decide +kernel
theorem dX12_descends_199 : decode cX12_descends 199 = .ok (.getfield 64, 3) := by decide +kernel
theorem dX12_descends_202 : decode cX12_descends 202 = .ok (.iload_n 3, 1) := by decide +kernel
theorem dX12_descends_203 : decode cX12_descends 203 = .ok (.iaload, 1) := by decide +kernel
theorem dX12_descends_204 : decode cX12_descends 204 = .ok (.aload_n 0, 1) := by decide +kernel
theorem dX12_descends_205 : decode cX12_descends 205 = .ok (.getfield 64, 3) := by decide +kernel
theorem dX12_descends_208 : decode cX12_descends 208 = .ok (.iload 5, 2) := by decide +kernel
theorem dX12_descends_210 : decode cX12_descends 210 = .ok (.iaload, 1) := by decide +kernel
theorem dX12_descends_211 : decode cX12_descends 211 = .ok (.iconst 1, 1) := by decide +kernel
theorem dX12_descends_212 : decode cX12_descends 212 = .ok (.iadd, 1) := by decide +kernel
theorem dX12_descends_213 : decode cX12_descends 213 = .ok (.invokestatic 404, 3) := by decide +kernel
theorem dX12_descends_216 : decode cX12_descends 216 = .ok (.iastore, 1) := by decide +kernel
theorem dX12_descends_217 : decode cX12_descends 217 = .ok (.iinc 4 1, 3) := by decide +kernel
theorem dX12_descends_220 : decode cX12_descends 220 = .ok (.goto (-141), 3) := by decide +kernel
theorem dX12_descends_223 : decode cX12_descends 223 = .ok (.iinc 3 1, 3) := by decide +kernel
theorem dX12_descends_226 : decode cX12_descends 226 = .ok (.goto (-160), 3) := by decide +kernel
theorem dX12_descends_229 : decode cX12_descends 229 = .ok (.iinc 2 1, 3) := by decide +kernel
theorem dX12_descends_232 : decode cX12_descends 232 = .ok (.goto (-174), 3) := by decide +kernel
theorem dX12_descends_235 : decode cX12_descends 235 = .ok (.return_, 1) := by decide +kernel
theorem dX12_downs_0 : decode cX12_downs 0 = .ok (.aload_n 0, 1) := by decide +kernel
theorem dX12_downs_1 : decode cX12_downs 1 = .ok (.iload_n 1, 1) := by decide +kernel
theorem dX12_downs_2 : decode cX12_downs 2 = .ok (.invokevirtual 325, 3) := by decide +kernel
theorem dX12_downs_5 : decode cX12_downs 5 = .ok (.ifCond .eq 23, 3) := by decide +kernel
theorem dX12_downs_8 : decode cX12_downs 8 = .ok (.aload_n 0, 1) := by decide +kernel
theorem dX12_downs_9 : decode cX12_downs 9 = .ok (.iload_n 2, 1) := by decide +kernel
theorem dX12_downs_10 : decode cX12_downs 10 = .ok (.invokevirtual 325, 3) := by decide +kernel
theorem dX12_downs_13 : decode cX12_downs 13 = .ok (.ifCond .eq 15, 3) := by decide +kernel
theorem dX12_downs_16 : decode cX12_downs 16 = .ok (.iload_n 3, 1) := by decide +kernel
theorem dX12_downs_17 : decode cX12_downs 17 = .ok (.i2l, 1) := by decide +kernel
theorem dX12_downs_18 : decode cX12_downs 18 = .ok (.lconst 0, 1) := by decide +kernel
theorem dX12_downs_19 : decode cX12_downs 19 = .ok (.ldc2_w 328, 3) := by decide +kernel
theorem dX12_downs_22 : decode cX12_downs 22 = .ok (.invokestatic 148, 3) := by decide +kernel
theorem dX12_downs_25 : decode cX12_downs 25 = .ok (.ifCond .ne 5, 3) := by decide +kernel
theorem dX12_downs_28 : decode cX12_downs 28 = .ok (.iconst (-1), 1) := by decide +kernel
theorem dX12_downs_29 : decode cX12_downs 29 = .ok (.ireturn, 1) := by decide +kernel
theorem dX12_downs_30 : decode cX12_downs 30 = .ok (.aload_n 0, 1) := by decide +kernel
theorem dX12_downs_31 : decode cX12_downs 31 = .ok (.iload_n 2, 1) := by decide +kernel
theorem dX12_downs_32 : decode cX12_downs 32 = .ok (.invokevirtual 426, 3) := by decide +kernel
theorem dX12_downs_35 : decode cX12_downs 35 = .ok (.iload_n 3, 1) := by decide +kernel
theorem dX12_downs_36 : decode cX12_downs 36 = .ok (.ifCond .ne 10, 3) := by decide +kernel
theorem dX12_downs_39 : decode cX12_downs 39 = .ok (.aload_n 0, 1) := by decide +kernel
theorem dX12_downs_40 : decode cX12_downs 40 = .ok (.getfield 61, 3) := by decide +kernel
theorem dX12_downs_43 : decode cX12_downs 43 = .ok (.iload_n 1, 1) := by decide +kernel
theorem dX12_downs_44 : decode cX12_downs 44 = .ok (.iaload, 1) := by decide +kernel
theorem dX12_downs_45 : decode cX12_downs 45 = .ok (.ireturn, 1) := by decide +kernel
theorem dX12_downs_46 : decode cX12_downs 46 = .ok (.aload_n 0, 1) := by decide +kernel
theorem dX12_downs_47 : decode cX12_downs 47 = .ok (.getfield 64, 3) := by decide +kernel
theorem dX12_downs_50 : decode cX12_downs 50 = .ok (.iload_n 1, 1) := by decide +kernel
theorem dX12_downs_51 : decode cX12_downs 51 = .ok (.iaload, 1) := by decide +kernel
theorem dX12_downs_52 : decode cX12_downs 52 = .ok (.ifCond .ge 6, 3) := by decide +kernel
theorem dX12_downs_55 : decode cX12_downs 55 = .ok (.bipush (-2), 2) := by decide +kernel
theorem dX12_downs_57 : decode cX12_downs 57 = .ok (.ireturn, 1) := by decide +kernel
theorem dX12_downs_58 : decode cX12_downs 58 = .ok (.iload_n 3, 1) := by decide +kernel
theorem dX12_downs_59 : decode cX12_downs 59 = .ok (.iconst 1, 1) := by decide +kernel
theorem dX12_downs_60 : decode cX12_downs 60 = .ok (.if_icmp .ne 10, 3) := by decide +kernel
theorem dX12_downs_63 : decode cX12_downs 63 = .ok (.aload_n 0, 1) := by decide +kernel
theorem dX12_downs_64 : decode cX12_downs 64 = .ok (.getfield 64, 3) := by decide +kernel
theorem dX12_downs_67 : decode cX12_downs 67 = .ok (.iload_n 1, 1) := by decide +kernel
theorem dX12_downs_68 : decode cX12_downs 68 = .ok (.iaload, 1) := by decide +kernel
theorem dX12_downs_69 : decode cX12_downs 69 = .ok (.ireturn, 1) := by decide +kernel
theorem dX12_downs_70 : decode cX12_downs 70 = .ok (.iconst 0, 1) := by decide +kernel
theorem dX12_downs_71 : decode cX12_downs 71 = .ok (.istore 4, 2) := by decide +kernel
theorem dX12_downs_73 : decode cX12_downs 73 = .ok (.iload 4, 2) := by decide +kernel
theorem dX12_downs_75 : decode cX12_downs 75 = .ok (.aload_n 0, 1) := by decide +kernel
theorem dX12_downs_76 : decode cX12_downs 76 = .ok (.getfield 48, 3) := by decide +kernel
theorem dX12_downs_79 : decode cX12_downs 79 = .ok (.iconst 1, 1) := by decide +kernel
theorem dX12_downs_80 : decode cX12_downs 80 = .ok (.iaload, 1) := by decide +kernel
theorem dX12_downs_81 : decode cX12_downs 81 = .ok (.if_icmp .ge 71, 3) := by decide +kernel
theorem dX12_downs_84 : decode cX12_downs 84 = .ok (.aload_n 0, 1) := by decide +kernel
theorem dX12_downs_85 : decode cX12_downs 85 = .ok (.iload 4, 2) := by decide +kernel
theorem dX12_downs_87 : decode cX12_downs 87 = .ok (.iconst 3, 1) := by decide +kernel
theorem dX12_downs_88 : decode cX12_downs 88 = .ok (.invokevirtual 322, 3) := by decide +kernel
theorem dX12_downs_91 : decode cX12_downs 91 = .ok (.ifCond .ne 55, 3) := by decide +kernel
theorem dX12_downs_94 : decode cX12_downs 94 = .ok (.aload_n 0, 1) := by decide +kernel
theorem dX12_downs_95 : decode cX12_downs 95 = .ok (.iload 4, 2) := by decide +kernel
theorem dX12_downs_97 : decode cX12_downs 97 = .ok (.iconst 0, 1) := by decide +kernel
theorem dX12_downs_98 : decode cX12_downs 98 = .ok (.invokevirtual 322, 3) := by decide +kernel
theorem dX12_downs_101 : decode cX12_downs 101 = .ok (.iload_n 1, 1) := by decide +kernel
theorem dX12_downs_102 : decode cX12_downs 102 = .ok (.if_icmp .ne 44, 3) := by decide +kernel
theorem dX12_downs_105 : decode cX12_downs 105 = .ok (.aload_n 0, 1) := by decide +kernel
theorem dX12_downs_106 : decode cX12_downs 106 = .ok (.getfield 64, 3) := by decide +kernel
theorem dX12_downs_109 : decode cX12_downs 109 = .ok (.aload_n 0, 1) := by decide +kernel
theorem dX12_downs_110 : decode cX12_downs 110 = .ok (.iload 4, 2) := by decide +kernel
theorem dX12_downs_112 : decode cX12_downs 112 = .ok (.iconst 1, 1) := by decide +kernel
theorem dX12_downs_113 : decode cX12_downs 113 = .ok (.invokevirtual 322, 3) := by decide +kernel
theorem dX12_downs_116 : decode cX12_downs 116 = .ok (.iaload, 1) := by decide +kernel
theorem dX12_downs_117 : decode cX12_downs 117 = .ok (.ifCond .lt 29, 3) := by decide +kernel
theorem dX12_downs_120 : decode cX12_downs 120 = .ok (.aload_n 0, 1) := by decide +kernel
theorem dX12_downs_121 : decode cX12_downs 121 = .ok (.getfield 64, 3) := by decide +kernel
theorem dX12_downs_124 : decode cX12_downs 124 = .ok (.aload_n 0, 1) := by decide +kernel
theorem dX12_downs_125 : decode cX12_downs 125 = .ok (.iload 4, 2) := by decide +kernel
theorem dX12_downs_127 : decode cX12_downs 127 = .ok (.iconst 1, 1) := by decide +kernel
theorem dX12_downs_128 : decode cX12_downs 128 = .ok (.invokevirtual 322, 3) := by decide +kernel
theorem dX12_downs_131 : decode cX12_downs 131 = .ok (.iaload, 1) := by decide +kernel
theorem dX12_downs_132 : decode cX12_downs 132 = .ok (.iconst 1, 1) := by decide +kernel
theorem dX12_downs_133 : decode cX12_downs 133 = .ok (.iadd, 1) := by decide +kernel
theorem dX12_downs_134 : decode cX12_downs 134 = .ok (.aload_n 0, 1) := by decide +kernel
theorem dX12_downs_135 : decode cX12_downs 135 = .ok (.getfield 64, 3) := by decide +kernel
theorem dX12_downs_138 : decode cX12_downs 138 = .ok (.iload_n 1, 1) := by decide +kernel
theorem dX12_downs_139 : decode cX12_downs 139 = .ok (.iaload, 1) := by decide +kernel
theorem dX12_downs_140 : decode cX12_downs 140 = .ok (.if_icmp .ne 6, 3) := by decide +kernel
theorem dX12_downs_143 : decode cX12_downs 143 = .ok (.iload 4, 2) := by decide +kernel
theorem dX12_downs_145 : decode cX12_downs 145 = .ok (.ireturn, 1) := by decide +kernel
theorem dX12_downs_146 : decode cX12_downs 146 = .ok (.iinc 4 1, 3) := by decide +kernel
theorem dX12_downs_149 : decode cX12_downs 149 = .ok (.goto (-76), 3) := by decide +kernel
theorem dX12_downs_152 : decode cX12_downs 152 = .ok (.bipush (-2), 2) := by decide +kernel
theorem dX12_downs_154 : decode cX12_downs 154 = .ok (.ireturn, 1) := by decide +kernel
theorem dX12_errand_0 : decode cX12_errand 0 = .ok (.aload_n 0, 1) := by decide +kernel
theorem dX12_errand_1 : decode cX12_errand 1 = .ok (.getfield 48, 3) := by decide +kernel
theorem dX12_errand_4 : decode cX12_errand 4 = .ok (.bipush 7, 2) := by decide +kernel
theorem dX12_errand_6 : decode cX12_errand 6 = .ok (.iaload, 1) := by decide +kernel
theorem dX12_errand_7 : decode cX12_errand 7 = .ok (.bipush 10, 2) := by decide +kernel
theorem dX12_errand_9 : decode cX12_errand 9 = .ok (.if_icmp .eq 44, 3) := by decide +kernel
theorem dX12_errand_12 : decode cX12_errand 12 = .ok (.aload_n 0, 1) := by decide +kernel
theorem dX12_errand_13 : decode cX12_errand 13 = .ok (.iload_n 1, 1) := by decide +kernel
theorem dX12_errand_14 : decode cX12_errand 14 = .ok (.invokevirtual 325, 3) := by decide +kernel
theorem dX12_errand_17 : decode cX12_errand 17 = .ok (.ifCond .eq 36, 3) := by decide +kernel
theorem dX12_errand_20 : decode cX12_errand 20 = .ok (.iload_n 2, 1) := by decide +kernel
theorem dX12_errand_21 : decode cX12_errand 21 = .ok (.invokestatic 415, 3) := by decide +kernel
theorem dX12_errand_24 : decode cX12_errand 24 = .ok (.ifCond .eq 29, 3) := by decide +kernel
theorem dX12_errand_27 : decode cX12_errand 27 = .ok (.iload_n 3, 1) := by decide +kernel
theorem dX12_errand_28 : decode cX12_errand 28 = .ok (.i2l, 1) := by decide +kernel
theorem dX12_errand_29 : decode cX12_errand 29 = .ok (.iload_n 2, 1) := by decide +kernel
theorem dX12_errand_30 : decode cX12_errand 30 = .ok (.i2l, 1) := by decide +kernel
theorem dX12_errand_31 : decode cX12_errand 31 = .ok (.ldc2_w 429, 3) := by decide +kernel
theorem dX12_errand_34 : decode cX12_errand 34 = .ok (.invokestatic 148, 3) := by decide +kernel
theorem dX12_errand_37 : decode cX12_errand 37 = .ok (.ifCond .eq 16, 3) := by decide +kernel
theorem dX12_errand_40 : decode cX12_errand 40 = .ok (.iload 4, 2) := by decide +kernel
theorem dX12_errand_42 : decode cX12_errand 42 = .ok (.i2l, 1) := by decide +kernel
theorem dX12_errand_43 : decode cX12_errand 43 = .ok (.lconst 0, 1) := by decide +kernel
theorem dX12_errand_44 : decode cX12_errand 44 = .ok (.ldc2_w 431, 3) := by decide +kernel
theorem dX12_errand_47 : decode cX12_errand 47 = .ok (.invokestatic 148, 3) := by decide +kernel
theorem dX12_errand_50 : decode cX12_errand 50 = .ok (.ifCond .ne 5, 3) := by decide +kernel
theorem dX12_errand_53 : decode cX12_errand 53 = .ok (.iconst (-1), 1) := by decide +kernel
theorem dX12_errand_54 : decode cX12_errand 54 = .ok (.ireturn, 1) := by decide +kernel
theorem dX12_errand_55 : decode cX12_errand 55 = .ok (.sipush 212, 3) := by decide +kernel
theorem dX12_errand_58 : decode cX12_errand 58 = .ok (.iconst 4, 1) := by decide +kernel
theorem dX12_errand_59 : decode cX12_errand 59 = .ok (.aload_n 0, 1) := by decide +kernel
theorem dX12_errand_60 : decode cX12_errand 60 = .ok (.getfield 48, 3) := by decide +kernel
theorem dX12_errand_63 : decode cX12_errand 63 = .ok (.bipush 7, 2) := by decide +kernel
theorem dX12_errand_65 : decode cX12_errand 65 = .ok (.iaload, 1) := by decide +kernel
theorem dX12_errand_66 : decode cX12_errand 66 = .ok (.imul, 1) := by decide +kernel
theorem dX12_errand_67 : decode cX12_errand 67 = .ok (.iadd, 1) := by decide +kernel
theorem dX12_errand_68 : decode cX12_errand 68 = .ok (.istore 5, 2) := by decide +kernel
theorem dX12_errand_70 : decode cX12_errand 70 = .ok (.aload_n 0, 1) := by decide +kernel
theorem dX12_errand_71 : decode cX12_errand 71 = .ok (.getfield 48, 3) := by decide +kernel
theorem dX12_errand_74 : decode cX12_errand 74 = .ok (.iload 5, 2) := by decide +kernel
theorem dX12_errand_76 : decode cX12_errand 76 = .ok (.iload_n 1, 1) := by decide +kernel
theorem dX12_errand_77 : decode cX12_errand 77 = .ok (.iastore, 1) := by decide +kernel
theorem dX12_errand_78 : decode cX12_errand 78 = .ok (.aload_n 0, 1) := by decide +kernel
theorem dX12_errand_79 : decode cX12_errand 79 = .ok (.getfield 48, 3) := by decide +kernel
theorem dX12_errand_82 : decode cX12_errand 82 = .ok (.iload 5, 2) := by decide +kernel
theorem dX12_errand_84 : decode cX12_errand 84 = .ok (.iconst 1, 1) := by decide +kernel
theorem dX12_errand_85 : decode cX12_errand 85 = .ok (.iadd, 1) := by decide +kernel
theorem dX12_errand_86 : decode cX12_errand 86 = .ok (.iload_n 2, 1) := by decide +kernel
theorem dX12_errand_87 : decode cX12_errand 87 = .ok (.iastore, 1) := by decide +kernel
theorem dX12_errand_88 : decode cX12_errand 88 = .ok (.aload_n 0, 1) := by decide +kernel
theorem dX12_errand_89 : decode cX12_errand 89 = .ok (.getfield 48, 3) := by decide +kernel
theorem dX12_errand_92 : decode cX12_errand 92 = .ok (.iload 5, 2) := by decide +kernel
theorem dX12_errand_94 : decode cX12_errand 94 = .ok (.iconst 2, 1) := by decide +kernel
theorem dX12_errand_95 : decode cX12_errand 95 = .ok (.iadd, 1) := by decide +kernel
theorem dX12_errand_96 : decode cX12_errand 96 = .ok (.iload_n 3, 1) := by decide +kernel
theorem dX12_errand_97 : decode cX12_errand 97 = .ok (.iastore, 1) := by decide +kernel
theorem dX12_errand_98 : decode cX12_errand 98 = .ok (.aload_n 0, 1) := by decide +kernel
theorem dX12_errand_99 : decode cX12_errand 99 = .ok (.getfield 48, 3) := by decide +kernel
theorem dX12_errand_102 : decode cX12_errand 102 = .ok (.iload 5, 2) := by decide +kernel
theorem dX12_errand_104 : decode cX12_errand 104 = .ok (.iconst 3, 1) := by decide +kernel
theorem dX12_errand_105 : decode cX12_errand 105 = .ok (.iadd, 1) := by decide +kernel
theorem dX12_errand_106 : decode cX12_errand 106 = .ok (.iload 4, 2) := by decide +kernel
theorem dX12_errand_108 : decode cX12_errand 108 = .ok (.iastore, 1) := by decide +kernel
theorem dX12_errand_109 : decode cX12_errand 109 = .ok (.aload_n 0, 1) := by decide +kernel
theorem dX12_errand_110 : decode cX12_errand 110 = .ok (.getfield 48, 3) := by decide +kernel
theorem dX12_errand_113 : decode cX12_errand 113 = .ok (.bipush 7, 2) := by decide +kernel
theorem dX12_errand_115 : decode cX12_errand 115 = .ok (.dup2, 1) := by decide +kernel
theorem dX12_errand_116 : decode cX12_errand 116 = .ok (.iaload, 1) := by decide +kernel
theorem dX12_errand_117 : decode cX12_errand 117 = .ok (.iconst 1, 1) := by decide +kernel
theorem dX12_errand_118 : decode cX12_errand 118 = .ok (.iadd, 1) := by decide +kernel
theorem dX12_errand_119 : decode cX12_errand 119 = .ok (.iastore, 1) := by decide +kernel
theorem dX12_errand_120 : decode cX12_errand 120 = .ok (.aload_n 0, 1) := by decide +kernel
theorem dX12_errand_121 : decode cX12_errand 121 = .ok (.getfield 48, 3) := by decide +kernel
theorem dX12_errand_124 : decode cX12_errand 124 = .ok (.bipush 7, 2) := by decide +kernel
theorem dX12_errand_126 : decode cX12_errand 126 = .ok (.iaload, 1) := by decide +kernel
theorem dX12_errand_127 : decode cX12_errand 127 = .ok (.iconst 1, 1) := by decide +kernel
theorem dX12_errand_128 : decode cX12_errand 128 = .ok (.isub, 1) := by decide +kernel
theorem dX12_errand_129 : decode cX12_errand 129 = .ok (.ireturn, 1) := by decide +kernel
theorem dX12_errandOf_0 : decode cX12_errandOf 0 = .ok (.aload_n 0, 1) := by decide +kernel
theorem dX12_errandOf_1 : decode cX12_errandOf 1 = .ok (.getfield 48, 3) := by decide +kernel
theorem dX12_errandOf_4 : decode cX12_errandOf 4 = .ok (.sipush 212, 3) := by decide +kernel
theorem dX12_errandOf_7 : decode cX12_errandOf 7 = .ok (.iconst 4, 1) := by decide +kernel
theorem dX12_errandOf_8 : decode cX12_errandOf 8 = .ok (.iload_n 1, 1) := by decide +kernel
theorem dX12_errandOf_9 : decode cX12_errandOf 9 = .ok (.imul, 1) := by decide +kernel
theorem dX12_errandOf_10 : decode cX12_errandOf 10 = .ok (.iadd, 1) := by decide +kernel
theorem dX12_errandOf_11 : decode cX12_errandOf 11 = .ok (.iload_n 2, 1) := by decide +kernel
theorem dX12_errandOf_12 : decode cX12_errandOf 12 = .ok (.iadd, 1) := by decide +kernel
theorem dX12_errandOf_13 : decode cX12_errandOf 13 = .ok (.iaload, 1) := by decide +kernel
theorem dX12_errandOf_14 : decode cX12_errandOf 14 = .ok (.ireturn, 1) := by decide +kernel
theorem dX12_doesNext_0 : decode cX12_doesNext 0 = .ok (.iconst 0, 1) := by decide +kernel
theorem dX12_doesNext_1 : decode cX12_doesNext 1 = .ok (.istore_n 2, 1) := by decide +kernel
theorem dX12_doesNext_2 : decode cX12_doesNext 2 = .ok (.iload_n 2, 1) := by decide +kernel
theorem dX12_doesNext_3 : decode cX12_doesNext 3 = .ok (.aload_n 0, 1) := by decide +kernel
theorem dX12_doesNext_4 : decode cX12_doesNext 4 = .ok (.getfield 48, 3) := by decide +kernel
theorem dX12_doesNext_7 : decode cX12_doesNext 7 = .ok (.bipush 7, 2) := by decide +kernel
theorem dX12_doesNext_9 : decode cX12_doesNext 9 = .ok (.iaload, 1) := by decide +kernel
theorem dX12_doesNext_10 : decode cX12_doesNext 10 = .ok (.if_icmp .ge 122, 3) := by decide +kernel
theorem dX12_doesNext_13 : decode cX12_doesNext 13 = .ok (.iload_n 1, 1) := by decide +kernel
theorem dX12_doesNext_14 : decode cX12_doesNext 14 = .ok (.iload_n 2, 1) := by decide +kernel
theorem dX12_doesNext_15 : decode cX12_doesNext 15 = .ok (.invokestatic 433, 3) := by decide +kernel
theorem dX12_doesNext_18 : decode cX12_doesNext 18 = .ok (.ifCond .eq 6, 3) := by decide +kernel
theorem dX12_doesNext_21 : decode cX12_doesNext 21 = .ok (.goto 105, 3) := by decide +kernel
theorem dX12_doesNext_24 : decode cX12_doesNext 24 = .ok (.iconst 0, 1) := by decide +kernel
theorem dX12_doesNext_25 : decode cX12_doesNext 25 = .ok (.istore_n 3, 1) := by decide +kernel
theorem dX12_doesNext_26 : decode cX12_doesNext 26 = .ok (.iload_n 3, 1) := by decide +kernel
theorem dX12_doesNext_27 : decode cX12_doesNext 27 = .ok (.iconst 2, 1) := by decide +kernel
theorem dX12_doesNext_28 : decode cX12_doesNext 28 = .ok (.if_icmp .ge 98, 3) := by decide +kernel
theorem dX12_doesNext_31 : decode cX12_doesNext 31 = .ok (.aload_n 0, 1) := by decide +kernel
theorem dX12_doesNext_32 : decode cX12_doesNext 32 = .ok (.getfield 54, 3) := by decide +kernel
theorem dX12_doesNext_35 : decode cX12_doesNext 35 = .ok (.iconst 2, 1) := by decide +kernel
theorem dX12_doesNext_36 : decode cX12_doesNext 36 = .ok (.aload_n 0, 1) := by decide +kernel
theorem dX12_doesNext_37 : decode cX12_doesNext 37 = .ok (.iload_n 2, 1) := by decide +kernel
theorem dX12_doesNext_38 : decode cX12_doesNext 38 = .ok (.iconst 0, 1) := by decide +kernel
theorem dX12_doesNext_39 : decode cX12_doesNext 39 = .ok (.invokevirtual 436, 3) := by decide +kernel
theorem dX12_doesNext_42 : decode cX12_doesNext 42 = .ok (.imul, 1) := by decide +kernel
theorem dX12_doesNext_43 : decode cX12_doesNext 43 = .ok (.iload_n 3, 1) := by decide +kernel
theorem dX12_doesNext_44 : decode cX12_doesNext 44 = .ok (.iadd, 1) := by decide +kernel
theorem dX12_doesNext_45 : decode cX12_doesNext 45 = .ok (.iaload, 1) := by decide +kernel
theorem dX12_doesNext_46 : decode cX12_doesNext 46 = .ok (.istore 4, 2) := by decide +kernel
theorem dX12_doesNext_48 : decode cX12_doesNext 48 = .ok (.iload 4, 2) := by decide +kernel
theorem dX12_doesNext_50 : decode cX12_doesNext 50 = .ok (.sipush 1439, 3) := by decide +kernel
theorem dX12_doesNext_53 : decode cX12_doesNext 53 = .ok (.if_icmp .gt 67, 3) := by decide +kernel
theorem dX12_doesNext_56 : decode cX12_doesNext 56 = .ok (.iload 4, 2) := by decide +kernel
theorem dX12_doesNext_58 : decode cX12_doesNext 58 = .ok (.aload_n 0, 1) := by decide +kernel
theorem dX12_doesNext_59 : decode cX12_doesNext 59 = .ok (.iload_n 2, 1) := by decide +kernel
theorem dX12_doesNext_60 : decode cX12_doesNext 60 = .ok (.iconst 2, 1) := by decide +kernel
theorem dX12_doesNext_61 : decode cX12_doesNext 61 = .ok (.invokevirtual 436, 3) := by decide +kernel
theorem dX12_doesNext_64 : decode cX12_doesNext 64 = .ok (.if_icmp .le 6, 3) := by decide +kernel
theorem dX12_doesNext_67 : decode cX12_doesNext 67 = .ok (.goto 53, 3) := by decide +kernel
theorem dX12_doesNext_70 : decode cX12_doesNext 70 = .ok (.bipush 20, 2) := by decide +kernel
theorem dX12_doesNext_72 : decode cX12_doesNext 72 = .ok (.iload_n 1, 1) := by decide +kernel
theorem dX12_doesNext_73 : decode cX12_doesNext 73 = .ok (.iconst 1, 1) := by decide +kernel
theorem dX12_doesNext_74 : decode cX12_doesNext 74 = .ok (.iload_n 2, 1) := by decide +kernel
theorem dX12_doesNext_75 : decode cX12_doesNext 75 = .ok (.ishl, 1) := by decide +kernel
theorem dX12_doesNext_76 : decode cX12_doesNext 76 = .ok (.ior, 1) := by decide +kernel
theorem dX12_doesNext_77 : decode cX12_doesNext 77 = .ok (.imul, 1) := by decide +kernel
theorem dX12_doesNext_78 : decode cX12_doesNext 78 = .ok (.iconst 2, 1) := by decide +kernel
theorem dX12_doesNext_79 : decode cX12_doesNext 79 = .ok (.iload_n 2, 1) := by decide +kernel
theorem dX12_doesNext_80 : decode cX12_doesNext 80 = .ok (.imul, 1) := by decide +kernel
theorem dX12_doesNext_81 : decode cX12_doesNext 81 = .ok (.iadd, 1) := by decide +kernel
theorem dX12_doesNext_82 : decode cX12_doesNext 82 = .ok (.iload_n 3, 1) := by decide +kernel
theorem dX12_doesNext_83 : decode cX12_doesNext 83 = .ok (.iadd, 1) := by decide +kernel
theorem dX12_doesNext_84 : decode cX12_doesNext 84 = .ok (.istore 5, 2) := by decide +kernel
theorem dX12_doesNext_86 : decode cX12_doesNext 86 = .ok (.iload 4, 2) := by decide +kernel
theorem dX12_doesNext_88 : decode cX12_doesNext 88 = .ok (.aload_n 0, 1) := by decide +kernel
theorem dX12_doesNext_89 : decode cX12_doesNext 89 = .ok (.iload_n 2, 1) := by decide +kernel
theorem dX12_doesNext_90 : decode cX12_doesNext 90 = .ok (.iconst 1, 1) := by decide +kernel
theorem dX12_doesNext_91 : decode cX12_doesNext 91 = .ok (.invokevirtual 436, 3) := by decide +kernel
theorem dX12_doesNext_94 : decode cX12_doesNext 94 = .ok (.invokestatic 404, 3) := by decide +kernel
theorem dX12_doesNext_97 : decode cX12_doesNext 97 = .ok (.istore 6, 2) := by decide +kernel
theorem dX12_doesNext_99 : decode cX12_doesNext 99 = .ok (.iload 6, 2) := by decide +kernel
theorem dX12_doesNext_101 : decode cX12_doesNext 101 = .ok (.aload_n 0, 1) := by decide +kernel
theorem dX12_doesNext_102 : decode cX12_doesNext 102 = .ok (.getfield 67, 3) := by decide +kernel
theorem dX12_doesNext_105 : decode cX12_doesNext 105 = .ok (.iload 5, 2) := by decide +kernel
theorem dX12_doesNext_107 : decode cX12_doesNext 107 = .ok (.iaload, 1) := by decide +kernel
theorem dX12_doesNext_108 : decode cX12_doesNext 108 = .ok (.if_icmp .ge 12, 3) := by decide +kernel
theorem dX12_doesNext_111 : decode cX12_doesNext 111 = .ok (.aload_n 0, 1) := by decide +kernel
theorem dX12_doesNext_112 : decode cX12_doesNext 112 = .ok (.getfield 67, 3) := by decide +kernel
theorem dX12_doesNext_115 : decode cX12_doesNext 115 = .ok (.iload 5, 2) := by decide +kernel
theorem dX12_doesNext_117 : decode cX12_doesNext 117 = .ok (.iload 6, 2) := by decide +kernel
theorem dX12_doesNext_119 : decode cX12_doesNext 119 = .ok (.iastore, 1) := by decide +kernel
theorem dX12_doesNext_120 : decode cX12_doesNext 120 = .ok (.iinc 3 1, 3) := by decide +kernel
theorem dX12_doesNext_123 : decode cX12_doesNext 123 = .ok (.goto (-97), 3) := by decide +kernel
theorem dX12_doesNext_126 : decode cX12_doesNext 126 = .ok (.iinc 2 1, 3) := by decide +kernel
theorem dX12_doesNext_129 : decode cX12_doesNext 129 = .ok (.goto (-127), 3) := by decide +kernel
theorem dX12_doesNext_132 : decode cX12_doesNext 132 = .ok (.return_, 1) := by decide +kernel
theorem dX12_worthOf_0 : decode cX12_worthOf 0 = .ok (.iconst 0, 1) := by decide +kernel
theorem dX12_worthOf_1 : decode cX12_worthOf 1 = .ok (.istore_n 2, 1) := by decide +kernel
theorem dX12_worthOf_2 : decode cX12_worthOf 2 = .ok (.iconst 0, 1) := by decide +kernel
theorem dX12_worthOf_3 : decode cX12_worthOf 3 = .ok (.istore_n 3, 1) := by decide +kernel
theorem dX12_worthOf_4 : decode cX12_worthOf 4 = .ok (.iload_n 3, 1) := by decide +kernel
theorem dX12_worthOf_5 : decode cX12_worthOf 5 = .ok (.aload_n 0, 1) := by decide +kernel
theorem dX12_worthOf_6 : decode cX12_worthOf 6 = .ok (.getfield 48, 3) := by decide +kernel
theorem dX12_worthOf_9 : decode cX12_worthOf 9 = .ok (.bipush 7, 2) := by decide +kernel
theorem dX12_worthOf_11 : decode cX12_worthOf 11 = .ok (.iaload, 1) := by decide +kernel
theorem dX12_worthOf_12 : decode cX12_worthOf 12 = .ok (.if_icmp .ge 30, 3) := by decide +kernel
theorem dX12_worthOf_15 : decode cX12_worthOf 15 = .ok (.iload_n 2, 1) := by decide +kernel
theorem dX12_worthOf_16 : decode cX12_worthOf 16 = .ok (.iload_n 1, 1) := by decide +kernel
theorem dX12_worthOf_17 : decode cX12_worthOf 17 = .ok (.iload_n 3, 1) := by decide +kernel
theorem dX12_worthOf_18 : decode cX12_worthOf 18 = .ok (.invokestatic 433, 3) := by decide +kernel
theorem dX12_worthOf_21 : decode cX12_worthOf 21 = .ok (.ifCond .eq 12, 3) := by decide +kernel
theorem dX12_worthOf_24 : decode cX12_worthOf 24 = .ok (.aload_n 0, 1) := by decide +kernel
theorem dX12_worthOf_25 : decode cX12_worthOf 25 = .ok (.iload_n 3, 1) := by decide +kernel
theorem dX12_worthOf_26 : decode cX12_worthOf 26 = .ok (.iconst 3, 1) := by decide +kernel
theorem dX12_worthOf_27 : decode cX12_worthOf 27 = .ok (.invokevirtual 436, 3) := by decide +kernel
theorem dX12_worthOf_30 : decode cX12_worthOf 30 = .ok (.goto 4, 3) := by decide +kernel
theorem dX12_worthOf_33 : decode cX12_worthOf 33 = .ok (.iconst 0, 1) := by decide +kernel
