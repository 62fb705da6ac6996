theorem dX4_makeRoom_75 : decode cX4_makeRoom 75 = .ok (.aload_n 0, 1) := by decide +kernel
theorem dX4_makeRoom_76 : decode cX4_makeRoom 76 = .ok (.getfield 25, 3) := by decide +kernel
theorem dX4_makeRoom_79 : decode cX4_makeRoom 79 = .ok (.aload_n 0, 1) := by decide +kernel
theorem dX4_makeRoom_80 : decode cX4_makeRoom 80 = .ok (.aload_n 0, 1) := by decide +kernel
theorem dX4_makeRoom_81 : decode cX4_makeRoom 81 = .ok (.getfield 11, 3) := by decide +kernel
theorem dX4_makeRoom_84 : decode cX4_makeRoom 84 = .ok (.iload_n 1, 1) := by decide +kernel
theorem dX4_makeRoom_85 : decode cX4_makeRoom 85 = .ok (.laload, 1) := by decide +kernel
theorem dX4_makeRoom_86 : decode cX4_makeRoom 86 = .ok (.aload_n 0, 1) := by decide +kernel
theorem dX4_makeRoom_87 : decode cX4_makeRoom 87 = .ok (.getfield 15, 3) := by decide +kernel
theorem dX4_makeRoom_90 : decode cX4_makeRoom 90 = .ok (.iload_n 1, 1) := by decide +kernel
theorem dX4_makeRoom_91 : decode cX4_makeRoom 91 = .ok (.iaload, 1) := by decide +kernel
theorem dX4_makeRoom_92 : decode cX4_makeRoom 92 = .ok (.invokevirtual 107, 3) := by decide +kernel
theorem dX4_makeRoom_95 : decode cX4_makeRoom 95 = .ok (.iload_n 1, 1) := by decide +kernel
theorem dX4_makeRoom_96 : decode cX4_makeRoom 96 = .ok (.iconst 1, 1) := by decide +kernel
theorem dX4_makeRoom_97 : decode cX4_makeRoom 97 = .ok (.iadd, 1) := by decide +kernel
theorem dX4_makeRoom_98 : decode cX4_makeRoom 98 = .ok (.iastore, 1) := by decide +kernel
theorem dX4_makeRoom_99 : decode cX4_makeRoom 99 = .ok (.iinc 1 1, 3) := by decide +kernel
theorem dX4_makeRoom_102 : decode cX4_makeRoom 102 = .ok (.goto (-35), 3) := by decide +kernel
theorem dX4_makeRoom_105 : decode cX4_makeRoom 105 = .ok (.return_, 1) := by decide +kernel
theorem dX4_slotOf_0 : decode cX4_slotOf 0 = .ok (.aload_n 0, 1) := by decide +kernel
theorem dX4_slotOf_1 : decode cX4_slotOf 1 = .ok (.getfield 25, 3) := by decide +kernel
theorem dX4_slotOf_4 : decode cX4_slotOf 4 = .ok (.arraylength, 1) := by decide +kernel
theorem dX4_slotOf_5 : decode cX4_slotOf 5 = .ok (.iconst 1, 1) := by decide +kernel
theorem dX4_slotOf_6 : decode cX4_slotOf 6 = .ok (.isub, 1) := by decide +kernel
theorem dX4_slotOf_7 : decode cX4_slotOf 7 = .ok (.istore 4, 2) := by decide +kernel
theorem dX4_slotOf_9 : decode cX4_slotOf 9 = .ok (.lload_n 1, 1) := by decide +kernel
theorem dX4_slotOf_10 : decode cX4_slotOf 10 = .ok (.ldc2_w 121, 3) := by decide +kernel
theorem dX4_slotOf_13 : decode cX4_slotOf 13 = .ok (.lmul, 1) := by decide +kernel
theorem dX4_slotOf_14 : decode cX4_slotOf 14 = .ok (.iload_n 3, 1) := by decide +kernel
theorem dX4_slotOf_15 : decode cX4_slotOf 15 = .ok (.i2l, 1) := by decide +kernel
theorem dX4_slotOf_16 : decode cX4_slotOf 16 = .ok (.ladd, 1) := by decide +kernel
theorem dX4_slotOf_17 : decode cX4_slotOf 17 = .ok (.ldc2_w 121, 3) := by decide +kernel
theorem dX4_slotOf_20 : decode cX4_slotOf 20 = .ok (.lmul, 1) := by decide +kernel
theorem dX4_slotOf_21 : decode cX4_slotOf 21 = .ok (.lstore 5, 2) := by decide +kernel
theorem dX4_slotOf_23 : decode cX4_slotOf 23 = .ok (.lload 5, 2) := by decide +kernel
theorem dX4_slotOf_25 : decode cX4_slotOf 25 = .ok (.bipush 40, 2) := by decide +kernel
theorem dX4_slotOf_27 : decode cX4_slotOf 27 = .ok (.lushr, 1) := by decide +kernel
theorem dX4_slotOf_28 : decode cX4_slotOf 28 = .ok (.l2i, 1) := by decide +kernel
theorem dX4_slotOf_29 : decode cX4_slotOf 29 = .ok (.iload 4, 2) := by decide +kernel
theorem dX4_slotOf_31 : decode cX4_slotOf 31 = .ok (.iand, 1) := by decide +kernel
theorem dX4_slotOf_32 : decode cX4_slotOf 32 = .ok (.istore 7, 2) := by decide +kernel
theorem dX4_slotOf_34 : decode cX4_slotOf 34 = .ok (.iconst 0, 1) := by decide +kernel
theorem dX4_slotOf_35 : decode cX4_slotOf 35 = .ok (.istore 8, 2) := by decide +kernel
theorem dX4_slotOf_37 : decode cX4_slotOf 37 = .ok (.iload 8, 2) := by decide +kernel
theorem dX4_slotOf_39 : decode cX4_slotOf 39 = .ok (.iload 4, 2) := by decide +kernel
theorem dX4_slotOf_41 : decode cX4_slotOf 41 = .ok (.if_icmp .ge 60, 3) := by decide +kernel
theorem dX4_slotOf_44 : decode cX4_slotOf 44 = .ok (.aload_n 0, 1) := by decide +kernel
theorem dX4_slotOf_45 : decode cX4_slotOf 45 = .ok (.getfield 25, 3) := by decide +kernel
theorem dX4_slotOf_48 : decode cX4_slotOf 48 = .ok (.iload 7, 2) := by decide +kernel
theorem dX4_slotOf_50 : decode cX4_slotOf 50 = .ok (.iaload, 1) := by decide +kernel
theorem dX4_slotOf_51 : decode cX4_slotOf 51 = .ok (.iconst 1, 1) := by decide +kernel
theorem dX4_slotOf_52 : decode cX4_slotOf 52 = .ok (.isub, 1) := by decide +kernel
theorem dX4_slotOf_53 : decode cX4_slotOf 53 = .ok (.istore 9, 2) := by decide +kernel
theorem dX4_slotOf_55 : decode cX4_slotOf 55 = .ok (.iload 9, 2) := by decide +kernel
theorem dX4_slotOf_57 : decode cX4_slotOf 57 = .ok (.ifCond .lt 44, 3) := by decide +kernel
theorem dX4_slotOf_60 : decode cX4_slotOf 60 = .ok (.aload_n 0, 1) := by decide +kernel
theorem dX4_slotOf_61 : decode cX4_slotOf 61 = .ok (.getfield 11, 3) := by decide +kernel
theorem dX4_slotOf_64 : decode cX4_slotOf 64 = .ok (.iload 9, 2) := by decide +kernel
theorem dX4_slotOf_66 : decode cX4_slotOf 66 = .ok (.laload, 1) := by decide +kernel
theorem dX4_slotOf_67 : decode cX4_slotOf 67 = .ok (.lload_n 1, 1) := by decide +kernel
theorem dX4_slotOf_68 : decode cX4_slotOf 68 = .ok (.lcmp, 1) := by decide +kernel
theorem dX4_slotOf_69 : decode cX4_slotOf 69 = .ok (.ifCond .ne 17, 3) := by decide +kernel
theorem dX4_slotOf_72 : decode cX4_slotOf 72 = .ok (.aload_n 0, 1) := by decide +kernel
theorem dX4_slotOf_73 : decode cX4_slotOf 73 = .ok (.getfield 15, 3) := by decide +kernel
theorem dX4_slotOf_76 : decode cX4_slotOf 76 = .ok (.iload 9, 2) := by decide +kernel
theorem dX4_slotOf_78 : decode cX4_slotOf 78 = .ok (.iaload, 1) := by decide +kernel
theorem dX4_slotOf_79 : decode cX4_slotOf 79 = .ok (.iload_n 3, 1) := by decide +kernel
theorem dX4_slotOf_80 : decode cX4_slotOf 80 = .ok (.if_icmp .ne 6, 3) := by decide +kernel
theorem dX4_slotOf_83 : decode cX4_slotOf 83 = .ok (.goto 18, 3) := by decide +kernel
theorem dX4_slotOf_86 : decode cX4_slotOf 86 = .ok (.iload 7, 2) := by decide +kernel
theorem dX4_slotOf_88 : decode cX4_slotOf 88 = .ok (.iconst 1, 1) := by decide +kernel
theorem dX4_slotOf_89 : decode cX4_slotOf 89 = .ok (.iadd, 1) := by decide +kernel
theorem dX4_slotOf_90 : decode cX4_slotOf 90 = .ok (.iload 4, 2) := by decide +kernel
theorem dX4_slotOf_92 : decode cX4_slotOf 92 = .ok (.iand, 1) := by decide +kernel
theorem dX4_slotOf_93 : decode cX4_slotOf 93 = .ok (.istore 7, 2) := by decide +kernel
theorem dX4_slotOf_95 : decode cX4_slotOf 95 = .ok (.iinc 8 1, 3) := by decide +kernel
theorem dX4_slotOf_98 : decode cX4_slotOf 98 = .ok (.goto (-61), 3) := by decide +kernel
theorem dX4_slotOf_101 : decode cX4_slotOf 101 = .ok (.iload 7, 2) := by decide +kernel
theorem dX4_slotOf_103 : decode cX4_slotOf 103 = .ok (.ireturn, 1) := by decide +kernel
theorem dJ13_bitCount_95d88_0 : decode cJ13_bitCount_95d88 0 = .ok (.lload_n 0, 1) := by decide +kernel
theorem dJ13_bitCount_95d88_1 : decode cJ13_bitCount_95d88 1 = .ok (.lload_n 0, 1) := by decide +kernel
theorem dJ13_bitCount_95d88_2 : decode cJ13_bitCount_95d88 2 = .ok (.iconst 1, 1) := by decide +kernel
theorem dJ13_bitCount_95d88_3 : decode cJ13_bitCount_95d88 3 = .ok (.lushr, 1) := by decide +kernel
theorem dJ13_bitCount_95d88_4 : decode cJ13_bitCount_95d88 4 = .ok (.ldc2_w 314, 3) := by decide +kernel
theorem dJ13_bitCount_95d88_7 : decode cJ13_bitCount_95d88 7 = .ok (.land, 1) := by decide +kernel
theorem dJ13_bitCount_95d88_8 : decode cJ13_bitCount_95d88 8 = .ok (.lsub, 1) := by decide +kernel
theorem dJ13_bitCount_95d88_9 : decode cJ13_bitCount_95d88 9 = .ok (.lstore_n 0, 1) := by decide +kernel
theorem dJ13_bitCount_95d88_10 : decode cJ13_bitCount_95d88 10 = .ok (.lload_n 0, 1) := by decide +kernel
theorem dJ13_bitCount_95d88_11 : decode cJ13_bitCount_95d88 11 = .ok (.ldc2_w 316, 3) := by decide +kernel
theorem dJ13_bitCount_95d88_14 : decode cJ13_bitCount_95d88 14 = .ok (.land, 1) := by decide +kernel
theorem dJ13_bitCount_95d88_15 : decode cJ13_bitCount_95d88 15 = .ok (.lload_n 0, 1) := by decide +kernel
theorem dJ13_bitCount_95d88_16 : decode cJ13_bitCount_95d88 16 = .ok (.iconst 2, 1) := by decide +kernel
theorem dJ13_bitCount_95d88_17 : decode cJ13_bitCount_95d88 17 = .ok (.lushr, 1) := by decide +kernel
theorem dJ13_bitCount_95d88_18 : decode cJ13_bitCount_95d88 18 = .ok (.ldc2_w 316, 3) := by decide +kernel
theorem dJ13_bitCount_95d88_21 : decode cJ13_bitCount_95d88 21 = .ok (.land, 1) := by decide +kernel
theorem dJ13_bitCount_95d88_22 : decode cJ13_bitCount_95d88 22 = .ok (.ladd, 1) := by decide +kernel
theorem dJ13_bitCount_95d88_23 : decode cJ13_bitCount_95d88 23 = .ok (.lstore_n 0, 1) := by decide +kernel
theorem dJ13_bitCount_95d88_24 : decode cJ13_bitCount_95d88 24 = .ok (.lload_n 0, 1) := by decide +kernel
theorem dJ13_bitCount_95d88_25 : decode cJ13_bitCount_95d88 25 = .ok (.lload_n 0, 1) := by decide +kernel
theorem dJ13_bitCount_95d88_26 : decode cJ13_bitCount_95d88 26 = .ok (.iconst 4, 1) := by decide +kernel
theorem dJ13_bitCount_95d88_27 : decode cJ13_bitCount_95d88 27 = .ok (.lushr, 1) := by decide +kernel
theorem dJ13_bitCount_95d88_28 : decode cJ13_bitCount_95d88 28 = .ok (.ladd, 1) := by decide +kernel
theorem dJ13_bitCount_95d88_29 : decode cJ13_bitCount_95d88 29 = .ok (.ldc2_w 318, 3) := by decide +kernel
theorem dJ13_bitCount_95d88_32 : decode cJ13_bitCount_95d88 32 = .ok (.land, 1) := by decide +kernel
theorem dJ13_bitCount_95d88_33 : decode cJ13_bitCount_95d88 33 = .ok (.lstore_n 0, 1) := by decide +kernel
theorem dJ13_bitCount_95d88_34 : decode cJ13_bitCount_95d88 34 = .ok (.lload_n 0, 1) := by decide +kernel
theorem dJ13_bitCount_95d88_35 : decode cJ13_bitCount_95d88 35 = .ok (.lload_n 0, 1) := by decide +kernel
theorem dJ13_bitCount_95d88_36 : decode cJ13_bitCount_95d88 36 = .ok (.bipush 8, 2) := by decide +kernel
theorem dJ13_bitCount_95d88_38 : decode cJ13_bitCount_95d88 38 = .ok (.lushr, 1) := by decide +kernel
theorem dJ13_bitCount_95d88_39 : decode cJ13_bitCount_95d88 39 = .ok (.ladd, 1) := by decide +kernel
theorem dJ13_bitCount_95d88_40 : decode cJ13_bitCount_95d88 40 = .ok (.lstore_n 0, 1) := by decide +kernel
theorem dJ13_bitCount_95d88_41 : decode cJ13_bitCount_95d88 41 = .ok (.lload_n 0, 1) := by decide +kernel
theorem dJ13_bitCount_95d88_42 : decode cJ13_bitCount_95d88 42 = .ok (.lload_n 0, 1) := by decide +kernel
theorem dJ13_bitCount_95d88_43 : decode cJ13_bitCount_95d88 43 = .ok (.bipush 16, 2) := by decide +kernel
theorem dJ13_bitCount_95d88_45 : decode cJ13_bitCount_95d88 45 = .ok (.lushr, 1) := by decide +kernel
theorem dJ13_bitCount_95d88_46 : decode cJ13_bitCount_95d88 46 = .ok (.ladd, 1) := by decide +kernel
theorem dJ13_bitCount_95d88_47 : decode cJ13_bitCount_95d88 47 = .ok (.lstore_n 0, 1) := by decide +kernel
theorem dJ13_bitCount_95d88_48 : decode cJ13_bitCount_95d88 48 = .ok (.lload_n 0, 1) := by decide +kernel
theorem dJ13_bitCount_95d88_49 : decode cJ13_bitCount_95d88 49 = .ok (.lload_n 0, 1) := by decide +kernel
theorem dJ13_bitCount_95d88_50 : decode cJ13_bitCount_95d88 50 = .ok (.bipush 32, 2) := by decide +kernel
theorem dJ13_bitCount_95d88_52 : decode cJ13_bitCount_95d88 52 = .ok (.lushr, 1) := by decide +kernel
theorem dJ13_bitCount_95d88_53 : decode cJ13_bitCount_95d88 53 = .ok (.ladd, 1) := by decide +kernel
theorem dJ13_bitCount_95d88_54 : decode cJ13_bitCount_95d88 54 = .ok (.lstore_n 0, 1) := by decide +kernel
theorem dJ13_bitCount_95d88_55 : decode cJ13_bitCount_95d88 55 = .ok (.lload_n 0, 1) := by decide +kernel
theorem dJ13_bitCount_95d88_56 : decode cJ13_bitCount_95d88 56 = .ok (.l2i, 1) := by decide +kernel
theorem dJ13_bitCount_95d88_57 : decode cJ13_bitCount_95d88 57 = .ok (.bipush 127, 2) := by decide +kernel
theorem dJ13_bitCount_95d88_59 : decode cJ13_bitCount_95d88 59 = .ok (.iand, 1) := by decide +kernel
theorem dJ13_bitCount_95d88_60 : decode cJ13_bitCount_95d88 60 = .ok (.ireturn, 1) := by decide +kernel
theorem dJ7_fill_53178_0 : decode cJ7_fill_53178 0 = .ok (.iconst 0, 1) := by decide +kernel
theorem dJ7_fill_53178_1 : decode cJ7_fill_53178 1 = .ok (.istore_n 2, 1) := by decide +kernel
theorem dJ7_fill_53178_2 : decode cJ7_fill_53178 2 = .ok (.aload_n 0, 1) := by decide +kernel
theorem dJ7_fill_53178_3 : decode cJ7_fill_53178 3 = .ok (.arraylength, 1) := by decide +kernel
theorem dJ7_fill_53178_4 : decode cJ7_fill_53178 4 = .ok (.istore_n 3, 1) := by decide +kernel
theorem dJ7_fill_53178_5 : decode cJ7_fill_53178 5 = .ok (.iload_n 2, 1) := by decide +kernel
theorem dJ7_fill_53178_6 : decode cJ7_fill_53178 6 = .ok (.iload_n 3, 1) := by decide +kernel
theorem dJ7_fill_53178_7 : decode cJ7_fill_53178 7 = .ok (.if_icmp .ge 13, 3) := by decide +kernel
theorem dJ7_fill_53178_10 : decode cJ7_fill_53178 10 = .ok (.aload_n 0, 1) := by decide +kernel
theorem dJ7_fill_53178_11 : decode cJ7_fill_53178 11 = .ok (.iload_n 2, 1) := by decide +kernel
theorem dJ7_fill_53178_12 : decode cJ7_fill_53178 12 = .ok (.iload_n 1, 1) := by decide +kernel
theorem dJ7_fill_53178_13 : decode cJ7_fill_53178 13 = .ok (.iastore, 1) := by decide +kernel
theorem dJ7_fill_53178_14 : decode cJ7_fill_53178 14 = .ok (.iinc 2 1, 3) := by decide +kernel
theorem dJ7_fill_53178_17 : decode cJ7_fill_53178 17 = .ok (.goto (-12), 3) := by decide +kernel
theorem dJ7_fill_53178_20 : decode cJ7_fill_53178 20 = .ok (.return_, 1) := by decide +kernel
theorem dJ7_copyOf_59c91_0 : decode cJ7_copyOf_59c91 0 = .ok (.iload_n 1, 1) := by decide +kernel
theorem dJ7_copyOf_59c91_1 : decode cJ7_copyOf_59c91 1 = .ok (.aload_n 0, 1) := by decide +kernel
theorem dJ7_copyOf_59c91_2 : decode cJ7_copyOf_59c91 2 = .ok (.arraylength, 1) := by decide +kernel
theorem dJ7_copyOf_59c91_3 : decode cJ7_copyOf_59c91 3 = .ok (.if_icmp .ne 11, 3) := by decide +kernel
theorem dJ7_copyOf_59c91_6 : decode cJ7_copyOf_59c91 6 = .ok (.aload_n 0, 1) := by decide +kernel
theorem dJ7_copyOf_59c91_7 : decode cJ7_copyOf_59c91 7 = .ok (.invokevirtual 316, 3) := by decide +kernel
theorem dJ7_copyOf_59c91_10 : decode cJ7_copyOf_59c91 10 = .ok (.checkcast 317, 3) := by decide +kernel
theorem dJ7_copyOf_59c91_13 : decode cJ7_copyOf_59c91 13 = .ok (.areturn, 1) := by decide +kernel
theorem dJ7_copyOf_59c91_14 : decode cJ7_copyOf_59c91 14 = .ok (.iload_n 1, 1) := by decide +kernel
theorem dJ7_copyOf_59c91_15 : decode cJ7_copyOf_59c91 15 = .ok (.newarray .int, 2) := by decide +kernel
theorem dJ7_copyOf_59c91_17 : decode cJ7_copyOf_59c91 17 = .ok (.astore_n 2, 1) := by decide +kernel
theorem dJ7_copyOf_59c91_18 : decode cJ7_copyOf_59c91 18 = .ok (.aload_n 0, 1) := by decide +kernel
theorem dJ7_copyOf_59c91_19 : decode cJ7_copyOf_59c91 19 = .ok (.iconst 0, 1) := by decide +kernel
theorem dJ7_copyOf_59c91_20 : decode cJ7_copyOf_59c91 20 = .ok (.aload_n 2, 1) := by decide +kernel
theorem dJ7_copyOf_59c91_21 : decode cJ7_copyOf_59c91 21 = .ok (.iconst 0, 1) := by decide +kernel
theorem dJ7_copyOf_59c91_22 : decode cJ7_copyOf_59c91 22 = .ok (.aload_n 0, 1) := by decide +kernel
theorem dJ7_copyOf_59c91_23 : decode cJ7_copyOf_59c91 23 = .ok (.arraylength, 1) := by decide +kernel
theorem dJ7_copyOf_59c91_24 : decode cJ7_copyOf_59c91 24 = .ok (.iload_n 1, 1) := by decide +kernel
theorem dJ7_copyOf_59c91_25 : decode cJ7_copyOf_59c91 25 = .ok (.invokestatic 304, 3) := by decide +kernel
theorem dJ7_copyOf_59c91_28 : decode cJ7_copyOf_59c91 28 = .ok (.invokestatic 150, 3) := by decide +kernel
theorem dJ7_copyOf_59c91_31 : decode cJ7_copyOf_59c91 31 = .ok (.aload_n 2, 1) := by decide +kernel
theorem dJ7_copyOf_59c91_32 : decode cJ7_copyOf_59c91 32 = .ok (.areturn, 1) := by decide +kernel
theorem dJ7_copyOf_c38d5_0 : decode cJ7_copyOf_c38d5 0 = .ok (.iload_n 1, 1) := by decide +kernel
theorem dJ7_copyOf_c38d5_1 : decode cJ7_copyOf_c38d5 1 = .ok (.aload_n 0, 1) := by decide +kernel
theorem dJ7_copyOf_c38d5_2 : decode cJ7_copyOf_c38d5 2 = .ok (.arraylength, 1) := by decide +kernel
theorem dJ7_copyOf_c38d5_3 : decode cJ7_copyOf_c38d5 3 = .ok (.if_icmp .ne 11, 3) := by decide +kernel
theorem dJ7_copyOf_c38d5_6 : decode cJ7_copyOf_c38d5 6 = .ok (.aload_n 0, 1) := by decide +kernel
theorem dJ7_copyOf_c38d5_7 : decode cJ7_copyOf_c38d5 7 = .ok (.invokevirtual 319, 3) := by decide +kernel
theorem dJ7_copyOf_c38d5_10 : decode cJ7_copyOf_c38d5 10 = .ok (.checkcast 320, 3) := by decide +kernel
theorem dJ7_copyOf_c38d5_13 : decode cJ7_copyOf_c38d5 13 = .ok (.areturn, 1) := by decide +kernel
theorem dJ7_copyOf_c38d5_14 : decode cJ7_copyOf_c38d5 14 = .ok (.iload_n 1, 1) := by decide +kernel
theorem dJ7_copyOf_c38d5_15 : decode cJ7_copyOf_c38d5 15 = .ok (.newarray .long, 2) := by decide +kernel
theorem dJ7_copyOf_c38d5_17 : decode cJ7_copyOf_c38d5 17 = .ok (.astore_n 2, 1) := by decide +kernel
theorem dJ7_copyOf_c38d5_18 : decode cJ7_copyOf_c38d5 18 = .ok (.aload_n 0, 1) := by decide +kernel
theorem dJ7_copyOf_c38d5_19 : decode cJ7_copyOf_c38d5 19 = .ok (.iconst 0, 1) := by decide +kernel
theorem dJ7_copyOf_c38d5_20 : decode cJ7_copyOf_c38d5 20 = .ok (.aload_n 2, 1) := by decide +kernel
theorem dJ7_copyOf_c38d5_21 : decode cJ7_copyOf_c38d5 21 = .ok (.iconst 0, 1) := by decide +kernel
theorem dJ7_copyOf_c38d5_22 : decode cJ7_copyOf_c38d5 22 = .ok (.aload_n 0, 1) := by decide +kernel
theorem dJ7_copyOf_c38d5_23 : decode cJ7_copyOf_c38d5 23 = .ok (.arraylength, 1) := by decide +kernel
theorem dJ7_copyOf_c38d5_24 : decode cJ7_copyOf_c38d5 24 = .ok (.iload_n 1, 1) := by decide +kernel
theorem dJ7_copyOf_c38d5_25 : decode cJ7_copyOf_c38d5 25 = .ok (.invokestatic 304, 3) := by decide +kernel
theorem dJ7_copyOf_c38d5_28 : decode cJ7_copyOf_c38d5 28 = .ok (.invokestatic 150, 3) := by decide +kernel
theorem dJ7_copyOf_c38d5_31 : decode cJ7_copyOf_c38d5 31 = .ok (.aload_n 2, 1) := by decide +kernel
theorem dJ7_copyOf_c38d5_32 : decode cJ7_copyOf_c38d5 32 = .ok (.areturn, 1) := by decide +kernel
theorem dJ0_length_8abf5_0 : decode cJ0_length_8abf5 0 = .ok (.aload_n 0, 1) := by decide +kernel
theorem dJ0_length_8abf5_1 : decode cJ0_length_8abf5 1 = .ok (.getfield 9, 3) := by decide +kernel
theorem dJ0_length_8abf5_4 : decode cJ0_length_8abf5 4 = .ok (.arraylength, 1) := by decide +kernel
theorem dJ0_length_8abf5_5 : decode cJ0_length_8abf5 5 = .ok (.aload_n 0, 1) := by decide +kernel
theorem dJ0_length_8abf5_6 : decode cJ0_length_8abf5 6 = .ok (.invokevirtual 335, 3) := by decide +kernel
theorem dJ0_length_8abf5_9 : decode cJ0_length_8abf5 9 = .ok (.ishr, 1) := by decide +kernel
theorem dJ0_length_8abf5_10 : decode cJ0_length_8abf5 10 = .ok (.ireturn, 1) := by decide +kernel
theorem dJ0_charAt_5068e_0 : decode cJ0_charAt_5068e 0 = .ok (.aload_n 0, 1) := by decide +kernel
theorem dJ0_charAt_5068e_1 : decode cJ0_charAt_5068e 1 = .ok (.invokevirtual 492, 3) := by decide +kernel
theorem dJ0_charAt_5068e_4 : decode cJ0_charAt_5068e 4 = .ok (.ifCond .eq 12, 3) := by decide +kernel
theorem dJ0_charAt_5068e_7 : decode cJ0_charAt_5068e 7 = .ok (.aload_n 0, 1) := by decide +kernel
theorem dJ0_charAt_5068e_8 : decode cJ0_charAt_5068e 8 = .ok (.getfield 9, 3) := by decide +kernel
theorem dJ0_charAt_5068e_11 : decode cJ0_charAt_5068e 11 = .ok (.iload_n 1, 1) := by decide +kernel
theorem dJ0_charAt_5068e_12 : decode cJ0_charAt_5068e 12 = .ok (.invokestatic 495, 3) := by decide +kernel
theorem dJ0_charAt_5068e_15 : decode cJ0_charAt_5068e 15 = .ok (.ireturn, 1) := by decide +kernel
theorem dJ0_charAt_5068e_16 : decode cJ0_charAt_5068e 16 = .ok (.aload_n 0, 1) := by decide +kernel
theorem dJ0_charAt_5068e_17 : decode cJ0_charAt_5068e 17 = .ok (.getfield 9, 3) := by decide +kernel
theorem dJ0_charAt_5068e_20 : decode cJ0_charAt_5068e 20 = .ok (.iload_n 1, 1) := by decide +kernel
theorem dJ0_charAt_5068e_21 : decode cJ0_charAt_5068e 21 = .ok (.invokestatic 498, 3) := by decide +kernel
theorem dJ0_charAt_5068e_24 : decode cJ0_charAt_5068e 24 = .ok (.ireturn, 1) := by decide +kernel
theorem dJ0_coder_7d493_0 : decode cJ0_coder_7d493 0 = .ok (.getstatic 38, 3) := by decide +kernel
theorem dJ0_coder_7d493_3 : decode cJ0_coder_7d493 3 = .ok (.ifCond .eq 10, 3) := by decide +kernel
theorem dJ0_coder_7d493_6 : decode cJ0_coder_7d493 6 = .ok (.aload_n 0, 1) := by decide +kernel
theorem dJ0_coder_7d493_7 : decode cJ0_coder_7d493 7 = .ok (.getfield 15, 3) := by decide +kernel
theorem dJ0_coder_7d493_10 : decode cJ0_coder_7d493 10 = .ok (.goto 4, 3) := by decide +kernel
theorem dJ0_coder_7d493_13 : decode cJ0_coder_7d493 13 = .ok (.iconst 1, 1) := by decide +kernel
theorem dJ0_coder_7d493_14 : decode cJ0_coder_7d493 14 = .ok (.ireturn, 1) := by decide +kernel
theorem dJ0_isLatin1_aae02_0 : decode cJ0_isLatin1_aae02 0 = .ok (.getstatic 38, 3) := by decide +kernel
theorem dJ0_isLatin1_aae02_3 : decode cJ0_isLatin1_aae02 3 = .ok (.ifCond .eq 14, 3) := by decide +kernel
theorem dJ0_isLatin1_aae02_6 : decode cJ0_isLatin1_aae02 6 = .ok (.aload_n 0, 1) := by decide +kernel
theorem dJ0_isLatin1_aae02_7 : decode cJ0_isLatin1_aae02 7 = .ok (.getfield 15, 3) := by decide +kernel
theorem dJ0_isLatin1_aae02_10 : decode cJ0_isLatin1_aae02 10 = .ok (.ifCond .ne 7, 3) := by decide +kernel
theorem dJ0_isLatin1_aae02_13 : decode cJ0_isLatin1_aae02 13 = .ok (.iconst 1, 1) := by decide +kernel
theorem dJ0_isLatin1_aae02_14 : decode cJ0_isLatin1_aae02 14 = .ok (.goto 4, 3) := by decide +kernel
theorem dJ0_isLatin1_aae02_17 : decode cJ0_isLatin1_aae02 17 = .ok (.iconst 0, 1) := by decide +kernel
theorem dJ0_isLatin1_aae02_18 : decode cJ0_isLatin1_aae02 18 = .ok (.ireturn, 1) := by decide +kernel
theorem dJ0_checkIndex_df160_0 : decode cJ0_checkIndex_df160 0 = .ok (.iload_n 0, 1) := by decide +kernel
theorem dJ0_checkIndex_df160_1 : decode cJ0_checkIndex_df160 1 = .ok (.iload_n 1, 1) := by decide +kernel
theorem dJ0_checkIndex_df160_2 : decode cJ0_checkIndex_df160 2 = .ok (.getstatic 1053, 3) := by decide +kernel
theorem dJ0_checkIndex_df160_5 : decode cJ0_checkIndex_df160 5 = .ok (.invokestatic 1059, 3) := by decide +kernel
theorem dJ0_checkIndex_df160_8 : decode cJ0_checkIndex_df160 8 = .ok (.pop, 1) := by decide +kernel
theorem dJ0_checkIndex_df160_9 : decode cJ0_checkIndex_df160 9 = .ok (.return_, 1) := by decide +kernel
theorem dJ1_charAt_3b067_0 : decode cJ1_charAt_3b067 0 = .ok (.iload_n 1, 1) := by decide +kernel
theorem dJ1_charAt_3b067_1 : decode cJ1_charAt_3b067 1 = .ok (.aload_n 0, 1) := by decide +kernel
theorem dJ1_charAt_3b067_2 : decode cJ1_charAt_3b067 2 = .ok (.arraylength, 1) := by decide +kernel
theorem dJ1_charAt_3b067_3 : decode cJ1_charAt_3b067 3 = .ok (.invokestatic 9, 3) := by decide +kernel
theorem dJ1_charAt_3b067_6 : decode cJ1_charAt_3b067 6 = .ok (.aload_n 0, 1) := by decide +kernel
theorem dJ1_charAt_3b067_7 : decode cJ1_charAt_3b067 7 = .ok (.iload_n 1, 1) := by decide +kernel
theorem dJ1_charAt_3b067_8 : decode cJ1_charAt_3b067 8 = .ok (.baload, 1) := by decide +kernel
theorem dJ1_charAt_3b067_9 : decode cJ1_charAt_3b067 9 = .ok (.sipush 255, 3) := by decide +kernel
theorem dJ1_charAt_3b067_12 : decode cJ1_charAt_3b067 12 = .ok (.iand, 1) := by decide +kernel
theorem dJ1_charAt_3b067_13 : decode cJ1_charAt_3b067 13 = .ok (.i2c, 1) := by decide +kernel
theorem dJ1_charAt_3b067_14 : decode cJ1_charAt_3b067 14 = .ok (.ireturn, 1) := by decide +kernel
theorem dX6_init_0 : decode cX6_init 0 = .ok (.aload_n 0, 1) := by decide +kernel
theorem dX6_init_1 : decode cX6_init 1 = .ok (.invokespecial 1, 3) := by decide +kernel
theorem dX6_init_4 : decode cX6_init 4 = .ok (.aload_n 0, 1) := by decide +kernel
theorem dX6_init_5 : decode cX6_init 5 = .ok (.sipush 160, 3) := by decide +kernel
theorem dX6_init_8 : decode cX6_init 8 = .ok (.newarray .int, 2) := by decide +kernel
theorem dX6_init_10 : decode cX6_init 10 = .ok (.putfield 7, 3) := by decide +kernel
theorem dX6_init_13 : decode cX6_init 13 = .ok (.aload_n 0, 1) := by decide +kernel
theorem dX6_init_14 : decode cX6_init 14 = .ok (.sipush 500, 3) := by decide +kernel
theorem dX6_init_17 : decode cX6_init 17 = .ok (.newarray .int, 2) := by decide +kernel
theorem dX6_init_19 : decode cX6_init 19 = .ok (.putfield 13, 3) := by decide +kernel
theorem dX6_init_22 : decode cX6_init 22 = .ok (.aload_n 0, 1) := by decide +kernel
theorem dX6_init_23 : decode cX6_init 23 = .ok (.sipush 10001, 3) := by decide +kernel
theorem dX6_init_26 : decode cX6_init 26 = .ok (.newarray .long, 2) := by decide +kernel
theorem dX6_init_28 : decode cX6_init 28 = .ok (.putfield 16, 3) := by decide +kernel
theorem dX6_init_31 : decode cX6_init 31 = .ok (.aload_n 0, 1) := by decide +kernel
theorem dX6_init_32 : decode cX6_init 32 = .ok (.sipush 10001, 3) := by decide +kernel
theorem dX6_init_35 : decode cX6_init 35 = .ok (.newarray .int, 2) := by decide +kernel
theorem dX6_init_37 : decode cX6_init 37 = .ok (.putfield 20, 3) := by decide +kernel
theorem dX6_init_40 : decode cX6_init 40 = .ok (.aload_n 0, 1) := by decide +kernel
theorem dX6_init_41 : decode cX6_init 41 = .ok (.sipush 10001, 3) := by decide +kernel
theorem dX6_init_44 : decode cX6_init 44 = .ok (.newarray .int, 2) := by decide +kernel
theorem dX6_init_46 : decode cX6_init 46 = .ok (.putfield 23, 3) := by decide +kernel
theorem dX6_init_49 : decode cX6_init 49 = .ok (.aload_n 0, 1) := by decide +kernel
theorem dX6_init_50 : decode cX6_init 50 = .ok (.sipush 10001, 3) := by decide +kernel
theorem dX6_init_53 : decode cX6_init 53 = .ok (.newarray .int, 2) := by decide +kernel
theorem dX6_init_55 : decode cX6_init 55 = .ok (.putfield 26, 3) := by decide +kernel
theorem dX6_init_58 : decode cX6_init 58 = .ok (.aload_n 0, 1) := by decide +kernel
theorem dX6_init_59 : decode cX6_init 59 = .ok (.ldc 29, 2) := by decide +kernel
theorem dX6_init_61 : decode cX6_init 61 = .ok (.newarray .int, 2) := by decide +kernel
theorem dX6_init_63 : decode cX6_init 63 = .ok (.putfield 30, 3) := by decide +kernel
theorem dX6_init_66 : decode cX6_init 66 = .ok (.aload_n 0, 1) := by decide +kernel
theorem dX6_init_67 : decode cX6_init 67 = .ok (.sipush 10001, 3) := by decide +kernel
theorem dX6_init_70 : decode cX6_init 70 = .ok (.newarray .int, 2) := by decide +kernel
theorem dX6_init_72 : decode cX6_init 72 = .ok (.putfield 33, 3) := by decide +kernel
theorem dX6_init_75 : decode cX6_init 75 = .ok (.aload_n 0, 1) := by decide +kernel
theorem dX6_init_76 : decode cX6_init 76 = .ok (.bipush 64, 2) := by decide +kernel
theorem dX6_init_78 : decode cX6_init 78 = .ok (.newarray .int, 2) := by decide +kernel
theorem dX6_init_80 : decode cX6_init 80 = .ok (.putfield 36, 3) := by decide +kernel
theorem dX6_init_83 : decode cX6_init 83 = .ok (.aload_n 0, 1) := by decide +kernel
theorem dX6_init_84 : decode cX6_init 84 = .ok (.sipush 4096, 3) := by decide +kernel
theorem dX6_init_87 : decode cX6_init 87 = .ok (.newarray .int, 2) := by decide +kernel
theorem dX6_init_89 : decode cX6_init 89 = .ok (.putfield 39, 3) := by decide +kernel
theorem dX6_init_92 : decode cX6_init 92 = .ok (.return_, 1) := by decide +kernel
theorem dX6_thrown_0 : decode cX6_thrown 0 = .ok (.aload_n 0, 1) := by decide +kernel
theorem dX6_thrown_1 : decode cX6_thrown 1 = .ok (.getfield 42, 3) := by decide +kernel
theorem dX6_thrown_4 : decode cX6_thrown 4 = .ok (.ireturn, 1) := by decide +kernel
theorem dX6_throwsIf_0 : decode cX6_throwsIf 0 = .ok (.aload_n 0, 1) := by decide +kernel
theorem dX6_throwsIf_1 : decode cX6_throwsIf 1 = .ok (.iload_n 2, 1) := by decide +kernel
theorem dX6_throwsIf_2 : decode cX6_throwsIf 2 = .ok (.ifCond .eq 7, 3) := by decide +kernel
theorem dX6_throwsIf_5 : decode cX6_throwsIf 5 = .ok (.iload_n 1, 1) := by decide +kernel
theorem dX6_throwsIf_6 : decode cX6_throwsIf 6 = .ok (.goto 4, 3) := by decide +kernel
theorem dX6_throwsIf_9 : decode cX6_throwsIf 9 = .ok (.iconst 0, 1) := by decide +kernel
theorem dX6_throwsIf_10 : decode cX6_throwsIf 10 = .ok (.putfield 42, 3) := by decide +kernel
theorem dX6_throwsIf_13 : decode cX6_throwsIf 13 = .ok (.iload_n 2, 1) := by decide +kernel
theorem dX6_throwsIf_14 : decode cX6_throwsIf 14 = .ok (.ireturn, 1) := by decide +kernel
theorem dX6_isCell_0 : decode cX6_isCell 0 = .ok (.iload_n 1, 1) := by decide +kernel
theorem dX6_isCell_1 : decode cX6_isCell 1 = .ok (.ifCond .lt 27, 3) := by decide +kernel
theorem dX6_isCell_4 : decode cX6_isCell 4 = .ok (.iload_n 1, 1) := by decide +kernel
theorem dX6_isCell_5 : decode cX6_isCell 5 = .ok (.aload_n 0, 1) := by decide +kernel
theorem dX6_isCell_6 : decode cX6_isCell 6 = .ok (.getfield 46, 3) := by decide +kernel
theorem dX6_isCell_9 : decode cX6_isCell 9 = .ok (.if_icmp .ge 19, 3) := by decide +kernel
theorem dX6_isCell_12 : decode cX6_isCell 12 = .ok (.iload_n 2, 1) := by decide +kernel
theorem dX6_isCell_13 : decode cX6_isCell 13 = .ok (.ifCond .lt 15, 3) := by decide +kernel
theorem dX6_isCell_16 : decode cX6_isCell 16 = .ok (.iload_n 2, 1) := by decide +kernel
theorem dX6_isCell_17 : decode cX6_isCell 17 = .ok (.aload_n 0, 1) := by decide +kernel
theorem dX6_isCell_18 : decode cX6_isCell 18 = .ok (.getfield 49, 3) := by decide +kernel
theorem dX6_isCell_21 : decode cX6_isCell 21 = .ok (.if_icmp .ge 7, 3) := by decide +kernel
theorem dX6_isCell_24 : decode cX6_isCell 24 = .ok (.iconst 1, 1) := by decide +kernel
theorem dX6_isCell_25 : decode cX6_isCell 25 = .ok (.goto 4, 3) := by decide +kernel
theorem dX6_isCell_28 : decode cX6_isCell 28 = .ok (.iconst 0, 1) := by decide +kernel
theorem dX6_isCell_29 : decode cX6_isCell 29 = .ok (.ireturn, 1) := by decide +kernel
theorem dX6_has_0 : decode cX6_has 0 = .ok (.iload_n 2, 1) := by decide +kernel
theorem dX6_has_1 : decode cX6_has 1 = .ok (.ifCond .lt 17, 3) := by decide +kernel
theorem dX6_has_4 : decode cX6_has 4 = .ok (.lload_n 0, 1) := by decide +kernel
theorem dX6_has_5 : decode cX6_has 5 = .ok (.iload_n 2, 1) := by decide +kernel
theorem dX6_has_6 : decode cX6_has 6 = .ok (.lshr, 1) := by decide +kernel
theorem dX6_has_7 : decode cX6_has 7 = .ok (.lconst 1, 1) := by decide +kernel
theorem dX6_has_8 : decode cX6_has 8 = .ok (.land, 1) := by decide +kernel
theorem dX6_has_9 : decode cX6_has 9 = .ok (.lconst 1, 1) := by decide +kernel
theorem dX6_has_10 : decode cX6_has 10 = .ok (.lcmp, 1) := by decide +kernel
theorem dX6_has_11 : decode cX6_has 11 = .ok (.ifCond .ne 7, 3) := by decide +kernel
theorem dX6_has_14 : decode cX6_has 14 = .ok (.iconst 1, 1) := by decide +kernel
theorem dX6_has_15 : decode cX6_has 15 = .ok (.goto 4, 3) := by decide +kernel
theorem dX6_has_18 : decode cX6_has 18 = .ok (.iconst 0, 1) := by decide +kernel
theorem dX6_has_19 : decode cX6_has 19 = .ok (.ireturn, 1) := by decide +kernel
theorem dX6_beside_0 : decode cX6_beside 0 = .ok (.iload_n 1, 1) := by decide +kernel
theorem dX6_beside_1 : decode cX6_beside 1 = .ok (.bipush 8, 2) := by decide +kernel
theorem dX6_beside_3 : decode cX6_beside 3 = .ok (.irem, 1) := by decide +kernel
theorem dX6_beside_4 : decode cX6_beside 4 = .ok (.iload_n 2, 1) := by decide +kernel
theorem dX6_beside_5 : decode cX6_beside 5 = .ok (.ifCond .ne 7, 3) := by decide +kernel
theorem dX6_beside_8 : decode cX6_beside 8 = .ok (.iconst 1, 1) := by decide +kernel
theorem dX6_beside_9 : decode cX6_beside 9 = .ok (.goto 13, 3) := by decide +kernel
theorem dX6_beside_12 : decode cX6_beside 12 = .ok (.iload_n 2, 1) := by decide +kernel
theorem dX6_beside_13 : decode cX6_beside 13 = .ok (.iconst 2, 1) := by decide +kernel
theorem dX6_beside_14 : decode cX6_beside 14 = .ok (.if_icmp .ne 7, 3) := by decide +kernel
theorem dX6_beside_17 : decode cX6_beside 17 = .ok (.iconst (-1), 1) := by decide +kernel
theorem dX6_beside_18 : decode cX6_beside 18 = .ok (.goto 4, 3) := by decide +kernel
theorem dX6_beside_21 : decode cX6_beside 21 = .ok (.iconst 0, 1) := by decide +kernel
theorem dX6_beside_22 : decode cX6_beside 22 = .ok (.iadd, 1) := by decide +kernel
theorem dX6_beside_23 : decode cX6_beside 23 = .ok (.istore_n 3, 1) := by decide +kernel
theorem dX6_beside_24 : decode cX6_beside 24 = .ok (.iload_n 1, 1) := by decide +kernel
theorem dX6_beside_25 : decode cX6_beside 25 = .ok (.bipush 8, 2) := by decide +kernel
theorem dX6_beside_27 : decode cX6_beside 27 = .ok (.idiv, 1) := by decide +kernel
theorem dX6_beside_28 : decode cX6_beside 28 = .ok (.iload_n 2, 1) := by decide +kernel
theorem dX6_beside_29 : decode cX6_beside 29 = .ok (.iconst 1, 1) := by decide +kernel
theorem dX6_beside_30 : decode cX6_beside 30 = .ok (.if_icmp .ne 7, 3) := by decide +kernel
theorem dX6_beside_33 : decode cX6_beside 33 = .ok (.iconst 1, 1) := by decide +kernel
theorem dX6_beside_34 : decode cX6_beside 34 = .ok (.goto 13, 3) := by decide +kernel
theorem dX6_beside_37 : decode cX6_beside 37 = .ok (.iload_n 2, 1) := by decide +kernel
theorem dX6_beside_38 : decode cX6_beside 38 = .ok (.iconst 3, 1) := by decide +kernel
theorem dX6_beside_39 : decode cX6_beside 39 = .ok (.if_icmp .ne 7, 3) := by decide +kernel
theorem dX6_beside_42 : decode cX6_beside 42 = .ok (.iconst (-1), 1) := by decide +kernel
theorem dX6_beside_43 : decode cX6_beside 43 = .ok (.goto 4, 3) := by decide +kernel
theorem dX6_beside_46 : decode cX6_beside 46 = .ok (.iconst 0, 1) := by decide +kernel
theorem dX6_beside_47 : decode cX6_beside 47 = .ok (.iadd, 1) := by decide +kernel
theorem dX6_beside_48 : decode cX6_beside 48 = .ok (.istore 4, 2) := by decide +kernel
theorem dX6_beside_50 : decode cX6_beside 50 = .ok (.aload_n 0, 1) := by decide +kernel
theorem dX6_beside_51 : decode cX6_beside 51 = .ok (.iload_n 3, 1) := by decide +kernel
theorem dX6_beside_52 : decode cX6_beside 52 = .ok (.iload 4, 2) := by decide +kernel
theorem dX6_beside_54 : decode cX6_beside 54 = .ok (.invokevirtual 52, 3) := by decide +kernel
theorem dX6_beside_57 : decode cX6_beside 57 = .ok (.ifCond .eq 13, 3) := by decide +kernel
theorem dX6_beside_60 : decode cX6_beside 60 = .ok (.bipush 8, 2) := by decide +kernel
theorem dX6_beside_62 : decode cX6_beside 62 = .ok (.iload 4, 2) := by decide +kernel
theorem dX6_beside_64 : decode cX6_beside 64 = .ok (.imul, 1) := by decide +kernel
theorem dX6_beside_65 : decode cX6_beside 65 = .ok (.iload_n 3, 1) := by decide +kernel
theorem dX6_beside_66 : decode cX6_beside 66 = .ok (.iadd, 1) := by decide +kernel
theorem dX6_beside_67 : decode cX6_beside 67 = .ok (.goto 4, 3) := by decide +kernel
theorem dX6_beside_70 : decode cX6_beside 70 = .ok (.iconst (-1), 1) := by decide +kernel
theorem dX6_beside_71 : decode cX6_beside 71 = .ok (.ireturn, 1) := by decide +kernel
theorem dX6_against_0 : decode cX6_against 0 = .ok (.iload_n 1, 1) := by decide +kernel
theorem dX6_against_1 : decode cX6_against 1 = .ok (.iconst 2, 1) := by decide +kernel
theorem dX6_against_2 : decode cX6_against 2 = .ok (.iadd, 1) := by decide +kernel
theorem dX6_against_3 : decode cX6_against 3 = .ok (.iconst 4, 1) := by decide +kernel
theorem dX6_against_4 : decode cX6_against 4 = .ok (.irem, 1) := by decide +kernel
theorem dX6_against_5 : decode cX6_against 5 = .ok (.ireturn, 1) := by decide +kernel
theorem dX6_number_0 : decode cX6_number 0 = .ok (.iload_n 1, 1) := by decide +kernel
theorem dX6_number_1 : decode cX6_number 1 = .ok (.bipush 8, 2) := by decide +kernel
theorem dX6_number_3 : decode cX6_number 3 = .ok (.idiv, 1) := by decide +kernel
theorem dX6_number_4 : decode cX6_number 4 = .ok (.aload_n 0, 1) := by decide +kernel
theorem dX6_number_5 : decode cX6_number 5 = .ok (.getfield 46, 3) := by decide +kernel
theorem dX6_number_8 : decode cX6_number 8 = .ok (.imul, 1) := by decide +kernel
theorem dX6_number_9 : decode cX6_number 9 = .ok (.iload_n 1, 1) := by decide +kernel
theorem dX6_number_10 : decode cX6_number 10 = .ok (.bipush 8, 2) := by decide +kernel
theorem dX6_number_12 : decode cX6_number 12 = .ok (.irem, 1) := by decide +kernel
theorem dX6_number_13 : decode cX6_number 13 = .ok (.iadd, 1) := by decide +kernel
theorem dX6_number_14 : decode cX6_number 14 = .ok (.ireturn, 1) := by decide +kernel
theorem dX6_countOf_0 : decode cX6_countOf 0 = .ok (.iconst 0, 1) := by decide +kernel
theorem dX6_countOf_1 : decode cX6_countOf 1 = .ok (.istore_n 2, 1) := by decide +kernel
theorem dX6_countOf_2 : decode cX6_countOf 2 = .ok (.iconst 0, 1) := by decide +kernel
theorem dX6_countOf_3 : decode cX6_countOf 3 = .ok (.istore_n 3, 1) := by decide +kernel
theorem dX6_countOf_4 : decode cX6_countOf 4 = .ok (.iload_n 3, 1) := by decide +kernel
theorem dX6_countOf_5 : decode cX6_countOf 5 = .ok (.bipush 64, 2) := by decide +kernel
theorem dX6_countOf_7 : decode cX6_countOf 7 = .ok (.if_icmp .ge 18, 3) := by decide +kernel
theorem dX6_countOf_10 : decode cX6_countOf 10 = .ok (.iload_n 2, 1) := by decide +kernel
theorem dX6_countOf_11 : decode cX6_countOf 11 = .ok (.lload_n 0, 1) := by decide +kernel
theorem dX6_countOf_12 : decode cX6_countOf 12 = .ok (.iload_n 3, 1) := by decide +kernel
theorem dX6_countOf_13 : decode cX6_countOf 13 = .ok (.lshr, 1) := by decide +kernel
theorem dX6_countOf_14 : decode cX6_countOf 14 = .ok (.lconst 1, 1) := by decide +kernel
theorem dX6_countOf_15 : decode cX6_countOf 15 = .ok (.land, 1) := by decide +kernel
theorem dX6_countOf_16 : decode cX6_countOf 16 = .ok (.l2i, 1) := by decide +kernel
theorem dX6_countOf_17 : decode cX6_countOf 17 = .ok (.iadd, 1) := by decide +kernel
theorem dX6_countOf_18 : decode cX6_countOf 18 = .ok (.istore_n 2, 1) := by decide +kernel
theorem dX6_countOf_19 : decode cX6_countOf 19 = .ok (.iinc 3 1, 3) := by decide +kernel
theorem dX6_countOf_22 : decode cX6_countOf 22 = .ok (.goto (-18), 3) := by decide +kernel
theorem dX6_countOf_25 : decode cX6_countOf 25 = .ok (.iload_n 2, 1) := by decide +kernel
theorem dX6_countOf_26 : decode cX6_countOf 26 = .ok (.ireturn, 1) := by decide +kernel
theorem dX6_unit_0 : decode cX6_unit 0 = .ok (.aload_n 0, 1) := by decide +kernel
theorem dX6_unit_1 : decode cX6_unit 1 = .ok (.iconst 0, 1) := by decide +kernel
theorem dX6_unit_2 : decode cX6_unit 2 = .ok (.putfield 42, 3) := by decide +kernel
theorem dX6_unit_5 : decode cX6_unit 5 = .ok (.iload_n 1, 1) := by decide +kernel
theorem dX6_unit_6 : decode cX6_unit 6 = .ok (.ifCond .lt 20, 3) := by decide +kernel
theorem dX6_unit_9 : decode cX6_unit 9 = .ok (.iload_n 1, 1) := by decide +kernel
theorem dX6_unit_10 : decode cX6_unit 10 = .ok (.sipush 255, 3) := by decide +kernel
theorem dX6_unit_13 : decode cX6_unit 13 = .ok (.if_icmp .gt 13, 3) := by decide +kernel
theorem dX6_unit_16 : decode cX6_unit 16 = .ok (.aload_n 0, 1) := by decide +kernel
theorem dX6_unit_17 : decode cX6_unit 17 = .ok (.getfield 56, 3) := by decide +kernel
theorem dX6_unit_20 : decode cX6_unit 20 = .ok (.sipush 160, 3) := by decide +kernel
theorem dX6_unit_23 : decode cX6_unit 23 = .ok (.if_icmp .ne 5, 3) := by decide +kernel
theorem dX6_unit_26 : decode cX6_unit 26 = .ok (.iconst 0, 1) := by decide +kernel
theorem dX6_unit_27 : decode cX6_unit 27 = .ok (.ireturn, 1) := by decide +kernel
theorem dX6_unit_28 : decode cX6_unit 28 = .ok (.aload_n 0, 1) := by decide +kernel
theorem dX6_unit_29 : decode cX6_unit 29 = .ok (.getfield 7, 3) := by decide +kernel
theorem dX6_unit_32 : decode cX6_unit 32 = .ok (.aload_n 0, 1) := by decide +kernel
theorem dX6_unit_33 : decode cX6_unit 33 = .ok (.getfield 56, 3) := by decide +kernel
theorem dX6_unit_36 : decode cX6_unit 36 = .ok (.iload_n 1, 1) := by decide +kernel
theorem dX6_unit_37 : decode cX6_unit 37 = .ok (.iastore, 1) := by decide +kernel
theorem dX6_unit_38 : decode cX6_unit 38 = .ok (.aload_n 0, 1) := by decide +kernel
theorem dX6_unit_39 : decode cX6_unit 39 = .ok (.dup, 1) := by decide +kernel
theorem dX6_unit_40 : decode cX6_unit 40 = .ok (.getfield 56, 3) := by decide +kernel
theorem dX6_unit_43 : decode cX6_unit 43 = .ok (.iconst 1, 1) := by decide +kernel
theorem dX6_unit_44 : decode cX6_unit 44 = .ok (.iadd, 1) := by decide +kernel
theorem dX6_unit_45 : decode cX6_unit 45 = .ok (.putfield 56, 3) := by decide +kernel
theorem dX6_unit_48 : decode cX6_unit 48 = .ok (.iconst 1, 1) := by decide +kernel
theorem dX6_unit_49 : decode cX6_unit 49 = .ok (.ireturn, 1) := by decide +kernel
theorem dX6_look_0 : decode cX6_look 0 = .ok (.aload_n 0, 1) := by decide +kernel
theorem dX6_look_1 : decode cX6_look 1 = .ok (.lconst 0, 1) := by decide +kernel
theorem dX6_look_2 : decode cX6_look 2 = .ok (.putfield 59, 3) := by decide +kernel
theorem dX6_look_5 : decode cX6_look 5 = .ok (.aload_n 0, 1) := by decide +kernel
theorem dX6_look_6 : decode cX6_look 6 = .ok (.lconst 0, 1) := by decide +kernel
theorem dX6_look_7 : decode cX6_look 7 = .ok (.putfield 63, 3) := by decide +kernel
theorem dX6_look_10 : decode cX6_look 10 = .ok (.aload_n 0, 1) := by decide +kernel
theorem dX6_look_11 : decode cX6_look 11 = .ok (.lconst 0, 1) := by decide +kernel
theorem dX6_look_12 : decode cX6_look 12 = .ok (.putfield 66, 3) := by decide +kernel
theorem dX6_look_15 : decode cX6_look 15 = .ok (.aload_n 0, 1) := by decide +kernel
theorem dX6_look_16 : decode cX6_look 16 = .ok (.iconst (-1), 1) := by decide +kernel
theorem dX6_look_17 : decode cX6_look 17 = .ok (.putfield 69, 3) := by decide +kernel
theorem dX6_look_20 : decode cX6_look 20 = .ok (.aload_n 0, 1) := by decide +kernel
theorem dX6_look_21 : decode cX6_look 21 = .ok (.iconst 0, 1) := by decide +kernel
theorem dX6_look_22 : decode cX6_look 22 = .ok (.putfield 72, 3) := by decide +kernel
theorem dX6_look_25 : decode cX6_look 25 = .ok (.iconst 0, 1) := by decide +kernel
theorem dX6_look_26 : decode cX6_look 26 = .ok (.istore_n 1, 1) := by decide +kernel
theorem dX6_look_27 : decode cX6_look 27 = .ok (.iconst 0, 1) := by decide +kernel
theorem dX6_look_28 : decode cX6_look 28 = .ok (.istore_n 2, 1) := by decide +kernel
theorem dX6_look_29 : decode cX6_look 29 = .ok (.iconst 0, 1) := by decide +kernel
theorem dX6_look_30 : decode cX6_look 30 = .ok (.istore_n 3, 1) := by decide +kernel
theorem dX6_look_31 : decode cX6_look 31 = .ok (.iload_n 3, 1) := by decide +kernel
theorem dX6_look_32 : decode cX6_look 32 = .ok (.aload_n 0, 1) := by decide +kernel
theorem dX6_look_33 : decode cX6_look 33 = .ok (.getfield 56, 3) := by decide +kernel
theorem dX6_look_36 : decode cX6_look 36 = .ok (.if_icmp .ge 335, 3) := by decide +kernel
theorem dX6_look_39 : decode cX6_look 39 = .ok (.aload_n 0, 1) := by decide +kernel
theorem dX6_look_40 : decode cX6_look 40 = .ok (.getfield 7, 3) := by decide +kernel
theorem dX6_look_43 : decode cX6_look 43 = .ok (.iload_n 3, 1) := by decide +kernel
theorem dX6_look_44 : decode cX6_look 44 = .ok (.iaload, 1) := by decide +kernel
theorem dX6_look_45 : decode cX6_look 45 = .ok (.istore 4, 2) := by decide +kernel
theorem dX6_look_47 : decode cX6_look 47 = .ok (.iload_n 2, 1) := by decide +kernel
theorem dX6_look_48 : decode cX6_look 48 = .ok (.bipush 8, 2) := by decide +kernel
theorem dX6_look_50 : decode cX6_look 50 = .ok (.if_icmp .ne 5, 3) := by decide +kernel
theorem dX6_look_53 : decode cX6_look 53 = .ok (.iload_n 3, 1) := by decide +kernel
theorem dX6_look_54 : decode cX6_look 54 = .ok (.ireturn, 1) := by decide +kernel
theorem dX6_look_55 : decode cX6_look 55 = .ok (.iload 4, 2) := by decide +kernel
theorem dX6_look_57 : decode cX6_look 57 = .ok (.bipush 10, 2) := by decide +kernel
theorem dX6_look_59 : decode cX6_look 59 = .ok (.if_icmp .eq 10, 3) := by decide +kernel
theorem dX6_look_62 : decode cX6_look 62 = .ok (.iload 4, 2) := by decide +kernel
theorem dX6_look_64 : decode cX6_look 64 = .ok (.bipush 124, 2) := by decide +kernel
theorem dX6_look_66 : decode cX6_look 66 = .ok (.if_icmp .ne 11, 3) := by decide +kernel
theorem dX6_look_69 : decode cX6_look 69 = .ok (.iinc 2 1, 3) := by decide +kernel
theorem dX6_look_72 : decode cX6_look 72 = .ok (.iconst 0, 1) := by decide +kernel
theorem dX6_look_73 : decode cX6_look 73 = .ok (.istore_n 1, 1) := by decide +kernel
theorem dX6_look_74 : decode cX6_look 74 = .ok (.goto 291, 3) := by decide +kernel
theorem dX6_look_77 : decode cX6_look 77 = .ok (.iload 4, 2) := by decide +kernel
theorem dX6_look_79 : decode cX6_look 79 = .ok (.bipush 46, 2) := by decide +kernel
theorem dX6_look_81 : decode cX6_look 81 = .ok (.if_icmp .eq 17, 3) := by decide +kernel
theorem dX6_look_84 : decode cX6_look 84 = .ok (.iload 4, 2) := by decide +kernel
theorem dX6_look_86 : decode cX6_look 86 = .ok (.bipush 42, 2) := by decide +kernel
theorem dX6_look_88 : decode cX6_look 88 = .ok (.if_icmp .eq 10, 3) := by decide +kernel
theorem dX6_look_91 : decode cX6_look 91 = .ok (.iload 4, 2) := by decide +kernel
theorem dX6_look_93 : decode cX6_look 93 = .ok (.bipush 43, 2) := by decide +kernel
theorem dX6_look_95 : decode cX6_look 95 = .ok (.if_icmp .ne 7, 3) := by decide +kernel
theorem dX6_look_98 : decode cX6_look 98 = .ok (.iconst 1, 1) := by decide +kernel
theorem dX6_look_99 : decode cX6_look 99 = .ok (.goto 4, 3) := by decide +kernel
theorem dX6_look_102 : decode cX6_look 102 = .ok (.iconst 0, 1) := by decide +kernel
theorem dX6_look_103 : decode cX6_look 103 = .ok (.istore 5, 2) := by decide +kernel
theorem dX6_look_105 : decode cX6_look 105 = .ok (.iload 4, 2) := by decide +kernel
theorem dX6_look_107 : decode cX6_look 107 = .ok (.bipush 36, 2) := by decide +kernel
theorem dX6_look_109 : decode cX6_look 109 = .ok (.if_icmp .eq 10, 3) := by decide +kernel
theorem dX6_look_112 : decode cX6_look 112 = .ok (.iload 4, 2) := by decide +kernel
theorem dX6_look_114 : decode cX6_look 114 = .ok (.bipush 42, 2) := by decide +kernel
theorem dX6_look_116 : decode cX6_look 116 = .ok (.if_icmp .ne 7, 3) := by decide +kernel
theorem dX6_look_119 : decode cX6_look 119 = .ok (.iconst 1, 1) := by decide +kernel
theorem dX6_look_120 : decode cX6_look 120 = .ok (.goto 4, 3) := by decide +kernel
theorem dX6_look_123 : decode cX6_look 123 = .ok (.iconst 0, 1) := by decide +kernel
theorem dX6_look_124 : decode cX6_look 124 = .ok (.istore 6, 2) := by decide +kernel
theorem dX6_look_126 : decode cX6_look 126 = .ok (.iload 4, 2) := by decide +kernel
theorem dX6_look_128 : decode cX6_look 128 = .ok (.bipush 64, 2) := by decide +kernel
theorem dX6_look_130 : decode cX6_look 130 = .ok (.if_icmp .eq 10, 3) := by decide +kernel
theorem dX6_look_133 : decode cX6_look 133 = .ok (.iload 4, 2) := by decide +kernel
theorem dX6_look_135 : decode cX6_look 135 = .ok (.bipush 43, 2) := by decide +kernel
theorem dX6_look_137 : decode cX6_look 137 = .ok (.if_icmp .ne 7, 3) := by decide +kernel
theorem dX6_look_140 : decode cX6_look 140 = .ok (.iconst 1, 1) := by decide +kernel
theorem dX6_look_141 : decode cX6_look 141 = .ok (.goto 4, 3) := by decide +kernel
theorem dX6_look_144 : decode cX6_look 144 = .ok (.iconst 0, 1) := by decide +kernel
theorem dX6_look_145 : decode cX6_look 145 = .ok (.istore 7, 2) := by decide +kernel
theorem dX6_look_147 : decode cX6_look 147 = .ok (.iload 5, 2) := by decide +kernel
theorem dX6_look_149 : decode cX6_look 149 = .ok (.ifCond .ne 36, 3) := by decide +kernel
theorem dX6_look_152 : decode cX6_look 152 = .ok (.iload 6, 2) := by decide +kernel
theorem dX6_look_154 : decode cX6_look 154 = .ok (.ifCond .ne 31, 3) := by decide +kernel
theorem dX6_look_157 : decode cX6_look 157 = .ok (.iload 7, 2) := by decide +kernel
theorem dX6_look_159 : decode cX6_look 159 = .ok (.ifCond .ne 26, 3) := by decide +kernel
theorem dX6_look_162 : decode cX6_look 162 = .ok (.iload 4, 2) := by decide +kernel
theorem dX6_look_164 : decode cX6_look 164 = .ok (.bipush 35, 2) := by decide +kernel
theorem dX6_look_166 : decode cX6_look 166 = .ok (.if_icmp .eq 19, 3) := by decide +kernel
theorem dX6_look_169 : decode cX6_look 169 = .ok (.iload 4, 2) := by decide +kernel
theorem dX6_look_171 : decode cX6_look 171 = .ok (.bipush 32, 2) := by decide +kernel
theorem dX6_look_173 : decode cX6_look 173 = .ok (.if_icmp .eq 12, 3) := by decide +kernel
theorem dX6_look_176 : decode cX6_look 176 = .ok (.iload 4, 2) := by decide +kernel
theorem dX6_look_178 : decode cX6_look 178 = .ok (.bipush 95, 2) := by decide +kernel
theorem dX6_look_180 : decode cX6_look 180 = .ok (.if_icmp .eq 5, 3) := by decide +kernel
theorem dX6_look_183 : decode cX6_look 183 = .ok (.iload_n 3, 1) := by decide +kernel
theorem dX6_look_184 : decode cX6_look 184 = .ok (.ireturn, 1) := by decide +kernel
theorem dX6_look_185 : decode cX6_look 185 = .ok (.iload_n 1, 1) := by decide +kernel
theorem dX6_look_186 : decode cX6_look 186 = .ok (.bipush 8, 2) := by decide +kernel
theorem dX6_look_188 : decode cX6_look 188 = .ok (.if_icmp .eq 49, 3) := by decide +kernel
theorem dX6_look_191 : decode cX6_look 191 = .ok (.iload 7, 2) := by decide +kernel
theorem dX6_look_193 : decode cX6_look 193 = .ok (.ifCond .eq 10, 3) := by decide +kernel
theorem dX6_look_196 : decode cX6_look 196 = .ok (.aload_n 0, 1) := by decide +kernel
theorem dX6_look_197 : decode cX6_look 197 = .ok (.getfield 69, 3) := by decide +kernel
theorem dX6_look_200 : decode cX6_look 200 = .ok (.ifCond .ge 37, 3) := by decide +kernel
theorem dX6_look_203 : decode cX6_look 203 = .ok (.iload 5, 2) := by decide +kernel
theorem dX6_look_205 : decode cX6_look 205 = .ok (.ifCond .eq 15, 3) := by decide +kernel
theorem dX6_look_208 : decode cX6_look 208 = .ok (.aload_n 0, 1) := by decide +kernel
theorem dX6_look_209 : decode cX6_look 209 = .ok (.getfield 63, 3) := by decide +kernel
theorem dX6_look_212 : decode cX6_look 212 = .ok (.invokestatic 75, 3) := by decide +kernel
theorem dX6_look_215 : decode cX6_look 215 = .ok (.bipush 12, 2) := by decide +kernel
theorem dX6_look_217 : decode cX6_look 217 = .ok (.if_icmp .eq 20, 3) := by decide +kernel
theorem dX6_look_220 : decode cX6_look 220 = .ok (.iload 6, 2) := by decide +kernel
theorem dX6_look_222 : decode cX6_look 222 = .ok (.ifCond .eq 17, 3) := by decide +kernel
theorem dX6_look_225 : decode cX6_look 225 = .ok (.aload_n 0, 1) := by decide +kernel
theorem dX6_look_226 : decode cX6_look 226 = .ok (.getfield 66, 3) := by decide +kernel
theorem dX6_look_229 : decode cX6_look 229 = .ok (.invokestatic 75, 3) := by decide +kernel
theorem dX6_look_232 : decode cX6_look 232 = .ok (.bipush 12, 2) := by decide +kernel
theorem dX6_look_234 : decode cX6_look 234 = .ok (.if_icmp .ne 5, 3) := by decide +kernel
theorem dX6_look_237 : decode cX6_look 237 = .ok (.iload_n 3, 1) := by decide +kernel
theorem dX6_look_238 : decode cX6_look 238 = .ok (.ireturn, 1) := by decide +kernel
theorem dX6_look_239 : decode cX6_look 239 = .ok (.lconst 1, 1) := by decide +kernel
theorem dX6_look_240 : decode cX6_look 240 = .ok (.bipush 8, 2) := by decide +kernel
theorem dX6_look_242 : decode cX6_look 242 = .ok (.iload_n 2, 1) := by decide +kernel
theorem dX6_look_243 : decode cX6_look 243 = .ok (.imul, 1) := by decide +kernel
theorem dX6_look_244 : decode cX6_look 244 = .ok (.iload_n 1, 1) := by decide +kernel
theorem dX6_look_245 : decode cX6_look 245 = .ok (.iadd, 1) := by decide +kernel
theorem dX6_look_246 : decode cX6_look 246 = .ok (.lshl, 1) := by decide +kernel
theorem dX6_look_247 : decode cX6_look 247 = .ok (.lstore 8, 2) := by decide +kernel
theorem dX6_look_249 : decode cX6_look 249 = .ok (.aload_n 0, 1) := by decide +kernel
theorem dX6_look_250 : decode cX6_look 250 = .ok (.iload 4, 2) := by decide +kernel
theorem dX6_look_252 : decode cX6_look 252 = .ok (.bipush 35, 2) := by decide +kernel
theorem dX6_look_254 : decode cX6_look 254 = .ok (.if_icmp .ne 13, 3) := by decide +kernel
theorem dX6_look_257 : decode cX6_look 257 = .ok (.aload_n 0, 1) := by decide +kernel
theorem dX6_look_258 : decode cX6_look 258 = .ok (.getfield 59, 3) := by decide +kernel
theorem dX6_look_261 : decode cX6_look 261 = .ok (.lload 8, 2) := by decide +kernel
theorem dX6_look_263 : decode cX6_look 263 = .ok (.lor, 1) := by decide +kernel
theorem dX6_look_264 : decode cX6_look 264 = .ok (.goto 7, 3) := by decide +kernel
theorem dX6_look_267 : decode cX6_look 267 = .ok (.aload_n 0, 1) := by decide +kernel
theorem dX6_look_268 : decode cX6_look 268 = .ok (.getfield 59, 3) := by decide +kernel
theorem dX6_look_271 : decode cX6_look 271 = .ok (.putfield 59, 3) := by decide +kernel
theorem dX6_look_274 : decode cX6_look 274 = .ok (.aload_n 0, 1) := by decide +kernel
theorem dX6_look_275 : decode cX6_look 275 = .ok (.iload 5, 2) := by decide +kernel
theorem dX6_look_277 : decode cX6_look 277 = .ok (.ifCond .eq 13, 3) := by decide +kernel
theorem dX6_look_280 : decode cX6_look 280 = .ok (.aload_n 0, 1) := by decide +kernel
theorem dX6_look_281 : decode cX6_look 281 = .ok (.getfield 63, 3) := by decide +kernel
theorem dX6_look_284 : decode cX6_look 284 = .ok (.lload 8, 2) := by decide +kernel
theorem dX6_look_286 : decode cX6_look 286 = .ok (.lor, 1) := by decide +kernel
theorem dX6_look_287 : decode cX6_look 287 = .ok (.goto 7, 3) := by decide +kernel
theorem dX6_look_290 : decode cX6_look 290 = .ok (.aload_n 0, 1) := by decide +kernel
theorem dX6_look_291 : decode cX6_look 291 = .ok (.getfield 63, 3) := by decide +kernel
theorem dX6_look_294 : decode cX6_look 294 = .ok (.putfield 63, 3) := by decide +kernel
theorem dX6_look_297 : decode cX6_look 297 = .ok (.aload_n 0, 1) := by decide +kernel
theorem dX6_look_298 : decode cX6_look 298 = .ok (.iload 6, 2) := by decide +kernel
theorem dX6_look_300 : decode cX6_look 300 = .ok (.ifCond .eq 13, 3) := by decide +kernel
theorem dX6_look_303 : decode cX6_look 303 = .ok (.aload_n 0, 1) := by decide +kernel
theorem dX6_look_304 : decode cX6_look 304 = .ok (.getfield 66, 3) := by decide +kernel
theorem dX6_look_307 : decode cX6_look 307 = .ok (.lload 8, 2) := by decide +kernel
theorem dX6_look_309 : decode cX6_look 309 = .ok (.lor, 1) := by decide +kernel
theorem dX6_look_310 : decode cX6_look 310 = .ok (.goto 7, 3) := by decide +kernel
theorem dX6_look_313 : decode cX6_look 313 = .ok (.aload_n 0, 1) := by decide +kernel
theorem dX6_look_314 : decode cX6_look 314 = .ok (.getfield 66, 3) := by decide +kernel
theorem dX6_look_317 : decode cX6_look 317 = .ok (.putfield 66, 3) := by decide +kernel
theorem dX6_look_320 : decode cX6_look 320 = .ok (.aload_n 0, 1) := by decide +kernel
theorem dX6_look_321 : decode cX6_look 321 = .ok (.iload 7, 2) := by decide +kernel
theorem dX6_look_323 : decode cX6_look 323 = .ok (.ifCond .eq 12, 3) := by decide +kernel
theorem dX6_look_326 : decode cX6_look 326 = .ok (.bipush 8, 2) := by decide +kernel
theorem dX6_look_328 : decode cX6_look 328 = .ok (.iload_n 2, 1) := by decide +kernel
theorem dX6_look_329 : decode cX6_look 329 = .ok (.imul, 1) := by decide +kernel
theorem dX6_look_330 : decode cX6_look 330 = .ok (.iload_n 1, 1) := by decide +kernel
theorem dX6_look_331 : decode cX6_look 331 = .ok (.iadd, 1) := by decide +kernel
theorem dX6_look_332 : decode cX6_look 332 = .ok (.goto 7, 3) := by decide +kernel
theorem dX6_look_335 : decode cX6_look 335 = .ok (.aload_n 0, 1) := by decide +kernel
theorem dX6_look_336 : decode cX6_look 336 = .ok (.getfield 69, 3) := by decide +kernel
theorem dX6_look_339 : decode cX6_look 339 = .ok (.putfield 69, 3) := by decide +kernel
theorem dX6_look_342 : decode cX6_look 342 = .ok (.iinc 1 1, 3) := by decide +kernel
theorem dX6_look_345 : decode cX6_look 345 = .ok (.aload_n 0, 1) := by decide +kernel
theorem dX6_look_346 : decode cX6_look 346 = .ok (.iload_n 1, 1) := by decide +kernel
theorem dX6_look_347 : decode cX6_look 347 = .ok (.aload_n 0, 1) := by decide +kernel
theorem dX6_look_348 : decode cX6_look 348 = .ok (.getfield 72, 3) := by decide +kernel
theorem dX6_look_351 : decode cX6_look 351 = .ok (.if_icmp .le 7, 3) := by decide +kernel
theorem dX6_look_354 : decode cX6_look 354 = .ok (.iload_n 1, 1) := by decide +kernel
theorem dX6_look_355 : decode cX6_look 355 = .ok (.goto 7, 3) := by decide +kernel
theorem dX6_look_358 : decode cX6_look 358 = .ok (.aload_n 0, 1) := by decide +kernel
theorem dX6_look_359 : decode cX6_look 359 = .ok (.getfield 72, 3) := by decide +kernel
theorem dX6_look_362 : decode cX6_look 362 = .ok (.putfield 72, 3) := by decide +kernel
theorem dX6_look_365 : decode cX6_look 365 = .ok (.iinc 3 1, 3) := by decide +kernel
theorem dX6_look_368 : decode cX6_look 368 = .ok (.goto (-337), 3) := by decide +kernel
theorem dX6_look_371 : decode cX6_look 371 = .ok (.iconst (-1), 1) := by decide +kernel
theorem dX6_look_372 : decode cX6_look 372 = .ok (.ireturn, 1) := by decide +kernel
theorem dX6_read_0 : decode cX6_read 0 = .ok (.aload_n 0, 1) := by decide +kernel
theorem dX6_read_1 : decode cX6_read 1 = .ok (.iconst 0, 1) := by decide +kernel
theorem dX6_read_2 : decode cX6_read 2 = .ok (.putfield 42, 3) := by decide +kernel
theorem dX6_read_5 : decode cX6_read 5 = .ok (.aload_n 0, 1) := by decide +kernel
theorem dX6_read_6 : decode cX6_read 6 = .ok (.invokevirtual 79, 3) := by decide +kernel
theorem dX6_read_9 : decode cX6_read 9 = .ok (.istore_n 1, 1) := by decide +kernel
theorem dX6_read_10 : decode cX6_read 10 = .ok (.iconst 0, 1) := by decide +kernel
theorem dX6_read_11 : decode cX6_read 11 = .ok (.istore_n 2, 1) := by decide +kernel
theorem dX6_read_12 : decode cX6_read 12 = .ok (.iconst 0, 1) := by decide +kernel
theorem dX6_read_13 : decode cX6_read 13 = .ok (.istore_n 3, 1) := by decide +kernel
theorem dX6_read_14 : decode cX6_read 14 = .ok (.iload_n 3, 1) := by decide +kernel
theorem dX6_read_15 : decode cX6_read 15 = .ok (.aload_n 0, 1) := by decide +kernel
theorem dX6_read_16 : decode cX6_read 16 = .ok (.getfield 56, 3) := by decide +kernel
theorem dX6_read_19 : decode cX6_read 19 = .ok (.if_icmp .ge 49, 3) := by decide +kernel
theorem dX6_read_22 : decode cX6_read 22 = .ok (.iload_n 2, 1) := by decide +kernel
theorem dX6_read_23 : decode cX6_read 23 = .ok (.aload_n 0, 1) := by decide +kernel
theorem dX6_read_24 : decode cX6_read 24 = .ok (.getfield 7, 3) := by decide +kernel
theorem dX6_read_27 : decode cX6_read 27 = .ok (.iload_n 3, 1) := by decide +kernel
theorem dX6_read_28 : decode cX6_read 28 = .ok (.iaload, 1) := by decide +kernel
theorem dX6_read_29 : decode cX6_read 29 = .ok (.bipush 10, 2) := by decide +kernel
theorem dX6_read_31 : decode cX6_read 31 = .ok (.if_icmp .eq 24, 3) := by decide +kernel
theorem dX6_read_34 : decode cX6_read 34 = .ok (.aload_n 0, 1) := by decide +kernel
theorem dX6_read_35 : decode cX6_read 35 = .ok (.getfield 7, 3) := by decide +kernel
theorem dX6_read_38 : decode cX6_read 38 = .ok (.iload_n 3, 1) := by decide +kernel
theorem dX6_read_39 : decode cX6_read 39 = .ok (.iaload, 1) := by decide +kernel
theorem dX6_read_40 : decode cX6_read 40 = .ok (.bipush 124, 2) := by decide +kernel
theorem dX6_read_42 : decode cX6_read 42 = .ok (.if_icmp .eq 13, 3) := by decide +kernel
theorem dX6_read_45 : decode cX6_read 45 = .ok (.iload_n 3, 1) := by decide +kernel
theorem dX6_read_46 : decode cX6_read 46 = .ok (.aload_n 0, 1) := by decide +kernel
theorem dX6_read_47 : decode cX6_read 47 = .ok (.getfield 56, 3) := by decide +kernel
theorem dX6_read_50 : decode cX6_read 50 = .ok (.iconst 1, 1) := by decide +kernel
theorem dX6_read_51 : decode cX6_read 51 = .ok (.isub, 1) := by decide +kernel
theorem dX6_read_52 : decode cX6_read 52 = .ok (.if_icmp .ne 7, 3) := by decide +kernel
theorem dX6_read_55 : decode cX6_read 55 = .ok (.iconst 1, 1) := by decide +kernel
theorem dX6_read_56 : decode cX6_read 56 = .ok (.goto 4, 3) := by decide +kernel
theorem dX6_read_59 : decode cX6_read 59 = .ok (.iconst 0, 1) := by decide +kernel
theorem dX6_read_60 : decode cX6_read 60 = .ok (.iadd, 1) := by decide +kernel
theorem dX6_read_61 : decode cX6_read 61 = .ok (.istore_n 2, 1) := by decide +kernel
theorem dX6_read_62 : decode cX6_read 62 = .ok (.iinc 3 1, 3) := by decide +kernel
theorem dX6_read_65 : decode cX6_read 65 = .ok (.goto (-51), 3) := by decide +kernel
theorem dX6_read_68 : decode cX6_read 68 = .ok (.aload_n 0, 1) := by decide +kernel
theorem dX6_read_69 : decode cX6_read 69 = .ok (.iconst 0, 1) := by decide +kernel
theorem dX6_read_70 : decode cX6_read 70 = .ok (.putfield 56, 3) := by decide +kernel
theorem dX6_read_73 : decode cX6_read 73 = .ok (.iload_n 1, 1) := by decide +kernel
theorem dX6_read_74 : decode cX6_read 74 = .ok (.ifCond .lt 7, 3) := by decide +kernel
theorem dX6_read_77 : decode cX6_read 77 = .ok (.iconst (-1), 1) := by decide +kernel
theorem dX6_read_78 : decode cX6_read 78 = .ok (.iload_n 1, 1) := by decide +kernel
theorem dX6_read_79 : decode cX6_read 79 = .ok (.isub, 1) := by decide +kernel
theorem dX6_read_80 : decode cX6_read 80 = .ok (.ireturn, 1) := by decide +kernel
theorem dX6_read_81 : decode cX6_read 81 = .ok (.aload_n 0, 1) := by decide +kernel
theorem dX6_read_82 : decode cX6_read 82 = .ok (.getfield 72, 3) := by decide +kernel
theorem dX6_read_85 : decode cX6_read 85 = .ok (.ifCond .eq 27, 3) := by decide +kernel
theorem dX6_read_88 : decode cX6_read 88 = .ok (.aload_n 0, 1) := by decide +kernel
theorem dX6_read_89 : decode cX6_read 89 = .ok (.getfield 69, 3) := by decide +kernel
theorem dX6_read_92 : decode cX6_read 92 = .ok (.ifCond .lt 20, 3) := by decide +kernel
theorem dX6_read_95 : decode cX6_read 95 = .ok (.aload_n 0, 1) := by decide +kernel
theorem dX6_read_96 : decode cX6_read 96 = .ok (.getfield 66, 3) := by decide +kernel
theorem dX6_read_99 : decode cX6_read 99 = .ok (.invokestatic 75, 3) := by decide +kernel
theorem dX6_read_102 : decode cX6_read 102 = .ok (.aload_n 0, 1) := by decide +kernel
theorem dX6_read_103 : decode cX6_read 103 = .ok (.getfield 63, 3) := by decide +kernel
theorem dX6_read_106 : decode cX6_read 106 = .ok (.invokestatic 75, 3) := by decide +kernel
theorem dX6_read_109 : decode cX6_read 109 = .ok (.if_icmp .ge 7, 3) := by decide +kernel
theorem dX6_read_112 : decode cX6_read 112 = .ok (.sipush (-200), 3) := by decide +kernel
theorem dX6_read_115 : decode cX6_read 115 = .ok (.ireturn, 1) := by decide +kernel
theorem dX6_read_116 : decode cX6_read 116 = .ok (.aload_n 0, 1) := by decide +kernel
theorem dX6_read_117 : decode cX6_read 117 = .ok (.iconst 1, 1) := by decide +kernel
theorem dX6_read_118 : decode cX6_read 118 = .ok (.putfield 83, 3) := by decide +kernel
theorem dX6_read_121 : decode cX6_read 121 = .ok (.aload_n 0, 1) := by decide +kernel
theorem dX6_read_122 : decode cX6_read 122 = .ok (.aload_n 0, 1) := by decide +kernel
theorem dX6_read_123 : decode cX6_read 123 = .ok (.getfield 72, 3) := by decide +kernel
theorem dX6_read_126 : decode cX6_read 126 = .ok (.putfield 46, 3) := by decide +kernel
theorem dX6_read_129 : decode cX6_read 129 = .ok (.aload_n 0, 1) := by decide +kernel
theorem dX6_read_130 : decode cX6_read 130 = .ok (.iload_n 2, 1) := by decide +kernel
theorem dX6_read_131 : decode cX6_read 131 = .ok (.putfield 49, 3) := by decide +kernel
theorem dX6_read_134 : decode cX6_read 134 = .ok (.aload_n 0, 1) := by decide +kernel
theorem dX6_read_135 : decode cX6_read 135 = .ok (.lconst 0, 1) := by decide +kernel
theorem dX6_read_136 : decode cX6_read 136 = .ok (.putfield 87, 3) := by decide +kernel
theorem dX6_read_139 : decode cX6_read 139 = .ok (.iconst 0, 1) := by decide +kernel
theorem dX6_read_140 : decode cX6_read 140 = .ok (.istore_n 3, 1) := by decide +kernel
theorem dX6_read_141 : decode cX6_read 141 = .ok (.iload_n 3, 1) := by decide +kernel
theorem dX6_read_142 : decode cX6_read 142 = .ok (.aload_n 0, 1) := by decide +kernel
theorem dX6_read_143 : decode cX6_read 143 = .ok (.getfield 49, 3) := by decide +kernel
theorem dX6_read_146 : decode cX6_read 146 = .ok (.if_icmp .ge 62, 3) := by decide +kernel
theorem dX6_read_149 : decode cX6_read 149 = .ok (.iconst 0, 1) := by decide +kernel
theorem dX6_read_150 : decode cX6_read 150 = .ok (.istore 4, 2) := by decide +kernel
theorem dX6_read_152 : decode cX6_read 152 = .ok (.iload 4, 2) := by decide +kernel
theorem dX6_read_154 : decode cX6_read 154 = .ok (.aload_n 0, 1) := by decide +kernel
theorem dX6_read_155 : decode cX6_read 155 = .ok (.getfield 46, 3) := by decide +kernel
theorem dX6_read_158 : decode cX6_read 158 = .ok (.if_icmp .ge 44, 3) := by decide +kernel
theorem dX6_read_161 : decode cX6_read 161 = .ok (.aload_n 0, 1) := by decide +kernel
theorem dX6_read_162 : decode cX6_read 162 = .ok (.getfield 59, 3) := by decide +kernel
theorem dX6_read_165 : decode cX6_read 165 = .ok (.bipush 8, 2) := by decide +kernel
theorem dX6_read_167 : decode cX6_read 167 = .ok (.iload_n 3, 1) := by decide +kernel
theorem dX6_read_168 : decode cX6_read 168 = .ok (.imul, 1) := by decide +kernel
theorem dX6_read_169 : decode cX6_read 169 = .ok (.iload 4, 2) := by decide +kernel
theorem dX6_read_171 : decode cX6_read 171 = .ok (.iadd, 1) := by decide +kernel
theorem dX6_read_172 : decode cX6_read 172 = .ok (.invokestatic 90, 3) := by decide +kernel
theorem dX6_read_175 : decode cX6_read 175 = .ok (.ifCond .ne 21, 3) := by decide +kernel
theorem dX6_read_178 : decode cX6_read 178 = .ok (.aload_n 0, 1) := by decide +kernel
theorem dX6_read_179 : decode cX6_read 179 = .ok (.aload_n 0, 1) := by decide +kernel
theorem dX6_read_180 : decode cX6_read 180 = .ok (.getfield 87, 3) := by decide +kernel
theorem dX6_read_183 : decode cX6_read 183 = .ok (.lconst 1, 1) := by decide +kernel
theorem dX6_read_184 : decode cX6_read 184 = .ok (.bipush 8, 2) := by decide +kernel
theorem dX6_read_186 : decode cX6_read 186 = .ok (.iload_n 3, 1) := by decide +kernel
theorem dX6_read_187 : decode cX6_read 187 = .ok (.imul, 1) := by decide +kernel
theorem dX6_read_188 : decode cX6_read 188 = .ok (.iload 4, 2) := by decide +kernel
theorem dX6_read_190 : decode cX6_read 190 = .ok (.iadd, 1) := by decide +kernel
theorem dX6_read_191 : decode cX6_read 191 = .ok (.lshl, 1) := by decide +kernel
theorem dX6_read_192 : decode cX6_read 192 = .ok (.lor, 1) := by decide +kernel
theorem dX6_read_193 : decode cX6_read 193 = .ok (.putfield 87, 3) := by decide +kernel
theorem dX6_read_196 : decode cX6_read 196 = .ok (.iinc 4 1, 3) := by decide +kernel
theorem dX6_read_199 : decode cX6_read 199 = .ok (.goto (-47), 3) := by decide +kernel
theorem dX6_read_202 : decode cX6_read 202 = .ok (.iinc 3 1, 3) := by decide +kernel
theorem dX6_read_205 : decode cX6_read 205 = .ok (.goto (-64), 3) := by decide +kernel
theorem dX6_read_208 : decode cX6_read 208 = .ok (.aload_n 0, 1) := by decide +kernel
theorem dX6_read_209 : decode cX6_read 209 = .ok (.aload_n 0, 1) := by decide +kernel
theorem dX6_read_210 : decode cX6_read 210 = .ok (.getfield 63, 3) := by decide +kernel
theorem dX6_read_213 : decode cX6_read 213 = .ok (.putfield 94, 3) := by decide +kernel
theorem dX6_read_216 : decode cX6_read 216 = .ok (.aload_n 0, 1) := by decide +kernel
theorem dX6_read_217 : decode cX6_read 217 = .ok (.aload_n 0, 1) := by decide +kernel
theorem dX6_read_218 : decode cX6_read 218 = .ok (.getfield 66, 3) := by decide +kernel
theorem dX6_read_221 : decode cX6_read 221 = .ok (.putfield 97, 3) := by decide +kernel
theorem dX6_read_224 : decode cX6_read 224 = .ok (.aload_n 0, 1) := by decide +kernel
theorem dX6_read_225 : decode cX6_read 225 = .ok (.aload_n 0, 1) := by decide +kernel
theorem dX6_read_226 : decode cX6_read 226 = .ok (.getfield 69, 3) := by decide +kernel
theorem dX6_read_229 : decode cX6_read 229 = .ok (.putfield 100, 3) := by decide +kernel
theorem dX6_read_232 : decode cX6_read 232 = .ok (.aload_n 0, 1) := by decide +kernel
theorem dX6_read_233 : decode cX6_read 233 = .ok (.iconst 0, 1) := by decide +kernel
theorem dX6_read_234 : decode cX6_read 234 = .ok (.putfield 103, 3) := by decide +kernel
theorem dX6_read_237 : decode cX6_read 237 = .ok (.aload_n 0, 1) := by decide +kernel
theorem dX6_read_238 : decode cX6_read 238 = .ok (.iconst 0, 1) := by decide +kernel
theorem dX6_read_239 : decode cX6_read 239 = .ok (.putfield 106, 3) := by decide +kernel
theorem dX6_read_242 : decode cX6_read 242 = .ok (.aload_n 0, 1) := by decide +kernel
theorem dX6_read_243 : decode cX6_read 243 = .ok (.iconst 0, 1) := by decide +kernel
theorem dX6_read_244 : decode cX6_read 244 = .ok (.putfield 109, 3) := by decide +kernel
theorem dX6_read_247 : decode cX6_read 247 = .ok (.aload_n 0, 1) := by decide +kernel
theorem dX6_read_248 : decode cX6_read 248 = .ok (.getfield 97, 3) := by decide +kernel
theorem dX6_read_251 : decode cX6_read 251 = .ok (.invokestatic 75, 3) := by decide +kernel
theorem dX6_read_254 : decode cX6_read 254 = .ok (.ireturn, 1) := by decide +kernel
theorem dX6_go_0 : decode cX6_go 0 = .ok (.aload_n 0, 1) := by decide +kernel
theorem dX6_go_1 : decode cX6_go 1 = .ok (.aload_n 0, 1) := by decide +kernel
theorem dX6_go_2 : decode cX6_go 2 = .ok (.getfield 100, 3) := by decide +kernel
theorem dX6_go_5 : decode cX6_go 5 = .ok (.iload_n 1, 1) := by decide +kernel
theorem dX6_go_6 : decode cX6_go 6 = .ok (.invokevirtual 112, 3) := by decide +kernel
theorem dX6_go_9 : decode cX6_go 9 = .ok (.istore_n 2, 1) := by decide +kernel
theorem dX6_go_10 : decode cX6_go 10 = .ok (.aload_n 0, 1) := by decide +kernel
theorem dX6_go_11 : decode cX6_go 11 = .ok (.getfield 87, 3) := by decide +kernel
theorem dX6_go_14 : decode cX6_go 14 = .ok (.iload_n 2, 1) := by decide +kernel
theorem dX6_go_15 : decode cX6_go 15 = .ok (.invokestatic 90, 3) := by decide +kernel
theorem dX6_go_18 : decode cX6_go 18 = .ok (.ifCond .ne 5, 3) := by decide +kernel
theorem dX6_go_21 : decode cX6_go 21 = .ok (.iconst 0, 1) := by decide +kernel
theorem dX6_go_22 : decode cX6_go 22 = .ok (.ireturn, 1) := by decide +kernel
theorem dX6_go_23 : decode cX6_go 23 = .ok (.iconst 1, 1) := by decide +kernel
theorem dX6_go_24 : decode cX6_go 24 = .ok (.istore_n 3, 1) := by decide +kernel
theorem dX6_go_25 : decode cX6_go 25 = .ok (.aload_n 0, 1) := by decide +kernel
theorem dX6_go_26 : decode cX6_go 26 = .ok (.getfield 97, 3) := by decide +kernel
theorem dX6_go_29 : decode cX6_go 29 = .ok (.iload_n 2, 1) := by decide +kernel
theorem dX6_go_30 : decode cX6_go 30 = .ok (.invokestatic 90, 3) := by decide +kernel
theorem dX6_go_33 : decode cX6_go 33 = .ok (.ifCond .eq 60, 3) := by decide +kernel
theorem dX6_go_36 : decode cX6_go 36 = .ok (.aload_n 0, 1) := by decide +kernel
theorem dX6_go_37 : decode cX6_go 37 = .ok (.iload_n 2, 1) := by decide +kernel
theorem dX6_go_38 : decode cX6_go 38 = .ok (.iload_n 1, 1) := by decide +kernel
theorem dX6_go_39 : decode cX6_go 39 = .ok (.invokevirtual 112, 3) := by decide +kernel
theorem dX6_go_42 : decode cX6_go 42 = .ok (.istore 4, 2) := by decide +kernel
theorem dX6_go_44 : decode cX6_go 44 = .ok (.aload_n 0, 1) := by decide +kernel
theorem dX6_go_45 : decode cX6_go 45 = .ok (.getfield 87, 3) := by decide +kernel
theorem dX6_go_48 : decode cX6_go 48 = .ok (.iload 4, 2) := by decide +kernel
theorem dX6_go_50 : decode cX6_go 50 = .ok (.invokestatic 90, 3) := by decide +kernel
theorem dX6_go_53 : decode cX6_go 53 = .ok (.ifCond .eq 15, 3) := by decide +kernel
theorem dX6_go_56 : decode cX6_go 56 = .ok (.aload_n 0, 1) := by decide +kernel
theorem dX6_go_57 : decode cX6_go 57 = .ok (.getfield 97, 3) := by decide +kernel
theorem dX6_go_60 : decode cX6_go 60 = .ok (.iload 4, 2) := by decide +kernel
theorem dX6_go_62 : decode cX6_go 62 = .ok (.invokestatic 90, 3) := by decide +kernel
theorem dX6_go_65 : decode cX6_go 65 = .ok (.ifCond .eq 5, 3) := by decide +kernel
theorem dX6_go_68 : decode cX6_go 68 = .ok (.iconst 0, 1) := by decide +kernel
theorem dX6_go_69 : decode cX6_go 69 = .ok (.ireturn, 1) := by decide +kernel
theorem dX6_go_70 : decode cX6_go 70 = .ok (.aload_n 0, 1) := by decide +kernel
theorem dX6_go_71 : decode cX6_go 71 = .ok (.aload_n 0, 1) := by decide +kernel
theorem dX6_go_72 : decode cX6_go 72 = .ok (.getfield 97, 3) := by decide +kernel
theorem dX6_go_75 : decode cX6_go 75 = .ok (.lconst 1, 1) := by decide +kernel
theorem dX6_go_76 : decode cX6_go 76 = .ok (.iload_n 2, 1) := by decide +kernel
theorem dX6_go_77 : decode cX6_go 77 = .ok (.lshl, 1) := by decide +kernel
theorem dX6_go_78 : decode cX6_go 78 = .ok (.ldc2_w 116, 3) := by decide +kernel
theorem dX6_go_81 : decode cX6_go 81 = .ok (.lxor, 1) := by decide +kernel
theorem dX6_go_82 : decode cX6_go 82 = .ok (.land, 1) := by decide +kernel
theorem dX6_go_83 : decode cX6_go 83 = .ok (.lconst 1, 1) := by decide +kernel
theorem dX6_go_84 : decode cX6_go 84 = .ok (.iload 4, 2) := by decide +kernel
theorem dX6_go_86 : decode cX6_go 86 = .ok (.lshl, 1) := by decide +kernel
theorem dX6_go_87 : decode cX6_go 87 = .ok (.lor, 1) := by decide +kernel
theorem dX6_go_88 : decode cX6_go 88 = .ok (.putfield 97, 3) := by decide +kernel
theorem dX6_go_91 : decode cX6_go 91 = .ok (.iconst 2, 1) := by decide +kernel
theorem dX6_go_92 : decode cX6_go 92 = .ok (.istore_n 3, 1) := by decide +kernel
theorem dX6_go_93 : decode cX6_go 93 = .ok (.aload_n 0, 1) := by decide +kernel
theorem dX6_go_94 : decode cX6_go 94 = .ok (.iload_n 2, 1) := by decide +kernel
theorem dX6_go_95 : decode cX6_go 95 = .ok (.putfield 100, 3) := by decide +kernel
theorem dX6_go_98 : decode cX6_go 98 = .ok (.aload_n 0, 1) := by decide +kernel
theorem dX6_go_99 : decode cX6_go 99 = .ok (.dup, 1) := by decide +kernel
theorem dX6_go_100 : decode cX6_go 100 = .ok (.getfield 103, 3) := by decide +kernel
theorem dX6_go_103 : decode cX6_go 103 = .ok (.iconst 1, 1) := by decide +kernel
theorem dX6_go_104 : decode cX6_go 104 = .ok (.iadd, 1) := by decide +kernel
theorem dX6_go_105 : decode cX6_go 105 = .ok (.putfield 103, 3) := by decide +kernel
theorem dX6_go_108 : decode cX6_go 108 = .ok (.aload_n 0, 1) := by decide +kernel
theorem dX6_go_109 : decode cX6_go 109 = .ok (.dup, 1) := by decide +kernel
theorem dX6_go_110 : decode cX6_go 110 = .ok (.getfield 106, 3) := by decide +kernel
theorem dX6_go_113 : decode cX6_go 113 = .ok (.iload_n 3, 1) := by decide +kernel
theorem dX6_go_114 : decode cX6_go 114 = .ok (.iconst 1, 1) := by decide +kernel
theorem dX6_go_115 : decode cX6_go 115 = .ok (.isub, 1) := by decide +kernel
theorem dX6_go_116 : decode cX6_go 116 = .ok (.iadd, 1) := by decide +kernel
theorem dX6_go_117 : decode cX6_go 117 = .ok (.putfield 106, 3) := by decide +kernel
theorem dX6_go_120 : decode cX6_go 120 = .ok (.aload_n 0, 1) := by decide +kernel
theorem dX6_go_121 : decode cX6_go 121 = .ok (.getfield 109, 3) := by decide +kernel
theorem dX6_go_124 : decode cX6_go 124 = .ok (.sipush 500, 3) := by decide +kernel
theorem dX6_go_127 : decode cX6_go 127 = .ok (.if_icmp .ne 46, 3) := by decide +kernel
theorem dX6_go_130 : decode cX6_go 130 = .ok (.iconst 1, 1) := by decide +kernel
theorem dX6_go_131 : decode cX6_go 131 = .ok (.istore 4, 2) := by decide +kernel
theorem dX6_go_133 : decode cX6_go 133 = .ok (.iload 4, 2) := by decide +kernel
theorem dX6_go_135 : decode cX6_go 135 = .ok (.sipush 500, 3) := by decide +kernel
theorem dX6_go_138 : decode cX6_go 138 = .ok (.if_icmp .ge 25, 3) := by decide +kernel
theorem dX6_go_141 : decode cX6_go 141 = .ok (.aload_n 0, 1) := by decide +kernel
theorem dX6_go_142 : decode cX6_go 142 = .ok (.getfield 13, 3) := by decide +kernel
theorem dX6_go_145 : decode cX6_go 145 = .ok (.iload 4, 2) := by decide +kernel
theorem dX6_go_147 : decode cX6_go 147 = .ok (.iconst 1, 1) := by decide +kernel
theorem dX6_go_148 : decode cX6_go 148 = .ok (.isub, 1) := by decide +kernel
theorem dX6_go_149 : decode cX6_go 149 = .ok (.aload_n 0, 1) := by decide +kernel
theorem dX6_go_150 : decode cX6_go 150 = .ok (.getfield 13, 3) := by decide +kernel
theorem dX6_go_153 : decode cX6_go 153 = .ok (.iload 4, 2) := by decide +kernel
theorem dX6_go_155 : decode cX6_go 155 = .ok (.iaload, 1) := by decide +kernel
theorem dX6_go_156 : decode cX6_go 156 = .ok (.iastore, 1) := by decide +kernel
theorem dX6_go_157 : decode cX6_go 157 = .ok (.iinc 4 1, 3) := by decide +kernel
theorem dX6_go_160 : decode cX6_go 160 = .ok (.goto (-27), 3) := by decide +kernel
theorem dX6_go_163 : decode cX6_go 163 = .ok (.aload_n 0, 1) := by decide +kernel
theorem dX6_go_164 : decode cX6_go 164 = .ok (.dup, 1) := by decide +kernel
theorem dX6_go_165 : decode cX6_go 165 = .ok (.getfield 109, 3) := by decide +kernel
theorem dX6_go_168 : decode cX6_go 168 = .ok (.iconst 1, 1) := by decide +kernel
theorem dX6_go_169 : decode cX6_go 169 = .ok (.isub, 1) := by decide +kernel
theorem dX6_go_170 : decode cX6_go 170 = .ok (.putfield 109, 3) := by decide +kernel
theorem dX6_go_173 : decode cX6_go 173 = .ok (.aload_n 0, 1) := by decide +kernel
theorem dX6_go_174 : decode cX6_go 174 = .ok (.getfield 13, 3) := by decide +kernel
theorem dX6_go_177 : decode cX6_go 177 = .ok (.aload_n 0, 1) := by decide +kernel
theorem dX6_go_178 : decode cX6_go 178 = .ok (.getfield 109, 3) := by decide +kernel
theorem dX6_go_181 : decode cX6_go 181 = .ok (.iload_n 1, 1) := by decide +kernel
theorem dX6_go_182 : decode cX6_go 182 = .ok (.iconst 4, 1) := by decide +kernel
theorem dX6_go_183 : decode cX6_go 183 = .ok (.iload_n 3, 1) := by decide +kernel
theorem dX6_go_184 : decode cX6_go 184 = .ok (.iconst 1, 1) := by decide +kernel
theorem dX6_go_185 : decode cX6_go 185 = .ok (.isub, 1) := by decide +kernel
theorem dX6_go_186 : decode cX6_go 186 = .ok (.imul, 1) := by decide +kernel
theorem dX6_go_187 : decode cX6_go 187 = .ok (.iadd, 1) := by decide +kernel
theorem dX6_go_188 : decode cX6_go 188 = .ok (.iastore, 1) := by decide +kernel
theorem dX6_go_189 : decode cX6_go 189 = .ok (.aload_n 0, 1) := by decide +kernel
theorem dX6_go_190 : decode cX6_go 190 = .ok (.dup, 1) := by decide +kernel
theorem dX6_go_191 : decode cX6_go 191 = .ok (.getfield 109, 3) := by decide +kernel
theorem dX6_go_194 : decode cX6_go 194 = .ok (.iconst 1, 1) := by decide +kernel
theorem dX6_go_195 : decode cX6_go 195 = .ok (.iadd, 1) := by decide +kernel
theorem dX6_go_196 : decode cX6_go 196 = .ok (.putfield 109, 3) := by decide +kernel
theorem dX6_go_199 : decode cX6_go 199 = .ok (.iload_n 3, 1) := by decide +kernel
theorem dX6_go_200 : decode cX6_go 200 = .ok (.ireturn, 1) := by decide +kernel
theorem dX6_move_0 : decode cX6_move 0 = .ok (.aload_n 0, 1) := by decide +kernel
theorem dX6_move_1 : decode cX6_move 1 = .ok (.iconst 2, 1) := by decide +kernel
theorem dX6_move_2 : decode cX6_move 2 = .ok (.aload_n 0, 1) := by decide +kernel
theorem dX6_move_3 : decode cX6_move 3 = .ok (.getfield 83, 3) := by decide +kernel
theorem dX6_move_6 : decode cX6_move 6 = .ok (.ifCond .ne 7, 3) := by decide +kernel
theorem dX6_move_9 : decode cX6_move 9 = .ok (.iconst 1, 1) := by decide +kernel
theorem dX6_move_10 : decode cX6_move 10 = .ok (.goto 4, 3) := by decide +kernel
theorem dX6_move_13 : decode cX6_move 13 = .ok (.iconst 0, 1) := by decide +kernel
theorem dX6_move_14 : decode cX6_move 14 = .ok (.invokevirtual 118, 3) := by decide +kernel
theorem dX6_move_17 : decode cX6_move 17 = .ok (.ifCond .ne 25, 3) := by decide +kernel
theorem dX6_move_20 : decode cX6_move 20 = .ok (.aload_n 0, 1) := by decide +kernel
theorem dX6_move_21 : decode cX6_move 21 = .ok (.iconst 1, 1) := by decide +kernel
theorem dX6_move_22 : decode cX6_move 22 = .ok (.iload_n 1, 1) := by decide +kernel
theorem dX6_move_23 : decode cX6_move 23 = .ok (.ifCond .lt 8, 3) := by decide +kernel
theorem dX6_move_26 : decode cX6_move 26 = .ok (.iload_n 1, 1) := by decide +kernel
theorem dX6_move_27 : decode cX6_move 27 = .ok (.iconst 3, 1) := by decide +kernel
theorem dX6_move_28 : decode cX6_move 28 = .ok (.if_icmp .le 7, 3) := by decide +kernel
theorem dX6_move_31 : decode cX6_move 31 = .ok (.iconst 1, 1) := by decide +kernel
theorem dX6_move_32 : decode cX6_move 32 = .ok (.goto 4, 3) := by decide +kernel
theorem dX6_move_35 : decode cX6_move 35 = .ok (.iconst 0, 1) := by decide +kernel
theorem dX6_move_36 : decode cX6_move 36 = .ok (.invokevirtual 118, 3) := by decide +kernel
theorem dX6_move_39 : decode cX6_move 39 = .ok (.ifCond .eq 5, 3) := by decide +kernel
theorem dX6_move_42 : decode cX6_move 42 = .ok (.iconst 0, 1) := by decide +kernel
theorem dX6_move_43 : decode cX6_move 43 = .ok (.ireturn, 1) := by decide +kernel
theorem dX6_move_44 : decode cX6_move 44 = .ok (.aload_n 0, 1) := by decide +kernel
theorem dX6_move_45 : decode cX6_move 45 = .ok (.iload_n 1, 1) := by decide +kernel
theorem dX6_move_46 : decode cX6_move 46 = .ok (.invokevirtual 122, 3) := by decide +kernel
theorem dX6_move_49 : decode cX6_move 49 = .ok (.ireturn, 1) := by decide +kernel
theorem dX6_undo_0 : decode cX6_undo 0 = .ok (.aload_n 0, 1) := by decide +kernel
theorem dX6_undo_1 : decode cX6_undo 1 = .ok (.iconst 0, 1) := by decide +kernel
theorem dX6_undo_2 : decode cX6_undo 2 = .ok (.putfield 42, 3) := by decide +kernel
theorem dX6_undo_5 : decode cX6_undo 5 = .ok (.aload_n 0, 1) := by decide +kernel
theorem dX6_undo_6 : decode cX6_undo 6 = .ok (.getfield 109, 3) := by decide +kernel
theorem dX6_undo_9 : decode cX6_undo 9 = .ok (.ifCond .ne 5, 3) := by decide +kernel
theorem dX6_undo_12 : decode cX6_undo 12 = .ok (.iconst 0, 1) := by decide +kernel
theorem dX6_undo_13 : decode cX6_undo 13 = .ok (.ireturn, 1) := by decide +kernel
theorem dX6_undo_14 : decode cX6_undo 14 = .ok (.aload_n 0, 1) := by decide +kernel
theorem dX6_undo_15 : decode cX6_undo 15 = .ok (.dup, 1) := by decide +kernel
theorem dX6_undo_16 : decode cX6_undo 16 = .ok (.getfield 109, 3) := by decide +kernel
theorem dX6_undo_19 : decode cX6_undo 19 = .ok (.iconst 1, 1) := by decide +kernel
theorem dX6_undo_20 : decode cX6_undo 20 = .ok (.isub, 1) := by decide +kernel
theorem dX6_undo_21 : decode cX6_undo 21 = .ok (.putfield 109, 3) := by decide +kernel
theorem dX6_undo_24 : decode cX6_undo 24 = .ok (.aload_n 0, 1) := by decide +kernel
theorem dX6_undo_25 : decode cX6_undo 25 = .ok (.getfield 13, 3) := by decide +kernel
theorem dX6_undo_28 : decode cX6_undo 28 = .ok (.aload_n 0, 1) := by decide +kernel
theorem dX6_undo_29 : decode cX6_undo 29 = .ok (.getfield 109, 3) := by decide +kernel
theorem dX6_undo_32 : decode cX6_undo 32 = .ok (.iaload, 1) := by decide +kernel
theorem dX6_undo_33 : decode cX6_undo 33 = .ok (.iconst 4, 1) := by decide +kernel
theorem dX6_undo_34 : decode cX6_undo 34 = .ok (.irem, 1) := by decide +kernel
theorem dX6_undo_35 : decode cX6_undo 35 = .ok (.istore_n 1, 1) := by decide +kernel
theorem dX6_undo_36 : decode cX6_undo 36 = .ok (.aload_n 0, 1) := by decide +kernel
theorem dX6_undo_37 : decode cX6_undo 37 = .ok (.getfield 13, 3) := by decide +kernel
theorem dX6_undo_40 : decode cX6_undo 40 = .ok (.aload_n 0, 1) := by decide +kernel
theorem dX6_undo_41 : decode cX6_undo 41 = .ok (.getfield 109, 3) := by decide +kernel
theorem dX6_undo_44 : decode cX6_undo 44 = .ok (.iaload, 1) := by decide +kernel
theorem dX6_undo_45 : decode cX6_undo 45 = .ok (.iconst 3, 1) := by decide +kernel
theorem dX6_undo_46 : decode cX6_undo 46 = .ok (.if_icmp .le 7, 3) := by decide +kernel
theorem dX6_undo_49 : decode cX6_undo 49 = .ok (.iconst 1, 1) := by decide +kernel
theorem dX6_undo_50 : decode cX6_undo 50 = .ok (.goto 4, 3) := by decide +kernel
theorem dX6_undo_53 : decode cX6_undo 53 = .ok (.iconst 0, 1) := by decide +kernel
theorem dX6_undo_54 : decode cX6_undo 54 = .ok (.istore_n 2, 1) := by decide +kernel
theorem dX6_undo_55 : decode cX6_undo 55 = .ok (.iload_n 2, 1) := by decide +kernel
theorem dX6_undo_56 : decode cX6_undo 56 = .ok (.ifCond .eq 36, 3) := by decide +kernel
theorem dX6_undo_59 : decode cX6_undo 59 = .ok (.aload_n 0, 1) := by decide +kernel
theorem dX6_undo_60 : decode cX6_undo 60 = .ok (.aload_n 0, 1) := by decide +kernel
theorem dX6_undo_61 : decode cX6_undo 61 = .ok (.getfield 100, 3) := by decide +kernel
theorem dX6_undo_64 : decode cX6_undo 64 = .ok (.iload_n 1, 1) := by decide +kernel
theorem dX6_undo_65 : decode cX6_undo 65 = .ok (.invokevirtual 112, 3) := by decide +kernel
theorem dX6_undo_68 : decode cX6_undo 68 = .ok (.istore_n 3, 1) := by decide +kernel
theorem dX6_undo_69 : decode cX6_undo 69 = .ok (.aload_n 0, 1) := by decide +kernel
theorem dX6_undo_70 : decode cX6_undo 70 = .ok (.aload_n 0, 1) := by decide +kernel
theorem dX6_undo_71 : decode cX6_undo 71 = .ok (.getfield 97, 3) := by decide +kernel
theorem dX6_undo_74 : decode cX6_undo 74 = .ok (.lconst 1, 1) := by decide +kernel
theorem dX6_undo_75 : decode cX6_undo 75 = .ok (.iload_n 3, 1) := by decide +kernel
theorem dX6_undo_76 : decode cX6_undo 76 = .ok (.lshl, 1) := by decide +kernel
theorem dX6_undo_77 : decode cX6_undo 77 = .ok (.ldc2_w 116, 3) := by decide +kernel
theorem dX6_undo_80 : decode cX6_undo 80 = .ok (.lxor, 1) := by decide +kernel
theorem dX6_undo_81 : decode cX6_undo 81 = .ok (.land, 1) := by decide +kernel
theorem dX6_undo_82 : decode cX6_undo 82 = .ok (.lconst 1, 1) := by decide +kernel
theorem dX6_undo_83 : decode cX6_undo 83 = .ok (.aload_n 0, 1) := by decide +kernel
theorem dX6_undo_84 : decode cX6_undo 84 = .ok (.getfield 100, 3) := by decide +kernel
theorem dX6_undo_87 : decode cX6_undo 87 = .ok (.lshl, 1) := by decide +kernel
theorem dX6_undo_88 : decode cX6_undo 88 = .ok (.lor, 1) := by decide +kernel
theorem dX6_undo_89 : decode cX6_undo 89 = .ok (.putfield 97, 3) := by decide +kernel
theorem dX6_undo_92 : decode cX6_undo 92 = .ok (.aload_n 0, 1) := by decide +kernel
theorem dX6_undo_93 : decode cX6_undo 93 = .ok (.aload_n 0, 1) := by decide +kernel
theorem dX6_undo_94 : decode cX6_undo 94 = .ok (.aload_n 0, 1) := by decide +kernel
theorem dX6_undo_95 : decode cX6_undo 95 = .ok (.getfield 100, 3) := by decide +kernel
theorem dX6_undo_98 : decode cX6_undo 98 = .ok (.aload_n 0, 1) := by decide +kernel
theorem dX6_undo_99 : decode cX6_undo 99 = .ok (.iload_n 1, 1) := by decide +kernel
theorem dX6_undo_100 : decode cX6_undo 100 = .ok (.invokevirtual 126, 3) := by decide +kernel
theorem dX6_undo_103 : decode cX6_undo 103 = .ok (.invokevirtual 112, 3) := by decide +kernel
theorem dX6_undo_106 : decode cX6_undo 106 = .ok (.putfield 100, 3) := by decide +kernel
theorem dX6_undo_109 : decode cX6_undo 109 = .ok (.aload_n 0, 1) := by decide +kernel
theorem dX6_undo_110 : decode cX6_undo 110 = .ok (.dup, 1) := by decide +kernel
theorem dX6_undo_111 : decode cX6_undo 111 = .ok (.getfield 103, 3) := by decide +kernel
theorem dX6_undo_114 : decode cX6_undo 114 = .ok (.iconst 1, 1) := by decide +kernel
theorem dX6_undo_115 : decode cX6_undo 115 = .ok (.isub, 1) := by decide +kernel
theorem dX6_undo_116 : decode cX6_undo 116 = .ok (.putfield 103, 3) := by decide +kernel
theorem dX6_undo_119 : decode cX6_undo 119 = .ok (.aload_n 0, 1) := by decide +kernel
theorem dX6_undo_120 : decode cX6_undo 120 = .ok (.dup, 1) := by decide +kernel
theorem dX6_undo_121 : decode cX6_undo 121 = .ok (.getfield 106, 3) := by decide +kernel
theorem dX6_undo_124 : decode cX6_undo 124 = .ok (.iload_n 2, 1) := by decide +kernel
theorem dX6_undo_125 : decode cX6_undo 125 = .ok (.ifCond .eq 7, 3) := by decide +kernel
theorem dX6_undo_128 : decode cX6_undo 128 = .ok (.iconst 1, 1) := by decide +kernel
theorem dX6_undo_129 : decode cX6_undo 129 = .ok (.goto 4, 3) := by decide +kernel
theorem dX6_undo_132 : decode cX6_undo 132 = .ok (.iconst 0, 1) := by decide +kernel
theorem dX6_undo_133 : decode cX6_undo 133 = .ok (.isub, 1) := by decide +kernel
theorem dX6_undo_134 : decode cX6_undo 134 = .ok (.putfield 106, 3) := by decide +kernel
theorem dX6_undo_137 : decode cX6_undo 137 = .ok (.iload_n 2, 1) := by decide +kernel
theorem dX6_undo_138 : decode cX6_undo 138 = .ok (.ifCond .eq 7, 3) := by decide +kernel
theorem dX6_undo_141 : decode cX6_undo 141 = .ok (.iconst 2, 1) := by decide +kernel
theorem dX6_undo_142 : decode cX6_undo 142 = .ok (.goto 4, 3) := by decide +kernel
theorem dX6_undo_145 : decode cX6_undo 145 = .ok (.iconst 1, 1) := by decide +kernel
theorem dX6_undo_146 : decode cX6_undo 146 = .ok (.ireturn, 1) := by decide +kernel
theorem dX6_wayOf_0 : decode cX6_wayOf 0 = .ok (.iload_n 0, 1) := by decide +kernel
theorem dX6_wayOf_1 : decode cX6_wayOf 1 = .ok (.lookupswitch 83 #[(68, 77), (76, 79), (82, 75), (85, 81), (100, 77), (108, 79), (114, 75), (117, 81)], 75) := by decide +kernel
theorem dX6_wayOf_76 : decode cX6_wayOf 76 = .ok (.iconst 0, 1) := by decide +kernel
theorem dX6_wayOf_77 : decode cX6_wayOf 77 = .ok (.ireturn, 1) := by decide +kernel
theorem dX6_wayOf_78 : decode cX6_wayOf 78 = .ok (.iconst 1, 1) := by decide +kernel
theorem dX6_wayOf_79 : decode cX6_wayOf 79 = .ok (.ireturn, 1) := by decide +kernel
theorem dX6_wayOf_80 : decode cX6_wayOf 80 = .ok (.iconst 2, 1) := by decide +kernel
theorem dX6_wayOf_81 : decode cX6_wayOf 81 = .ok (.ireturn, 1) := by decide +kernel
theorem dX6_wayOf_82 : decode cX6_wayOf 82 = .ok (.iconst 3, 1) := by decide +kernel
theorem dX6_wayOf_83 : decode cX6_wayOf 83 = .ok (.ireturn, 1) := by decide +kernel
theorem dX6_wayOf_84 : decode cX6_wayOf 84 = .ok (.iconst (-1), 1) := by decide +kernel
theorem dX6_wayOf_85 : decode cX6_wayOf 85 = .ok (.ireturn, 1) := by decide +kernel
theorem dX6_row_0 : decode cX6_row 0 = .ok (.aload_n 0, 1) := by decide +kernel
theorem dX6_row_1 : decode cX6_row 1 = .ok (.iconst 0, 1) := by decide +kernel
theorem dX6_row_2 : decode cX6_row 2 = .ok (.putfield 42, 3) := by decide +kernel
theorem dX6_row_5 : decode cX6_row 5 = .ok (.aload_n 0, 1) := by decide +kernel
theorem dX6_row_6 : decode cX6_row 6 = .ok (.getfield 56, 3) := by decide +kernel
theorem dX6_row_9 : decode cX6_row 9 = .ok (.istore_n 1, 1) := by decide +kernel
theorem dX6_row_10 : decode cX6_row 10 = .ok (.aload_n 0, 1) := by decide +kernel
theorem dX6_row_11 : decode cX6_row 11 = .ok (.iconst 0, 1) := by decide +kernel
theorem dX6_row_12 : decode cX6_row 12 = .ok (.putfield 56, 3) := by decide +kernel
theorem dX6_row_15 : decode cX6_row 15 = .ok (.iconst 0, 1) := by decide +kernel
theorem dX6_row_16 : decode cX6_row 16 = .ok (.istore_n 2, 1) := by decide +kernel
theorem dX6_row_17 : decode cX6_row 17 = .ok (.iconst 0, 1) := by decide +kernel
theorem dX6_row_18 : decode cX6_row 18 = .ok (.istore_n 3, 1) := by decide +kernel
theorem dX6_row_19 : decode cX6_row 19 = .ok (.iconst 0, 1) := by decide +kernel
theorem dX6_row_20 : decode cX6_row 20 = .ok (.istore 4, 2) := by decide +kernel
theorem dX6_row_22 : decode cX6_row 22 = .ok (.iload 4, 2) := by decide +kernel
theorem dX6_row_24 : decode cX6_row 24 = .ok (.iload_n 1, 1) := by decide +kernel
theorem dX6_row_25 : decode cX6_row 25 = .ok (.if_icmp .ge 108, 3) := by decide +kernel
theorem dX6_row_28 : decode cX6_row 28 = .ok (.aload_n 0, 1) := by decide +kernel
theorem dX6_row_29 : decode cX6_row 29 = .ok (.getfield 7, 3) := by decide +kernel
theorem dX6_row_32 : decode cX6_row 32 = .ok (.iload 4, 2) := by decide +kernel
theorem dX6_row_34 : decode cX6_row 34 = .ok (.iaload, 1) := by decide +kernel
theorem dX6_row_35 : decode cX6_row 35 = .ok (.istore 5, 2) := by decide +kernel
theorem dX6_row_37 : decode cX6_row 37 = .ok (.iload_n 2, 1) := by decide +kernel
theorem dX6_row_38 : decode cX6_row 38 = .ok (.ifCond .ne 26, 3) := by decide +kernel
theorem dX6_row_41 : decode cX6_row 41 = .ok (.iload 5, 2) := by decide +kernel
theorem dX6_row_43 : decode cX6_row 43 = .ok (.bipush 50, 2) := by decide +kernel
theorem dX6_row_45 : decode cX6_row 45 = .ok (.if_icmp .lt 19, 3) := by decide +kernel
theorem dX6_row_48 : decode cX6_row 48 = .ok (.iload 5, 2) := by decide +kernel
theorem dX6_row_50 : decode cX6_row 50 = .ok (.bipush 57, 2) := by decide +kernel
theorem dX6_row_52 : decode cX6_row 52 = .ok (.if_icmp .gt 12, 3) := by decide +kernel
theorem dX6_row_55 : decode cX6_row 55 = .ok (.iload 5, 2) := by decide +kernel
theorem dX6_row_57 : decode cX6_row 57 = .ok (.bipush 48, 2) := by decide +kernel
theorem dX6_row_59 : decode cX6_row 59 = .ok (.isub, 1) := by decide +kernel
theorem dX6_row_60 : decode cX6_row 60 = .ok (.istore_n 2, 1) := by decide +kernel
theorem dX6_row_61 : decode cX6_row 61 = .ok (.goto 66, 3) := by decide +kernel
theorem dX6_row_64 : decode cX6_row 64 = .ok (.iload 5, 2) := by decide +kernel
theorem dX6_row_66 : decode cX6_row 66 = .ok (.invokestatic 129, 3) := by decide +kernel
theorem dX6_row_69 : decode cX6_row 69 = .ok (.istore 6, 2) := by decide +kernel
theorem dX6_row_71 : decode cX6_row 71 = .ok (.iload 6, 2) := by decide +kernel
theorem dX6_row_73 : decode cX6_row 73 = .ok (.ifCond .ge 8, 3) := by decide +kernel
theorem dX6_row_76 : decode cX6_row 76 = .ok (.iconst (-1), 1) := by decide +kernel
theorem dX6_row_77 : decode cX6_row 77 = .ok (.iload 4, 2) := by decide +kernel
theorem dX6_row_79 : decode cX6_row 79 = .ok (.isub, 1) := by decide +kernel
theorem dX6_row_80 : decode cX6_row 80 = .ok (.ireturn, 1) := by decide +kernel
theorem dX6_row_81 : decode cX6_row 81 = .ok (.iconst 0, 1) := by decide +kernel
theorem dX6_row_82 : decode cX6_row 82 = .ok (.istore 7, 2) := by decide +kernel
theorem dX6_row_84 : decode cX6_row 84 = .ok (.iload 7, 2) := by decide +kernel
theorem dX6_row_86 : decode cX6_row 86 = .ok (.iload_n 2, 1) := by decide +kernel
theorem dX6_row_87 : decode cX6_row 87 = .ok (.if_icmp .lt 8, 3) := by decide +kernel
theorem dX6_row_90 : decode cX6_row 90 = .ok (.iload 7, 2) := by decide +kernel
theorem dX6_row_92 : decode cX6_row 92 = .ok (.ifCond .ne 33, 3) := by decide +kernel
theorem dX6_row_95 : decode cX6_row 95 = .ok (.aload_n 0, 1) := by decide +kernel
theorem dX6_row_96 : decode cX6_row 96 = .ok (.getfield 83, 3) := by decide +kernel
theorem dX6_row_99 : decode cX6_row 99 = .ok (.ifCond .eq 12, 3) := by decide +kernel
theorem dX6_row_102 : decode cX6_row 102 = .ok (.aload_n 0, 1) := by decide +kernel
theorem dX6_row_103 : decode cX6_row 103 = .ok (.iload 6, 2) := by decide +kernel
theorem dX6_row_105 : decode cX6_row 105 = .ok (.invokevirtual 122, 3) := by decide +kernel
theorem dX6_row_108 : decode cX6_row 108 = .ok (.ifCond .ne 8, 3) := by decide +kernel
theorem dX6_row_111 : decode cX6_row 111 = .ok (.iconst (-1), 1) := by decide +kernel
theorem dX6_row_112 : decode cX6_row 112 = .ok (.iload 4, 2) := by decide +kernel
theorem dX6_row_114 : decode cX6_row 114 = .ok (.isub, 1) := by decide +kernel
theorem dX6_row_115 : decode cX6_row 115 = .ok (.ireturn, 1) := by decide +kernel
theorem dX6_row_116 : decode cX6_row 116 = .ok (.iinc 3 1, 3) := by decide +kernel
theorem dX6_row_119 : decode cX6_row 119 = .ok (.iinc 7 1, 3) := by decide +kernel
theorem dX6_row_122 : decode cX6_row 122 = .ok (.goto (-38), 3) := by decide +kernel
theorem dX6_row_125 : decode cX6_row 125 = .ok (.iconst 0, 1) := by decide +kernel
theorem dX6_row_126 : decode cX6_row 126 = .ok (.istore_n 2, 1) := by decide +kernel
theorem dX6_row_127 : decode cX6_row 127 = .ok (.iinc 4 1, 3) := by decide +kernel
theorem dX6_row_130 : decode cX6_row 130 = .ok (.goto (-108), 3) := by decide +kernel
theorem dX6_row_133 : decode cX6_row 133 = .ok (.iload_n 2, 1) := by decide +kernel
theorem dX6_row_134 : decode cX6_row 134 = .ok (.ifCond .le 9, 3) := by decide +kernel
theorem dX6_row_137 : decode cX6_row 137 = .ok (.iconst (-1), 1) := by decide +kernel
theorem dX6_row_138 : decode cX6_row 138 = .ok (.iload_n 1, 1) := by decide +kernel
theorem dX6_row_139 : decode cX6_row 139 = .ok (.isub, 1) := by decide +kernel
theorem dX6_row_140 : decode cX6_row 140 = .ok (.goto 4, 3) := by decide +kernel
theorem dX6_row_143 : decode cX6_row 143 = .ok (.iload_n 3, 1) := by decide +kernel
theorem dX6_row_144 : decode cX6_row 144 = .ok (.ireturn, 1) := by decide +kernel
theorem dX6_isDone_0 : decode cX6_isDone 0 = .ok (.aload_n 0, 1) := by decide +kernel
theorem dX6_isDone_1 : decode cX6_isDone 1 = .ok (.getfield 94, 3) := by decide +kernel
theorem dX6_isDone_4 : decode cX6_isDone 4 = .ok (.lload_n 1, 1) := by decide +kernel
theorem dX6_isDone_5 : decode cX6_isDone 5 = .ok (.ldc2_w 116, 3) := by decide +kernel
theorem dX6_isDone_8 : decode cX6_isDone 8 = .ok (.lxor, 1) := by decide +kernel
theorem dX6_isDone_9 : decode cX6_isDone 9 = .ok (.land, 1) := by decide +kernel
theorem dX6_isDone_10 : decode cX6_isDone 10 = .ok (.lconst 0, 1) := by decide +kernel
theorem dX6_isDone_11 : decode cX6_isDone 11 = .ok (.lcmp, 1) := by decide +kernel
theorem dX6_isDone_12 : decode cX6_isDone 12 = .ok (.ifCond .ne 7, 3) := by decide +kernel
theorem dX6_isDone_15 : decode cX6_isDone 15 = .ok (.iconst 1, 1) := by decide +kernel
theorem dX6_isDone_16 : decode cX6_isDone 16 = .ok (.goto 4, 3) := by decide +kernel
theorem dX6_isDone_19 : decode cX6_isDone 19 = .ok (.iconst 0, 1) := by decide +kernel
theorem dX6_isDone_20 : decode cX6_isDone 20 = .ok (.ireturn, 1) := by decide +kernel
theorem dX6_told_0 : decode cX6_told 0 = .ok (.aload_n 0, 1) := by decide +kernel
theorem dX6_told_1 : decode cX6_told 1 = .ok (.iconst 0, 1) := by decide +kernel
theorem dX6_told_2 : decode cX6_told 2 = .ok (.putfield 42, 3) := by decide +kernel
theorem dX6_told_5 : decode cX6_told 5 = .ok (.iload_n 1, 1) := by decide +kernel
