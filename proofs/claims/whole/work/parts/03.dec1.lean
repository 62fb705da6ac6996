theorem dX5_init_0 : decode cX5_init 0 = .ok (.aload_n 0, 1) := by decide +kernel
theorem dX5_init_1 : decode cX5_init 1 = .ok (.invokespecial 1, 3) := by decide +kernel
theorem dX5_init_4 : decode cX5_init 4 = .ok (.aload_n 0, 1) := by decide +kernel
theorem dX5_init_5 : decode cX5_init 5 = .ok (.sipush 160, 3) := by decide +kernel
theorem dX5_init_8 : decode cX5_init 8 = .ok (.newarray .int, 2) := by decide +kernel
theorem dX5_init_10 : decode cX5_init 10 = .ok (.putfield 9, 3) := by decide +kernel
theorem dX5_init_13 : decode cX5_init 13 = .ok (.aload_n 0, 1) := by decide +kernel
theorem dX5_init_14 : decode cX5_init 14 = .ok (.new 13, 3) := by decide +kernel
theorem dX5_init_17 : decode cX5_init 17 = .ok (.dup, 1) := by decide +kernel
theorem dX5_init_18 : decode cX5_init 18 = .ok (.invokespecial 15, 3) := by decide +kernel
theorem dX5_init_21 : decode cX5_init 21 = .ok (.putfield 16, 3) := by decide +kernel
theorem dX5_init_24 : decode cX5_init 24 = .ok (.aload_n 0, 1) := by decide +kernel
theorem dX5_init_25 : decode cX5_init 25 = .ok (.new 20, 3) := by decide +kernel
theorem dX5_init_28 : decode cX5_init 28 = .ok (.dup, 1) := by decide +kernel
theorem dX5_init_29 : decode cX5_init 29 = .ok (.invokespecial 22, 3) := by decide +kernel
theorem dX5_init_32 : decode cX5_init 32 = .ok (.putfield 23, 3) := by decide +kernel
theorem dX5_init_35 : decode cX5_init 35 = .ok (.aload_n 0, 1) := by decide +kernel
theorem dX5_init_36 : decode cX5_init 36 = .ok (.new 27, 3) := by decide +kernel
theorem dX5_init_39 : decode cX5_init 39 = .ok (.dup, 1) := by decide +kernel
theorem dX5_init_40 : decode cX5_init 40 = .ok (.invokespecial 29, 3) := by decide +kernel
theorem dX5_init_43 : decode cX5_init 43 = .ok (.putfield 30, 3) := by decide +kernel
theorem dX5_init_46 : decode cX5_init 46 = .ok (.aload_n 0, 1) := by decide +kernel
theorem dX5_init_47 : decode cX5_init 47 = .ok (.new 34, 3) := by decide +kernel
theorem dX5_init_50 : decode cX5_init 50 = .ok (.dup, 1) := by decide +kernel
theorem dX5_init_51 : decode cX5_init 51 = .ok (.invokespecial 36, 3) := by decide +kernel
theorem dX5_init_54 : decode cX5_init 54 = .ok (.putfield 37, 3) := by decide +kernel
theorem dX5_init_57 : decode cX5_init 57 = .ok (.aload_n 0, 1) := by decide +kernel
theorem dX5_init_58 : decode cX5_init 58 = .ok (.new 41, 3) := by decide +kernel
theorem dX5_init_61 : decode cX5_init 61 = .ok (.dup, 1) := by decide +kernel
theorem dX5_init_62 : decode cX5_init 62 = .ok (.invokespecial 43, 3) := by decide +kernel
theorem dX5_init_65 : decode cX5_init 65 = .ok (.putfield 44, 3) := by decide +kernel
theorem dX5_init_68 : decode cX5_init 68 = .ok (.return_, 1) := by decide +kernel
theorem dX5_unit_0 : decode cX5_unit 0 = .ok (.iload_n 1, 1) := by decide +kernel
theorem dX5_unit_1 : decode cX5_unit 1 = .ok (.ifCond .lt 20, 3) := by decide +kernel
theorem dX5_unit_4 : decode cX5_unit 4 = .ok (.iload_n 1, 1) := by decide +kernel
theorem dX5_unit_5 : decode cX5_unit 5 = .ok (.sipush 255, 3) := by decide +kernel
theorem dX5_unit_8 : decode cX5_unit 8 = .ok (.if_icmp .gt 13, 3) := by decide +kernel
theorem dX5_unit_11 : decode cX5_unit 11 = .ok (.aload_n 0, 1) := by decide +kernel
theorem dX5_unit_12 : decode cX5_unit 12 = .ok (.getfield 48, 3) := by decide +kernel
theorem dX5_unit_15 : decode cX5_unit 15 = .ok (.sipush 160, 3) := by decide +kernel
theorem dX5_unit_18 : decode cX5_unit 18 = .ok (.if_icmp .lt 5, 3) := by decide +kernel
theorem dX5_unit_21 : decode cX5_unit 21 = .ok (.iconst 0, 1) := by decide +kernel
theorem dX5_unit_22 : decode cX5_unit 22 = .ok (.ireturn, 1) := by decide +kernel
theorem dX5_unit_23 : decode cX5_unit 23 = .ok (.aload_n 0, 1) := by decide +kernel
theorem dX5_unit_24 : decode cX5_unit 24 = .ok (.getfield 9, 3) := by decide +kernel
theorem dX5_unit_27 : decode cX5_unit 27 = .ok (.aload_n 0, 1) := by decide +kernel
theorem dX5_unit_28 : decode cX5_unit 28 = .ok (.getfield 48, 3) := by decide +kernel
theorem dX5_unit_31 : decode cX5_unit 31 = .ok (.iload_n 1, 1) := by decide +kernel
theorem dX5_unit_32 : decode cX5_unit 32 = .ok (.iastore, 1) := by decide +kernel
theorem dX5_unit_33 : decode cX5_unit 33 = .ok (.aload_n 0, 1) := by decide +kernel
theorem dX5_unit_34 : decode cX5_unit 34 = .ok (.dup, 1) := by decide +kernel
theorem dX5_unit_35 : decode cX5_unit 35 = .ok (.getfield 48, 3) := by decide +kernel
theorem dX5_unit_38 : decode cX5_unit 38 = .ok (.iconst 1, 1) := by decide +kernel
theorem dX5_unit_39 : decode cX5_unit 39 = .ok (.iadd, 1) := by decide +kernel
theorem dX5_unit_40 : decode cX5_unit 40 = .ok (.putfield 48, 3) := by decide +kernel
theorem dX5_unit_43 : decode cX5_unit 43 = .ok (.iconst 1, 1) := by decide +kernel
theorem dX5_unit_44 : decode cX5_unit 44 = .ok (.ireturn, 1) := by decide +kernel
theorem dX5_read_0 : decode cX5_read 0 = .ok (.aload_n 0, 1) := by decide +kernel
theorem dX5_read_1 : decode cX5_read 1 = .ok (.invokevirtual 52, 3) := by decide +kernel
theorem dX5_read_4 : decode cX5_read 4 = .ok (.istore_n 1, 1) := by decide +kernel
theorem dX5_read_5 : decode cX5_read 5 = .ok (.aload_n 0, 1) := by decide +kernel
theorem dX5_read_6 : decode cX5_read 6 = .ok (.getfield 16, 3) := by decide +kernel
theorem dX5_read_9 : decode cX5_read 9 = .ok (.invokevirtual 56, 3) := by decide +kernel
theorem dX5_read_12 : decode cX5_read 12 = .ok (.iconst 0, 1) := by decide +kernel
theorem dX5_read_13 : decode cX5_read 13 = .ok (.istore_n 2, 1) := by decide +kernel
theorem dX5_read_14 : decode cX5_read 14 = .ok (.iload_n 2, 1) := by decide +kernel
theorem dX5_read_15 : decode cX5_read 15 = .ok (.iload_n 1, 1) := by decide +kernel
theorem dX5_read_16 : decode cX5_read 16 = .ok (.if_icmp .ge 29, 3) := by decide +kernel
theorem dX5_read_19 : decode cX5_read 19 = .ok (.aload_n 0, 1) := by decide +kernel
theorem dX5_read_20 : decode cX5_read 20 = .ok (.getfield 16, 3) := by decide +kernel
theorem dX5_read_23 : decode cX5_read 23 = .ok (.aload_n 0, 1) := by decide +kernel
theorem dX5_read_24 : decode cX5_read 24 = .ok (.getfield 9, 3) := by decide +kernel
theorem dX5_read_27 : decode cX5_read 27 = .ok (.iload_n 2, 1) := by decide +kernel
theorem dX5_read_28 : decode cX5_read 28 = .ok (.iaload, 1) := by decide +kernel
theorem dX5_read_29 : decode cX5_read 29 = .ok (.invokevirtual 59, 3) := by decide +kernel
theorem dX5_read_32 : decode cX5_read 32 = .ok (.ifCond .ne 7, 3) := by decide +kernel
theorem dX5_read_35 : decode cX5_read 35 = .ok (.iconst (-1), 1) := by decide +kernel
theorem dX5_read_36 : decode cX5_read 36 = .ok (.iload_n 2, 1) := by decide +kernel
theorem dX5_read_37 : decode cX5_read 37 = .ok (.isub, 1) := by decide +kernel
theorem dX5_read_38 : decode cX5_read 38 = .ok (.ireturn, 1) := by decide +kernel
theorem dX5_read_39 : decode cX5_read 39 = .ok (.iinc 2 1, 3) := by decide +kernel
theorem dX5_read_42 : decode cX5_read 42 = .ok (.goto (-28), 3) := by decide +kernel
theorem dX5_read_45 : decode cX5_read 45 = .ok (.aload_n 0, 1) := by decide +kernel
theorem dX5_read_46 : decode cX5_read 46 = .ok (.getfield 16, 3) := by decide +kernel
theorem dX5_read_49 : decode cX5_read 49 = .ok (.invokevirtual 63, 3) := by decide +kernel
theorem dX5_read_52 : decode cX5_read 52 = .ok (.ifCond .ne 7, 3) := by decide +kernel
theorem dX5_read_55 : decode cX5_read 55 = .ok (.sipush (-200), 3) := by decide +kernel
theorem dX5_read_58 : decode cX5_read 58 = .ok (.ireturn, 1) := by decide +kernel
theorem dX5_read_59 : decode cX5_read 59 = .ok (.aload_n 0, 1) := by decide +kernel
theorem dX5_read_60 : decode cX5_read 60 = .ok (.getfield 23, 3) := by decide +kernel
theorem dX5_read_63 : decode cX5_read 63 = .ok (.aload_n 0, 1) := by decide +kernel
theorem dX5_read_64 : decode cX5_read 64 = .ok (.getfield 16, 3) := by decide +kernel
theorem dX5_read_67 : decode cX5_read 67 = .ok (.invokevirtual 67, 3) := by decide +kernel
theorem dX5_read_70 : decode cX5_read 70 = .ok (.aload_n 0, 1) := by decide +kernel
theorem dX5_read_71 : decode cX5_read 71 = .ok (.getfield 30, 3) := by decide +kernel
theorem dX5_read_74 : decode cX5_read 74 = .ok (.invokevirtual 71, 3) := by decide +kernel
theorem dX5_read_77 : decode cX5_read 77 = .ok (.aload_n 0, 1) := by decide +kernel
theorem dX5_read_78 : decode cX5_read 78 = .ok (.getfield 23, 3) := by decide +kernel
theorem dX5_read_81 : decode cX5_read 81 = .ok (.getfield 72, 3) := by decide +kernel
theorem dX5_read_84 : decode cX5_read 84 = .ok (.invokestatic 76, 3) := by decide +kernel
theorem dX5_read_87 : decode cX5_read 87 = .ok (.ireturn, 1) := by decide +kernel
theorem dX5_row_0 : decode cX5_row 0 = .ok (.aload_n 0, 1) := by decide +kernel
theorem dX5_row_1 : decode cX5_row 1 = .ok (.invokevirtual 52, 3) := by decide +kernel
theorem dX5_row_4 : decode cX5_row 4 = .ok (.istore_n 1, 1) := by decide +kernel
theorem dX5_row_5 : decode cX5_row 5 = .ok (.iconst 0, 1) := by decide +kernel
theorem dX5_row_6 : decode cX5_row 6 = .ok (.istore_n 2, 1) := by decide +kernel
theorem dX5_row_7 : decode cX5_row 7 = .ok (.iconst 0, 1) := by decide +kernel
theorem dX5_row_8 : decode cX5_row 8 = .ok (.istore_n 3, 1) := by decide +kernel
theorem dX5_row_9 : decode cX5_row 9 = .ok (.iconst 0, 1) := by decide +kernel
theorem dX5_row_10 : decode cX5_row 10 = .ok (.istore 4, 2) := by decide +kernel
theorem dX5_row_12 : decode cX5_row 12 = .ok (.iload 4, 2) := by decide +kernel
theorem dX5_row_14 : decode cX5_row 14 = .ok (.iload_n 1, 1) := by decide +kernel
theorem dX5_row_15 : decode cX5_row 15 = .ok (.if_icmp .ge 84, 3) := by decide +kernel
theorem dX5_row_18 : decode cX5_row 18 = .ok (.aload_n 0, 1) := by decide +kernel
theorem dX5_row_19 : decode cX5_row 19 = .ok (.getfield 9, 3) := by decide +kernel
theorem dX5_row_22 : decode cX5_row 22 = .ok (.iload 4, 2) := by decide +kernel
theorem dX5_row_24 : decode cX5_row 24 = .ok (.iaload, 1) := by decide +kernel
theorem dX5_row_25 : decode cX5_row 25 = .ok (.istore 5, 2) := by decide +kernel
theorem dX5_row_27 : decode cX5_row 27 = .ok (.iload_n 3, 1) := by decide +kernel
theorem dX5_row_28 : decode cX5_row 28 = .ok (.ifCond .ne 26, 3) := by decide +kernel
theorem dX5_row_31 : decode cX5_row 31 = .ok (.iload 5, 2) := by decide +kernel
theorem dX5_row_33 : decode cX5_row 33 = .ok (.bipush 50, 2) := by decide +kernel
theorem dX5_row_35 : decode cX5_row 35 = .ok (.if_icmp .lt 19, 3) := by decide +kernel
theorem dX5_row_38 : decode cX5_row 38 = .ok (.iload 5, 2) := by decide +kernel
theorem dX5_row_40 : decode cX5_row 40 = .ok (.bipush 57, 2) := by decide +kernel
theorem dX5_row_42 : decode cX5_row 42 = .ok (.if_icmp .gt 12, 3) := by decide +kernel
theorem dX5_row_45 : decode cX5_row 45 = .ok (.iload 5, 2) := by decide +kernel
theorem dX5_row_47 : decode cX5_row 47 = .ok (.bipush 48, 2) := by decide +kernel
theorem dX5_row_49 : decode cX5_row 49 = .ok (.isub, 1) := by decide +kernel
theorem dX5_row_50 : decode cX5_row 50 = .ok (.istore_n 3, 1) := by decide +kernel
theorem dX5_row_51 : decode cX5_row 51 = .ok (.goto 42, 3) := by decide +kernel
theorem dX5_row_54 : decode cX5_row 54 = .ok (.iload_n 3, 1) := by decide +kernel
theorem dX5_row_55 : decode cX5_row 55 = .ok (.iconst 1, 1) := by decide +kernel
theorem dX5_row_56 : decode cX5_row 56 = .ok (.invokestatic 82, 3) := by decide +kernel
theorem dX5_row_59 : decode cX5_row 59 = .ok (.istore 6, 2) := by decide +kernel
theorem dX5_row_61 : decode cX5_row 61 = .ok (.aload_n 0, 1) := by decide +kernel
theorem dX5_row_62 : decode cX5_row 62 = .ok (.iload 5, 2) := by decide +kernel
theorem dX5_row_64 : decode cX5_row 64 = .ok (.invokestatic 88, 3) := by decide +kernel
theorem dX5_row_67 : decode cX5_row 67 = .ok (.iload 6, 2) := by decide +kernel
theorem dX5_row_69 : decode cX5_row 69 = .ok (.invokevirtual 92, 3) := by decide +kernel
theorem dX5_row_72 : decode cX5_row 72 = .ok (.istore 7, 2) := by decide +kernel
theorem dX5_row_74 : decode cX5_row 74 = .ok (.iload 7, 2) := by decide +kernel
theorem dX5_row_76 : decode cX5_row 76 = .ok (.iload 6, 2) := by decide +kernel
theorem dX5_row_78 : decode cX5_row 78 = .ok (.if_icmp .ge 8, 3) := by decide +kernel
theorem dX5_row_81 : decode cX5_row 81 = .ok (.iconst (-1), 1) := by decide +kernel
theorem dX5_row_82 : decode cX5_row 82 = .ok (.iload 4, 2) := by decide +kernel
theorem dX5_row_84 : decode cX5_row 84 = .ok (.isub, 1) := by decide +kernel
theorem dX5_row_85 : decode cX5_row 85 = .ok (.ireturn, 1) := by decide +kernel
theorem dX5_row_86 : decode cX5_row 86 = .ok (.iload_n 2, 1) := by decide +kernel
theorem dX5_row_87 : decode cX5_row 87 = .ok (.iload 7, 2) := by decide +kernel
theorem dX5_row_89 : decode cX5_row 89 = .ok (.iadd, 1) := by decide +kernel
theorem dX5_row_90 : decode cX5_row 90 = .ok (.istore_n 2, 1) := by decide +kernel
theorem dX5_row_91 : decode cX5_row 91 = .ok (.iconst 0, 1) := by decide +kernel
theorem dX5_row_92 : decode cX5_row 92 = .ok (.istore_n 3, 1) := by decide +kernel
theorem dX5_row_93 : decode cX5_row 93 = .ok (.iinc 4 1, 3) := by decide +kernel
theorem dX5_row_96 : decode cX5_row 96 = .ok (.goto (-84), 3) := by decide +kernel
theorem dX5_row_99 : decode cX5_row 99 = .ok (.iload_n 3, 1) := by decide +kernel
theorem dX5_row_100 : decode cX5_row 100 = .ok (.ifCond .ne 7, 3) := by decide +kernel
theorem dX5_row_103 : decode cX5_row 103 = .ok (.iload_n 2, 1) := by decide +kernel
theorem dX5_row_104 : decode cX5_row 104 = .ok (.goto 6, 3) := by decide +kernel
theorem dX5_row_107 : decode cX5_row 107 = .ok (.iconst (-1), 1) := by decide +kernel
theorem dX5_row_108 : decode cX5_row 108 = .ok (.iload_n 1, 1) := by decide +kernel
theorem dX5_row_109 : decode cX5_row 109 = .ok (.isub, 1) := by decide +kernel
theorem dX5_row_110 : decode cX5_row 110 = .ok (.ireturn, 1) := by decide +kernel
theorem dX5_move_0 : decode cX5_move 0 = .ok (.aload_n 0, 1) := by decide +kernel
theorem dX5_move_1 : decode cX5_move 1 = .ok (.getfield 23, 3) := by decide +kernel
theorem dX5_move_4 : decode cX5_move 4 = .ok (.invokevirtual 95, 3) := by decide +kernel
theorem dX5_move_7 : decode cX5_move 7 = .ok (.ifCond .ne 13, 3) := by decide +kernel
theorem dX5_move_10 : decode cX5_move 10 = .ok (.new 98, 3) := by decide +kernel
theorem dX5_move_13 : decode cX5_move 13 = .ok (.dup, 1) := by decide +kernel
theorem dX5_move_14 : decode cX5_move 14 = .ok (.ldc 100, 2) := by decide +kernel
theorem dX5_move_16 : decode cX5_move 16 = .ok (.invokespecial 102, 3) := by decide +kernel
theorem dX5_move_19 : decode cX5_move 19 = .ok (.athrow, 1) := by decide +kernel
theorem dX5_move_20 : decode cX5_move 20 = .ok (.iload_n 1, 1) := by decide +kernel
theorem dX5_move_21 : decode cX5_move 21 = .ok (.ifCond .lt 8, 3) := by decide +kernel
theorem dX5_move_24 : decode cX5_move 24 = .ok (.iload_n 1, 1) := by decide +kernel
theorem dX5_move_25 : decode cX5_move 25 = .ok (.iconst 4, 1) := by decide +kernel
theorem dX5_move_26 : decode cX5_move 26 = .ok (.if_icmp .lt 13, 3) := by decide +kernel
theorem dX5_move_29 : decode cX5_move 29 = .ok (.new 105, 3) := by decide +kernel
theorem dX5_move_32 : decode cX5_move 32 = .ok (.dup, 1) := by decide +kernel
theorem dX5_move_33 : decode cX5_move 33 = .ok (.ldc 107, 2) := by decide +kernel
theorem dX5_move_35 : decode cX5_move 35 = .ok (.invokespecial 109, 3) := by decide +kernel
theorem dX5_move_38 : decode cX5_move 38 = .ok (.athrow, 1) := by decide +kernel
theorem dX5_move_39 : decode cX5_move 39 = .ok (.aload_n 0, 1) := by decide +kernel
theorem dX5_move_40 : decode cX5_move 40 = .ok (.iload_n 1, 1) := by decide +kernel
theorem dX5_move_41 : decode cX5_move 41 = .ok (.invokevirtual 110, 3) := by decide +kernel
theorem dX5_move_44 : decode cX5_move 44 = .ok (.ireturn, 1) := by decide +kernel
theorem dX5_undo_0 : decode cX5_undo 0 = .ok (.aload_n 0, 1) := by decide +kernel
theorem dX5_undo_1 : decode cX5_undo 1 = .ok (.getfield 30, 3) := by decide +kernel
theorem dX5_undo_4 : decode cX5_undo 4 = .ok (.getfield 113, 3) := by decide +kernel
theorem dX5_undo_7 : decode cX5_undo 7 = .ok (.ifCond .ne 5, 3) := by decide +kernel
theorem dX5_undo_10 : decode cX5_undo 10 = .ok (.iconst 0, 1) := by decide +kernel
theorem dX5_undo_11 : decode cX5_undo 11 = .ok (.ireturn, 1) := by decide +kernel
theorem dX5_undo_12 : decode cX5_undo 12 = .ok (.aload_n 0, 1) := by decide +kernel
theorem dX5_undo_13 : decode cX5_undo 13 = .ok (.getfield 30, 3) := by decide +kernel
theorem dX5_undo_16 : decode cX5_undo 16 = .ok (.invokevirtual 116, 3) := by decide +kernel
theorem dX5_undo_19 : decode cX5_undo 19 = .ok (.istore_n 1, 1) := by decide +kernel
theorem dX5_undo_20 : decode cX5_undo 20 = .ok (.iload_n 1, 1) := by decide +kernel
theorem dX5_undo_21 : decode cX5_undo 21 = .ok (.invokestatic 119, 3) := by decide +kernel
theorem dX5_undo_24 : decode cX5_undo 24 = .ok (.istore_n 2, 1) := by decide +kernel
theorem dX5_undo_25 : decode cX5_undo 25 = .ok (.aload_n 0, 1) := by decide +kernel
theorem dX5_undo_26 : decode cX5_undo 26 = .ok (.getfield 23, 3) := by decide +kernel
theorem dX5_undo_29 : decode cX5_undo 29 = .ok (.iload_n 1, 1) := by decide +kernel
theorem dX5_undo_30 : decode cX5_undo 30 = .ok (.invokestatic 122, 3) := by decide +kernel
theorem dX5_undo_33 : decode cX5_undo 33 = .ok (.iload_n 2, 1) := by decide +kernel
theorem dX5_undo_34 : decode cX5_undo 34 = .ok (.invokevirtual 125, 3) := by decide +kernel
theorem dX5_undo_37 : decode cX5_undo 37 = .ok (.iload_n 2, 1) := by decide +kernel
theorem dX5_undo_38 : decode cX5_undo 38 = .ok (.ifCond .eq 7, 3) := by decide +kernel
theorem dX5_undo_41 : decode cX5_undo 41 = .ok (.iconst 2, 1) := by decide +kernel
theorem dX5_undo_42 : decode cX5_undo 42 = .ok (.goto 4, 3) := by decide +kernel
theorem dX5_undo_45 : decode cX5_undo 45 = .ok (.iconst 1, 1) := by decide +kernel
theorem dX5_undo_46 : decode cX5_undo 46 = .ok (.ireturn, 1) := by decide +kernel
theorem dX5_told_0 : decode cX5_told 0 = .ok (.iload_n 1, 1) := by decide +kernel
theorem dX5_told_1 : decode cX5_told 1 = .ok (.tableswitch 186 0 8 #[51, 59, 67, 78, 89, 108, 116, 124, 153], 51) := by decide +kernel
theorem dX5_told_52 : decode cX5_told 52 = .ok (.aload_n 0, 1) := by decide +kernel
theorem dX5_told_53 : decode cX5_told 53 = .ok (.getfield 23, 3) := by decide +kernel
theorem dX5_told_56 : decode cX5_told 56 = .ok (.getfield 129, 3) := by decide +kernel
theorem dX5_told_59 : decode cX5_told 59 = .ok (.ireturn, 1) := by decide +kernel
theorem dX5_told_60 : decode cX5_told 60 = .ok (.aload_n 0, 1) := by decide +kernel
theorem dX5_told_61 : decode cX5_told 61 = .ok (.getfield 23, 3) := by decide +kernel
theorem dX5_told_64 : decode cX5_told 64 = .ok (.getfield 132, 3) := by decide +kernel
theorem dX5_told_67 : decode cX5_told 67 = .ok (.ireturn, 1) := by decide +kernel
theorem dX5_told_68 : decode cX5_told 68 = .ok (.aload_n 0, 1) := by decide +kernel
theorem dX5_told_69 : decode cX5_told 69 = .ok (.getfield 23, 3) := by decide +kernel
theorem dX5_told_72 : decode cX5_told 72 = .ok (.getfield 72, 3) := by decide +kernel
theorem dX5_told_75 : decode cX5_told 75 = .ok (.invokestatic 76, 3) := by decide +kernel
theorem dX5_told_78 : decode cX5_told 78 = .ok (.ireturn, 1) := by decide +kernel
theorem dX5_told_79 : decode cX5_told 79 = .ok (.aload_n 0, 1) := by decide +kernel
theorem dX5_told_80 : decode cX5_told 80 = .ok (.getfield 23, 3) := by decide +kernel
theorem dX5_told_83 : decode cX5_told 83 = .ok (.getfield 135, 3) := by decide +kernel
theorem dX5_told_86 : decode cX5_told 86 = .ok (.invokestatic 76, 3) := by decide +kernel
theorem dX5_told_89 : decode cX5_told 89 = .ok (.ireturn, 1) := by decide +kernel
theorem dX5_told_90 : decode cX5_told 90 = .ok (.aload_n 0, 1) := by decide +kernel
theorem dX5_told_91 : decode cX5_told 91 = .ok (.getfield 23, 3) := by decide +kernel
theorem dX5_told_94 : decode cX5_told 94 = .ok (.getfield 72, 3) := by decide +kernel
theorem dX5_told_97 : decode cX5_told 97 = .ok (.aload_n 0, 1) := by decide +kernel
theorem dX5_told_98 : decode cX5_told 98 = .ok (.getfield 23, 3) := by decide +kernel
theorem dX5_told_101 : decode cX5_told 101 = .ok (.getfield 135, 3) := by decide +kernel
theorem dX5_told_104 : decode cX5_told 104 = .ok (.land, 1) := by decide +kernel
theorem dX5_told_105 : decode cX5_told 105 = .ok (.invokestatic 76, 3) := by decide +kernel
theorem dX5_told_108 : decode cX5_told 108 = .ok (.ireturn, 1) := by decide +kernel
theorem dX5_told_109 : decode cX5_told 109 = .ok (.aload_n 0, 1) := by decide +kernel
theorem dX5_told_110 : decode cX5_told 110 = .ok (.getfield 30, 3) := by decide +kernel
theorem dX5_told_113 : decode cX5_told 113 = .ok (.getfield 138, 3) := by decide +kernel
theorem dX5_told_116 : decode cX5_told 116 = .ok (.ireturn, 1) := by decide +kernel
theorem dX5_told_117 : decode cX5_told 117 = .ok (.aload_n 0, 1) := by decide +kernel
theorem dX5_told_118 : decode cX5_told 118 = .ok (.getfield 30, 3) := by decide +kernel
theorem dX5_told_121 : decode cX5_told 121 = .ok (.getfield 141, 3) := by decide +kernel
theorem dX5_told_124 : decode cX5_told 124 = .ok (.ireturn, 1) := by decide +kernel
theorem dX5_told_125 : decode cX5_told 125 = .ok (.aload_n 0, 1) := by decide +kernel
theorem dX5_told_126 : decode cX5_told 126 = .ok (.getfield 23, 3) := by decide +kernel
theorem dX5_told_129 : decode cX5_told 129 = .ok (.invokevirtual 95, 3) := by decide +kernel
theorem dX5_told_132 : decode cX5_told 132 = .ok (.ifCond .eq 20, 3) := by decide +kernel
theorem dX5_told_135 : decode cX5_told 135 = .ok (.aload_n 0, 1) := by decide +kernel
theorem dX5_told_136 : decode cX5_told 136 = .ok (.getfield 23, 3) := by decide +kernel
theorem dX5_told_139 : decode cX5_told 139 = .ok (.aload_n 0, 1) := by decide +kernel
theorem dX5_told_140 : decode cX5_told 140 = .ok (.getfield 23, 3) := by decide +kernel
theorem dX5_told_143 : decode cX5_told 143 = .ok (.getfield 144, 3) := by decide +kernel
theorem dX5_told_146 : decode cX5_told 146 = .ok (.invokevirtual 147, 3) := by decide +kernel
theorem dX5_told_149 : decode cX5_told 149 = .ok (.goto 4, 3) := by decide +kernel
theorem dX5_told_152 : decode cX5_told 152 = .ok (.iconst (-1), 1) := by decide +kernel
theorem dX5_told_153 : decode cX5_told 153 = .ok (.ireturn, 1) := by decide +kernel
theorem dX5_told_154 : decode cX5_told 154 = .ok (.aload_n 0, 1) := by decide +kernel
theorem dX5_told_155 : decode cX5_told 155 = .ok (.getfield 23, 3) := by decide +kernel
theorem dX5_told_158 : decode cX5_told 158 = .ok (.invokevirtual 95, 3) := by decide +kernel
theorem dX5_told_161 : decode cX5_told 161 = .ok (.ifCond .eq 24, 3) := by decide +kernel
theorem dX5_told_164 : decode cX5_told 164 = .ok (.aload_n 0, 1) := by decide +kernel
theorem dX5_told_165 : decode cX5_told 165 = .ok (.getfield 23, 3) := by decide +kernel
theorem dX5_told_168 : decode cX5_told 168 = .ok (.aload_n 0, 1) := by decide +kernel
theorem dX5_told_169 : decode cX5_told 169 = .ok (.getfield 23, 3) := by decide +kernel
theorem dX5_told_172 : decode cX5_told 172 = .ok (.getfield 72, 3) := by decide +kernel
theorem dX5_told_175 : decode cX5_told 175 = .ok (.invokevirtual 150, 3) := by decide +kernel
theorem dX5_told_178 : decode cX5_told 178 = .ok (.ifCond .eq 7, 3) := by decide +kernel
theorem dX5_told_181 : decode cX5_told 181 = .ok (.iconst 1, 1) := by decide +kernel
theorem dX5_told_182 : decode cX5_told 182 = .ok (.goto 4, 3) := by decide +kernel
theorem dX5_told_185 : decode cX5_told 185 = .ok (.iconst 0, 1) := by decide +kernel
theorem dX5_told_186 : decode cX5_told 186 = .ok (.ireturn, 1) := by decide +kernel
theorem dX5_told_187 : decode cX5_told 187 = .ok (.iconst (-1), 1) := by decide +kernel
theorem dX5_told_188 : decode cX5_told 188 = .ok (.ireturn, 1) := by decide +kernel
theorem dX5_picture_0 : decode cX5_picture 0 = .ok (.aload_n 0, 1) := by decide +kernel
theorem dX5_picture_1 : decode cX5_picture 1 = .ok (.getfield 23, 3) := by decide +kernel
theorem dX5_picture_4 : decode cX5_picture 4 = .ok (.getfield 129, 3) := by decide +kernel
theorem dX5_picture_7 : decode cX5_picture 7 = .ok (.iconst 1, 1) := by decide +kernel
theorem dX5_picture_8 : decode cX5_picture 8 = .ok (.iadd, 1) := by decide +kernel
theorem dX5_picture_9 : decode cX5_picture 9 = .ok (.istore_n 2, 1) := by decide +kernel
theorem dX5_picture_10 : decode cX5_picture 10 = .ok (.iload_n 1, 1) := by decide +kernel
theorem dX5_picture_11 : decode cX5_picture 11 = .ok (.ifCond .lt 16, 3) := by decide +kernel
theorem dX5_picture_14 : decode cX5_picture 14 = .ok (.iload_n 1, 1) := by decide +kernel
theorem dX5_picture_15 : decode cX5_picture 15 = .ok (.iload_n 2, 1) := by decide +kernel
theorem dX5_picture_16 : decode cX5_picture 16 = .ok (.aload_n 0, 1) := by decide +kernel
theorem dX5_picture_17 : decode cX5_picture 17 = .ok (.getfield 23, 3) := by decide +kernel
theorem dX5_picture_20 : decode cX5_picture 20 = .ok (.getfield 132, 3) := by decide +kernel
theorem dX5_picture_23 : decode cX5_picture 23 = .ok (.imul, 1) := by decide +kernel
theorem dX5_picture_24 : decode cX5_picture 24 = .ok (.if_icmp .lt 5, 3) := by decide +kernel
theorem dX5_picture_27 : decode cX5_picture 27 = .ok (.iconst (-1), 1) := by decide +kernel
theorem dX5_picture_28 : decode cX5_picture 28 = .ok (.ireturn, 1) := by decide +kernel
theorem dX5_picture_29 : decode cX5_picture 29 = .ok (.iload_n 1, 1) := by decide +kernel
theorem dX5_picture_30 : decode cX5_picture 30 = .ok (.iload_n 2, 1) := by decide +kernel
theorem dX5_picture_31 : decode cX5_picture 31 = .ok (.irem, 1) := by decide +kernel
theorem dX5_picture_32 : decode cX5_picture 32 = .ok (.istore_n 3, 1) := by decide +kernel
theorem dX5_picture_33 : decode cX5_picture 33 = .ok (.iload_n 3, 1) := by decide +kernel
theorem dX5_picture_34 : decode cX5_picture 34 = .ok (.aload_n 0, 1) := by decide +kernel
theorem dX5_picture_35 : decode cX5_picture 35 = .ok (.getfield 23, 3) := by decide +kernel
theorem dX5_picture_38 : decode cX5_picture 38 = .ok (.getfield 129, 3) := by decide +kernel
theorem dX5_picture_41 : decode cX5_picture 41 = .ok (.if_icmp .ne 8, 3) := by decide +kernel
theorem dX5_picture_44 : decode cX5_picture 44 = .ok (.bipush 10, 2) := by decide +kernel
theorem dX5_picture_46 : decode cX5_picture 46 = .ok (.goto 17, 3) := by decide +kernel
theorem dX5_picture_49 : decode cX5_picture 49 = .ok (.aload_n 0, 1) := by decide +kernel
theorem dX5_picture_50 : decode cX5_picture 50 = .ok (.getfield 23, 3) := by decide +kernel
theorem dX5_picture_53 : decode cX5_picture 53 = .ok (.iload_n 3, 1) := by decide +kernel
theorem dX5_picture_54 : decode cX5_picture 54 = .ok (.iload_n 1, 1) := by decide +kernel
theorem dX5_picture_55 : decode cX5_picture 55 = .ok (.iload_n 2, 1) := by decide +kernel
theorem dX5_picture_56 : decode cX5_picture 56 = .ok (.idiv, 1) := by decide +kernel
theorem dX5_picture_57 : decode cX5_picture 57 = .ok (.invokestatic 154, 3) := by decide +kernel
theorem dX5_picture_60 : decode cX5_picture 60 = .ok (.invokevirtual 158, 3) := by decide +kernel
theorem dX5_picture_63 : decode cX5_picture 63 = .ok (.ireturn, 1) := by decide +kernel
theorem dX5_letter_0 : decode cX5_letter 0 = .ok (.iload_n 1, 1) := by decide +kernel
theorem dX5_letter_1 : decode cX5_letter 1 = .ok (.ifCond .lt 14, 3) := by decide +kernel
theorem dX5_letter_4 : decode cX5_letter 4 = .ok (.iload_n 1, 1) := by decide +kernel
theorem dX5_letter_5 : decode cX5_letter 5 = .ok (.aload_n 0, 1) := by decide +kernel
theorem dX5_letter_6 : decode cX5_letter 6 = .ok (.getfield 30, 3) := by decide +kernel
theorem dX5_letter_9 : decode cX5_letter 9 = .ok (.getfield 113, 3) := by decide +kernel
theorem dX5_letter_12 : decode cX5_letter 12 = .ok (.if_icmp .lt 7, 3) := by decide +kernel
theorem dX5_letter_15 : decode cX5_letter 15 = .ok (.iconst (-1), 1) := by decide +kernel
theorem dX5_letter_16 : decode cX5_letter 16 = .ok (.goto 11, 3) := by decide +kernel
theorem dX5_letter_19 : decode cX5_letter 19 = .ok (.aload_n 0, 1) := by decide +kernel
theorem dX5_letter_20 : decode cX5_letter 20 = .ok (.getfield 30, 3) := by decide +kernel
theorem dX5_letter_23 : decode cX5_letter 23 = .ok (.iload_n 1, 1) := by decide +kernel
theorem dX5_letter_24 : decode cX5_letter 24 = .ok (.invokevirtual 161, 3) := by decide +kernel
theorem dX5_letter_27 : decode cX5_letter 27 = .ok (.ireturn, 1) := by decide +kernel
theorem dX5_reach_0 : decode cX5_reach 0 = .ok (.aload_n 0, 1) := by decide +kernel
theorem dX5_reach_1 : decode cX5_reach 1 = .ok (.getfield 23, 3) := by decide +kernel
theorem dX5_reach_4 : decode cX5_reach 4 = .ok (.aload_n 0, 1) := by decide +kernel
theorem dX5_reach_5 : decode cX5_reach 5 = .ok (.getfield 23, 3) := by decide +kernel
theorem dX5_reach_8 : decode cX5_reach 8 = .ok (.getfield 144, 3) := by decide +kernel
theorem dX5_reach_11 : decode cX5_reach 11 = .ok (.aload_n 0, 1) := by decide +kernel
theorem dX5_reach_12 : decode cX5_reach 12 = .ok (.getfield 23, 3) := by decide +kernel
theorem dX5_reach_15 : decode cX5_reach 15 = .ok (.getfield 72, 3) := by decide +kernel
theorem dX5_reach_18 : decode cX5_reach 18 = .ok (.invokevirtual 164, 3) := by decide +kernel
theorem dX5_reach_21 : decode cX5_reach 21 = .ok (.invokestatic 76, 3) := by decide +kernel
theorem dX5_reach_24 : decode cX5_reach 24 = .ok (.ireturn, 1) := by decide +kernel
theorem dX5_way_0 : decode cX5_way 0 = .ok (.aload_n 0, 1) := by decide +kernel
theorem dX5_way_1 : decode cX5_way 1 = .ok (.getfield 23, 3) := by decide +kernel
theorem dX5_way_4 : decode cX5_way 4 = .ok (.aload_n 0, 1) := by decide +kernel
theorem dX5_way_5 : decode cX5_way 5 = .ok (.iload_n 1, 1) := by decide +kernel
theorem dX5_way_6 : decode cX5_way 6 = .ok (.iload_n 2, 1) := by decide +kernel
theorem dX5_way_7 : decode cX5_way 7 = .ok (.invokevirtual 168, 3) := by decide +kernel
theorem dX5_way_10 : decode cX5_way 10 = .ok (.invokevirtual 171, 3) := by decide +kernel
theorem dX5_way_13 : decode cX5_way 13 = .ok (.ireturn, 1) := by decide +kernel
theorem dX5_dead_0 : decode cX5_dead 0 = .ok (.aload_n 0, 1) := by decide +kernel
theorem dX5_dead_1 : decode cX5_dead 1 = .ok (.iload_n 1, 1) := by decide +kernel
theorem dX5_dead_2 : decode cX5_dead 2 = .ok (.iload_n 2, 1) := by decide +kernel
theorem dX5_dead_3 : decode cX5_dead 3 = .ok (.invokevirtual 168, 3) := by decide +kernel
theorem dX5_dead_6 : decode cX5_dead 6 = .ok (.aload_n 0, 1) := by decide +kernel
theorem dX5_dead_7 : decode cX5_dead 7 = .ok (.getfield 23, 3) := by decide +kernel
theorem dX5_dead_10 : decode cX5_dead 10 = .ok (.getfield 174, 3) := by decide +kernel
theorem dX5_dead_13 : decode cX5_dead 13 = .ok (.land, 1) := by decide +kernel
theorem dX5_dead_14 : decode cX5_dead 14 = .ok (.aload_n 0, 1) := by decide +kernel
theorem dX5_dead_15 : decode cX5_dead 15 = .ok (.getfield 23, 3) := by decide +kernel
theorem dX5_dead_18 : decode cX5_dead 18 = .ok (.getfield 177, 3) := by decide +kernel
theorem dX5_dead_21 : decode cX5_dead 21 = .ok (.ldc2_w 180, 3) := by decide +kernel
theorem dX5_dead_24 : decode cX5_dead 24 = .ok (.lxor, 1) := by decide +kernel
theorem dX5_dead_25 : decode cX5_dead 25 = .ok (.land, 1) := by decide +kernel
theorem dX5_dead_26 : decode cX5_dead 26 = .ok (.lconst 0, 1) := by decide +kernel
theorem dX5_dead_27 : decode cX5_dead 27 = .ok (.lcmp, 1) := by decide +kernel
theorem dX5_dead_28 : decode cX5_dead 28 = .ok (.ifCond .eq 7, 3) := by decide +kernel
theorem dX5_dead_31 : decode cX5_dead 31 = .ok (.iconst 1, 1) := by decide +kernel
theorem dX5_dead_32 : decode cX5_dead 32 = .ok (.goto 4, 3) := by decide +kernel
theorem dX5_dead_35 : decode cX5_dead 35 = .ok (.iconst 0, 1) := by decide +kernel
theorem dX5_dead_36 : decode cX5_dead 36 = .ok (.ireturn, 1) := by decide +kernel
theorem dX5_fast_0 : decode cX5_fast 0 = .ok (.aload_n 0, 1) := by decide +kernel
theorem dX5_fast_1 : decode cX5_fast 1 = .ok (.getfield 23, 3) := by decide +kernel
theorem dX5_fast_4 : decode cX5_fast 4 = .ok (.aload_n 0, 1) := by decide +kernel
theorem dX5_fast_5 : decode cX5_fast 5 = .ok (.getfield 23, 3) := by decide +kernel
theorem dX5_fast_8 : decode cX5_fast 8 = .ok (.getfield 72, 3) := by decide +kernel
theorem dX5_fast_11 : decode cX5_fast 11 = .ok (.invokevirtual 182, 3) := by decide +kernel
theorem dX5_fast_14 : decode cX5_fast 14 = .ok (.invokestatic 76, 3) := by decide +kernel
theorem dX5_fast_17 : decode cX5_fast 17 = .ok (.ireturn, 1) := by decide +kernel
theorem dX5_stuck_0 : decode cX5_stuck 0 = .ok (.aload_n 0, 1) := by decide +kernel
theorem dX5_stuck_1 : decode cX5_stuck 1 = .ok (.getfield 23, 3) := by decide +kernel
theorem dX5_stuck_4 : decode cX5_stuck 4 = .ok (.aload_n 0, 1) := by decide +kernel
theorem dX5_stuck_5 : decode cX5_stuck 5 = .ok (.getfield 23, 3) := by decide +kernel
theorem dX5_stuck_8 : decode cX5_stuck 8 = .ok (.getfield 72, 3) := by decide +kernel
theorem dX5_stuck_11 : decode cX5_stuck 11 = .ok (.invokevirtual 186, 3) := by decide +kernel
theorem dX5_stuck_14 : decode cX5_stuck 14 = .ok (.ireturn, 1) := by decide +kernel
theorem dX5_bound_0 : decode cX5_bound 0 = .ok (.iconst 0, 1) := by decide +kernel
theorem dX5_bound_1 : decode cX5_bound 1 = .ok (.istore_n 1, 1) := by decide +kernel
theorem dX5_bound_2 : decode cX5_bound 2 = .ok (.iconst 0, 1) := by decide +kernel
theorem dX5_bound_3 : decode cX5_bound 3 = .ok (.istore_n 2, 1) := by decide +kernel
theorem dX5_bound_4 : decode cX5_bound 4 = .ok (.iconst 0, 1) := by decide +kernel
theorem dX5_bound_5 : decode cX5_bound 5 = .ok (.istore_n 3, 1) := by decide +kernel
theorem dX5_bound_6 : decode cX5_bound 6 = .ok (.iload_n 3, 1) := by decide +kernel
theorem dX5_bound_7 : decode cX5_bound 7 = .ok (.bipush 64, 2) := by decide +kernel
theorem dX5_bound_9 : decode cX5_bound 9 = .ok (.if_icmp .ge 94, 3) := by decide +kernel
theorem dX5_bound_12 : decode cX5_bound 12 = .ok (.aload_n 0, 1) := by decide +kernel
theorem dX5_bound_13 : decode cX5_bound 13 = .ok (.getfield 23, 3) := by decide +kernel
theorem dX5_bound_16 : decode cX5_bound 16 = .ok (.getfield 72, 3) := by decide +kernel
theorem dX5_bound_19 : decode cX5_bound 19 = .ok (.iload_n 3, 1) := by decide +kernel
theorem dX5_bound_20 : decode cX5_bound 20 = .ok (.invokestatic 189, 3) := by decide +kernel
theorem dX5_bound_23 : decode cX5_bound 23 = .ok (.ifCond .ne 6, 3) := by decide +kernel
theorem dX5_bound_26 : decode cX5_bound 26 = .ok (.goto 71, 3) := by decide +kernel
theorem dX5_bound_29 : decode cX5_bound 29 = .ok (.aload_n 0, 1) := by decide +kernel
theorem dX5_bound_30 : decode cX5_bound 30 = .ok (.getfield 23, 3) := by decide +kernel
theorem dX5_bound_33 : decode cX5_bound 33 = .ok (.lconst 1, 1) := by decide +kernel
theorem dX5_bound_34 : decode cX5_bound 34 = .ok (.iload_n 3, 1) := by decide +kernel
theorem dX5_bound_35 : decode cX5_bound 35 = .ok (.lshl, 1) := by decide +kernel
theorem dX5_bound_36 : decode cX5_bound 36 = .ok (.invokevirtual 193, 3) := by decide +kernel
theorem dX5_bound_39 : decode cX5_bound 39 = .ok (.iconst 0, 1) := by decide +kernel
theorem dX5_bound_40 : decode cX5_bound 40 = .ok (.istore_n 2, 1) := by decide +kernel
theorem dX5_bound_41 : decode cX5_bound 41 = .ok (.iconst 0, 1) := by decide +kernel
theorem dX5_bound_42 : decode cX5_bound 42 = .ok (.istore 4, 2) := by decide +kernel
theorem dX5_bound_44 : decode cX5_bound 44 = .ok (.iload 4, 2) := by decide +kernel
theorem dX5_bound_46 : decode cX5_bound 46 = .ok (.bipush 64, 2) := by decide +kernel
theorem dX5_bound_48 : decode cX5_bound 48 = .ok (.if_icmp .ge 46, 3) := by decide +kernel
theorem dX5_bound_51 : decode cX5_bound 51 = .ok (.aload_n 0, 1) := by decide +kernel
theorem dX5_bound_52 : decode cX5_bound 52 = .ok (.getfield 23, 3) := by decide +kernel
theorem dX5_bound_55 : decode cX5_bound 55 = .ok (.getfield 135, 3) := by decide +kernel
theorem dX5_bound_58 : decode cX5_bound 58 = .ok (.iload 4, 2) := by decide +kernel
theorem dX5_bound_60 : decode cX5_bound 60 = .ok (.invokestatic 189, 3) := by decide +kernel
theorem dX5_bound_63 : decode cX5_bound 63 = .ok (.ifCond .eq 25, 3) := by decide +kernel
theorem dX5_bound_66 : decode cX5_bound 66 = .ok (.aload_n 0, 1) := by decide +kernel
theorem dX5_bound_67 : decode cX5_bound 67 = .ok (.getfield 37, 3) := by decide +kernel
theorem dX5_bound_70 : decode cX5_bound 70 = .ok (.iload_n 2, 1) := by decide +kernel
theorem dX5_bound_71 : decode cX5_bound 71 = .ok (.iload_n 1, 1) := by decide +kernel
theorem dX5_bound_72 : decode cX5_bound 72 = .ok (.aload_n 0, 1) := by decide +kernel
theorem dX5_bound_73 : decode cX5_bound 73 = .ok (.getfield 23, 3) := by decide +kernel
theorem dX5_bound_76 : decode cX5_bound 76 = .ok (.getfield 197, 3) := by decide +kernel
theorem dX5_bound_79 : decode cX5_bound 79 = .ok (.iload 4, 2) := by decide +kernel
theorem dX5_bound_81 : decode cX5_bound 81 = .ok (.iaload, 1) := by decide +kernel
theorem dX5_bound_82 : decode cX5_bound 82 = .ok (.invokevirtual 200, 3) := by decide +kernel
theorem dX5_bound_85 : decode cX5_bound 85 = .ok (.iinc 2 1, 3) := by decide +kernel
theorem dX5_bound_88 : decode cX5_bound 88 = .ok (.iinc 4 1, 3) := by decide +kernel
theorem dX5_bound_91 : decode cX5_bound 91 = .ok (.goto (-47), 3) := by decide +kernel
theorem dX5_bound_94 : decode cX5_bound 94 = .ok (.iinc 1 1, 3) := by decide +kernel
theorem dX5_bound_97 : decode cX5_bound 97 = .ok (.iinc 3 1, 3) := by decide +kernel
theorem dX5_bound_100 : decode cX5_bound 100 = .ok (.goto (-94), 3) := by decide +kernel
theorem dX5_bound_103 : decode cX5_bound 103 = .ok (.aload_n 0, 1) := by decide +kernel
theorem dX5_bound_104 : decode cX5_bound 104 = .ok (.getfield 37, 3) := by decide +kernel
theorem dX5_bound_107 : decode cX5_bound 107 = .ok (.iload_n 2, 1) := by decide +kernel
theorem dX5_bound_108 : decode cX5_bound 108 = .ok (.iload_n 1, 1) := by decide +kernel
theorem dX5_bound_109 : decode cX5_bound 109 = .ok (.invokevirtual 204, 3) := by decide +kernel
theorem dX5_bound_112 : decode cX5_bound 112 = .ok (.ireturn, 1) := by decide +kernel
theorem dX5_pushes_0 : decode cX5_pushes 0 = .ok (.aload_n 0, 1) := by decide +kernel
theorem dX5_pushes_1 : decode cX5_pushes 1 = .ok (.iload_n 1, 1) := by decide +kernel
theorem dX5_pushes_2 : decode cX5_pushes 2 = .ok (.iload_n 2, 1) := by decide +kernel
theorem dX5_pushes_3 : decode cX5_pushes 3 = .ok (.invokevirtual 168, 3) := by decide +kernel
theorem dX5_pushes_6 : decode cX5_pushes 6 = .ok (.lstore 5, 2) := by decide +kernel
theorem dX5_pushes_8 : decode cX5_pushes 8 = .ok (.aload_n 0, 1) := by decide +kernel
theorem dX5_pushes_9 : decode cX5_pushes 9 = .ok (.iload_n 3, 1) := by decide +kernel
theorem dX5_pushes_10 : decode cX5_pushes 10 = .ok (.iload 4, 2) := by decide +kernel
theorem dX5_pushes_12 : decode cX5_pushes 12 = .ok (.invokevirtual 168, 3) := by decide +kernel
theorem dX5_pushes_15 : decode cX5_pushes 15 = .ok (.lstore 7, 2) := by decide +kernel
theorem dX5_pushes_17 : decode cX5_pushes 17 = .ok (.aload_n 0, 1) := by decide +kernel
theorem dX5_pushes_18 : decode cX5_pushes 18 = .ok (.getfield 23, 3) := by decide +kernel
theorem dX5_pushes_21 : decode cX5_pushes 21 = .ok (.lload 5, 2) := by decide +kernel
theorem dX5_pushes_23 : decode cX5_pushes 23 = .ok (.invokevirtual 193, 3) := by decide +kernel
theorem dX5_pushes_26 : decode cX5_pushes 26 = .ok (.aload_n 0, 1) := by decide +kernel
theorem dX5_pushes_27 : decode cX5_pushes 27 = .ok (.getfield 23, 3) := by decide +kernel
theorem dX5_pushes_30 : decode cX5_pushes 30 = .ok (.getfield 197, 3) := by decide +kernel
theorem dX5_pushes_33 : decode cX5_pushes 33 = .ok (.lload 7, 2) := by decide +kernel
theorem dX5_pushes_35 : decode cX5_pushes 35 = .ok (.invokestatic 207, 3) := by decide +kernel
theorem dX5_pushes_38 : decode cX5_pushes 38 = .ok (.iaload, 1) := by decide +kernel
theorem dX5_pushes_39 : decode cX5_pushes 39 = .ok (.ireturn, 1) := by decide +kernel
theorem dX5_search_0 : decode cX5_search 0 = .ok (.iload_n 1, 1) := by decide +kernel
theorem dX5_search_1 : decode cX5_search 1 = .ok (.iconst 1, 1) := by decide +kernel
theorem dX5_search_2 : decode cX5_search 2 = .ok (.if_icmp .lt 20, 3) := by decide +kernel
theorem dX5_search_5 : decode cX5_search 5 = .ok (.iload_n 1, 1) := by decide +kernel
theorem dX5_search_6 : decode cX5_search 6 = .ok (.sipush 10000, 3) := by decide +kernel
theorem dX5_search_9 : decode cX5_search 9 = .ok (.if_icmp .gt 13, 3) := by decide +kernel
theorem dX5_search_12 : decode cX5_search 12 = .ok (.aload_n 0, 1) := by decide +kernel
theorem dX5_search_13 : decode cX5_search 13 = .ok (.getfield 23, 3) := by decide +kernel
theorem dX5_search_16 : decode cX5_search 16 = .ok (.invokevirtual 95, 3) := by decide +kernel
theorem dX5_search_19 : decode cX5_search 19 = .ok (.ifCond .ne 6, 3) := by decide +kernel
theorem dX5_search_22 : decode cX5_search 22 = .ok (.bipush (-3), 2) := by decide +kernel
theorem dX5_search_24 : decode cX5_search 24 = .ok (.ireturn, 1) := by decide +kernel
theorem dX5_search_25 : decode cX5_search 25 = .ok (.aload_n 0, 1) := by decide +kernel
theorem dX5_search_26 : decode cX5_search 26 = .ok (.getfield 44, 3) := by decide +kernel
theorem dX5_search_29 : decode cX5_search 29 = .ok (.aload_n 0, 1) := by decide +kernel
theorem dX5_search_30 : decode cX5_search 30 = .ok (.getfield 23, 3) := by decide +kernel
theorem dX5_search_33 : decode cX5_search 33 = .ok (.iload_n 1, 1) := by decide +kernel
theorem dX5_search_34 : decode cX5_search 34 = .ok (.invokevirtual 210, 3) := by decide +kernel
theorem dX5_search_37 : decode cX5_search 37 = .ok (.ireturn, 1) := by decide +kernel
theorem dX5_push_0 : decode cX5_push 0 = .ok (.iload_n 1, 1) := by decide +kernel
theorem dX5_push_1 : decode cX5_push 1 = .ok (.ifCond .lt 14, 3) := by decide +kernel
theorem dX5_push_4 : decode cX5_push 4 = .ok (.iload_n 1, 1) := by decide +kernel
theorem dX5_push_5 : decode cX5_push 5 = .ok (.aload_n 0, 1) := by decide +kernel
theorem dX5_push_6 : decode cX5_push 6 = .ok (.getfield 44, 3) := by decide +kernel
theorem dX5_push_9 : decode cX5_push 9 = .ok (.getfield 214, 3) := by decide +kernel
theorem dX5_push_12 : decode cX5_push 12 = .ok (.if_icmp .lt 7, 3) := by decide +kernel
theorem dX5_push_15 : decode cX5_push 15 = .ok (.iconst (-1), 1) := by decide +kernel
theorem dX5_push_16 : decode cX5_push 16 = .ok (.goto 11, 3) := by decide +kernel
theorem dX5_push_19 : decode cX5_push 19 = .ok (.aload_n 0, 1) := by decide +kernel
theorem dX5_push_20 : decode cX5_push 20 = .ok (.getfield 44, 3) := by decide +kernel
theorem dX5_push_23 : decode cX5_push 23 = .ok (.iload_n 1, 1) := by decide +kernel
theorem dX5_push_24 : decode cX5_push 24 = .ok (.invokevirtual 217, 3) := by decide +kernel
theorem dX5_push_27 : decode cX5_push 27 = .ok (.ireturn, 1) := by decide +kernel
theorem dX5_states_0 : decode cX5_states 0 = .ok (.aload_n 0, 1) := by decide +kernel
theorem dX5_states_1 : decode cX5_states 1 = .ok (.getfield 44, 3) := by decide +kernel
theorem dX5_states_4 : decode cX5_states 4 = .ok (.getfield 220, 3) := by decide +kernel
theorem dX5_states_7 : decode cX5_states 7 = .ok (.ireturn, 1) := by decide +kernel
theorem dX5_takeText_0 : decode cX5_takeText 0 = .ok (.aload_n 0, 1) := by decide +kernel
theorem dX5_takeText_1 : decode cX5_takeText 1 = .ok (.getfield 48, 3) := by decide +kernel
theorem dX5_takeText_4 : decode cX5_takeText 4 = .ok (.istore_n 1, 1) := by decide +kernel
theorem dX5_takeText_5 : decode cX5_takeText 5 = .ok (.aload_n 0, 1) := by decide +kernel
theorem dX5_takeText_6 : decode cX5_takeText 6 = .ok (.iconst 0, 1) := by decide +kernel
theorem dX5_takeText_7 : decode cX5_takeText 7 = .ok (.putfield 48, 3) := by decide +kernel
theorem dX5_takeText_10 : decode cX5_takeText 10 = .ok (.iload_n 1, 1) := by decide +kernel
theorem dX5_takeText_11 : decode cX5_takeText 11 = .ok (.ireturn, 1) := by decide +kernel
theorem dX5_goOften_0 : decode cX5_goOften 0 = .ok (.iconst 0, 1) := by decide +kernel
theorem dX5_goOften_1 : decode cX5_goOften 1 = .ok (.istore_n 3, 1) := by decide +kernel
theorem dX5_goOften_2 : decode cX5_goOften 2 = .ok (.iload_n 3, 1) := by decide +kernel
theorem dX5_goOften_3 : decode cX5_goOften 3 = .ok (.iload_n 2, 1) := by decide +kernel
theorem dX5_goOften_4 : decode cX5_goOften 4 = .ok (.if_icmp .ge 23, 3) := by decide +kernel
theorem dX5_goOften_7 : decode cX5_goOften 7 = .ok (.iload_n 1, 1) := by decide +kernel
theorem dX5_goOften_8 : decode cX5_goOften 8 = .ok (.ifCond .lt 11, 3) := by decide +kernel
theorem dX5_goOften_11 : decode cX5_goOften 11 = .ok (.aload_n 0, 1) := by decide +kernel
theorem dX5_goOften_12 : decode cX5_goOften 12 = .ok (.iload_n 1, 1) := by decide +kernel
theorem dX5_goOften_13 : decode cX5_goOften 13 = .ok (.invokevirtual 110, 3) := by decide +kernel
theorem dX5_goOften_16 : decode cX5_goOften 16 = .ok (.ifCond .ne 5, 3) := by decide +kernel
theorem dX5_goOften_19 : decode cX5_goOften 19 = .ok (.iload_n 3, 1) := by decide +kernel
theorem dX5_goOften_20 : decode cX5_goOften 20 = .ok (.ireturn, 1) := by decide +kernel
theorem dX5_goOften_21 : decode cX5_goOften 21 = .ok (.iinc 3 1, 3) := by decide +kernel
theorem dX5_goOften_24 : decode cX5_goOften 24 = .ok (.goto (-22), 3) := by decide +kernel
theorem dX5_goOften_27 : decode cX5_goOften 27 = .ok (.iload_n 2, 1) := by decide +kernel
theorem dX5_goOften_28 : decode cX5_goOften 28 = .ok (.ireturn, 1) := by decide +kernel
theorem dX5_goOnce_0 : decode cX5_goOnce 0 = .ok (.aload_n 0, 1) := by decide +kernel
theorem dX5_goOnce_1 : decode cX5_goOnce 1 = .ok (.getfield 23, 3) := by decide +kernel
theorem dX5_goOnce_4 : decode cX5_goOnce 4 = .ok (.invokevirtual 95, 3) := by decide +kernel
theorem dX5_goOnce_7 : decode cX5_goOnce 7 = .ok (.ifCond .eq 14, 3) := by decide +kernel
theorem dX5_goOnce_10 : decode cX5_goOnce 10 = .ok (.aload_n 0, 1) := by decide +kernel
theorem dX5_goOnce_11 : decode cX5_goOnce 11 = .ok (.getfield 23, 3) := by decide +kernel
theorem dX5_goOnce_14 : decode cX5_goOnce 14 = .ok (.iload_n 1, 1) := by decide +kernel
theorem dX5_goOnce_15 : decode cX5_goOnce 15 = .ok (.invokevirtual 223, 3) := by decide +kernel
theorem dX5_goOnce_18 : decode cX5_goOnce 18 = .ok (.goto 4, 3) := by decide +kernel
theorem dX5_goOnce_21 : decode cX5_goOnce 21 = .ok (.iconst 0, 1) := by decide +kernel
theorem dX5_goOnce_22 : decode cX5_goOnce 22 = .ok (.istore_n 2, 1) := by decide +kernel
theorem dX5_goOnce_23 : decode cX5_goOnce 23 = .ok (.iload_n 2, 1) := by decide +kernel
theorem dX5_goOnce_24 : decode cX5_goOnce 24 = .ok (.ifCond .eq 21, 3) := by decide +kernel
theorem dX5_goOnce_27 : decode cX5_goOnce 27 = .ok (.aload_n 0, 1) := by decide +kernel
theorem dX5_goOnce_28 : decode cX5_goOnce 28 = .ok (.getfield 30, 3) := by decide +kernel
theorem dX5_goOnce_31 : decode cX5_goOnce 31 = .ok (.iload_n 1, 1) := by decide +kernel
theorem dX5_goOnce_32 : decode cX5_goOnce 32 = .ok (.iload_n 2, 1) := by decide +kernel
theorem dX5_goOnce_33 : decode cX5_goOnce 33 = .ok (.iconst 2, 1) := by decide +kernel
theorem dX5_goOnce_34 : decode cX5_goOnce 34 = .ok (.if_icmp .ne 7, 3) := by decide +kernel
theorem dX5_goOnce_37 : decode cX5_goOnce 37 = .ok (.iconst 1, 1) := by decide +kernel
theorem dX5_goOnce_38 : decode cX5_goOnce 38 = .ok (.goto 4, 3) := by decide +kernel
theorem dX5_goOnce_41 : decode cX5_goOnce 41 = .ok (.iconst 0, 1) := by decide +kernel
theorem dX5_goOnce_42 : decode cX5_goOnce 42 = .ok (.invokevirtual 226, 3) := by decide +kernel
theorem dX5_goOnce_45 : decode cX5_goOnce 45 = .ok (.iload_n 2, 1) := by decide +kernel
theorem dX5_goOnce_46 : decode cX5_goOnce 46 = .ok (.ireturn, 1) := by decide +kernel
theorem dX5_existing_0 : decode cX5_existing 0 = .ok (.iload_n 1, 1) := by decide +kernel
theorem dX5_existing_1 : decode cX5_existing 1 = .ok (.ifCond .lt 29, 3) := by decide +kernel
theorem dX5_existing_4 : decode cX5_existing 4 = .ok (.iload_n 1, 1) := by decide +kernel
theorem dX5_existing_5 : decode cX5_existing 5 = .ok (.aload_n 0, 1) := by decide +kernel
theorem dX5_existing_6 : decode cX5_existing 6 = .ok (.getfield 23, 3) := by decide +kernel
theorem dX5_existing_9 : decode cX5_existing 9 = .ok (.getfield 129, 3) := by decide +kernel
theorem dX5_existing_12 : decode cX5_existing 12 = .ok (.if_icmp .ge 18, 3) := by decide +kernel
theorem dX5_existing_15 : decode cX5_existing 15 = .ok (.iload_n 2, 1) := by decide +kernel
theorem dX5_existing_16 : decode cX5_existing 16 = .ok (.ifCond .lt 14, 3) := by decide +kernel
theorem dX5_existing_19 : decode cX5_existing 19 = .ok (.iload_n 2, 1) := by decide +kernel
theorem dX5_existing_20 : decode cX5_existing 20 = .ok (.aload_n 0, 1) := by decide +kernel
theorem dX5_existing_21 : decode cX5_existing 21 = .ok (.getfield 23, 3) := by decide +kernel
theorem dX5_existing_24 : decode cX5_existing 24 = .ok (.getfield 132, 3) := by decide +kernel
theorem dX5_existing_27 : decode cX5_existing 27 = .ok (.if_icmp .lt 13, 3) := by decide +kernel
theorem dX5_existing_30 : decode cX5_existing 30 = .ok (.new 105, 3) := by decide +kernel
theorem dX5_existing_33 : decode cX5_existing 33 = .ok (.dup, 1) := by decide +kernel
theorem dX5_existing_34 : decode cX5_existing 34 = .ok (.ldc 229, 2) := by decide +kernel
theorem dX5_existing_36 : decode cX5_existing 36 = .ok (.invokespecial 109, 3) := by decide +kernel
theorem dX5_existing_39 : decode cX5_existing 39 = .ok (.athrow, 1) := by decide +kernel
theorem dX5_existing_40 : decode cX5_existing 40 = .ok (.iload_n 1, 1) := by decide +kernel
theorem dX5_existing_41 : decode cX5_existing 41 = .ok (.iload_n 2, 1) := by decide +kernel
theorem dX5_existing_42 : decode cX5_existing 42 = .ok (.invokestatic 154, 3) := by decide +kernel
theorem dX5_existing_45 : decode cX5_existing 45 = .ok (.lreturn, 1) := by decide +kernel
theorem dX5_wayOfLetter_0 : decode cX5_wayOfLetter 0 = .ok (.iload_n 0, 1) := by decide +kernel
theorem dX5_wayOfLetter_1 : decode cX5_wayOfLetter 1 = .ok (.lookupswitch 83 #[(68, 77), (76, 79), (82, 75), (85, 81), (100, 77), (108, 79), (114, 75), (117, 81)], 75) := by decide +kernel
theorem dX5_wayOfLetter_76 : decode cX5_wayOfLetter 76 = .ok (.iconst 0, 1) := by decide +kernel
theorem dX5_wayOfLetter_77 : decode cX5_wayOfLetter 77 = .ok (.ireturn, 1) := by decide +kernel
theorem dX5_wayOfLetter_78 : decode cX5_wayOfLetter 78 = .ok (.iconst 1, 1) := by decide +kernel
theorem dX5_wayOfLetter_79 : decode cX5_wayOfLetter 79 = .ok (.ireturn, 1) := by decide +kernel
theorem dX5_wayOfLetter_80 : decode cX5_wayOfLetter 80 = .ok (.iconst 2, 1) := by decide +kernel
theorem dX5_wayOfLetter_81 : decode cX5_wayOfLetter 81 = .ok (.ireturn, 1) := by decide +kernel
theorem dX5_wayOfLetter_82 : decode cX5_wayOfLetter 82 = .ok (.iconst 3, 1) := by decide +kernel
theorem dX5_wayOfLetter_83 : decode cX5_wayOfLetter 83 = .ok (.ireturn, 1) := by decide +kernel
theorem dX5_wayOfLetter_84 : decode cX5_wayOfLetter 84 = .ok (.iconst (-1), 1) := by decide +kernel
theorem dX5_wayOfLetter_85 : decode cX5_wayOfLetter 85 = .ok (.ireturn, 1) := by decide +kernel
theorem dX5_cellAt_0 : decode cX5_cellAt 0 = .ok (.lconst 1, 1) := by decide +kernel
theorem dX5_cellAt_1 : decode cX5_cellAt 1 = .ok (.bipush 8, 2) := by decide +kernel
theorem dX5_cellAt_3 : decode cX5_cellAt 3 = .ok (.iload_n 1, 1) := by decide +kernel
theorem dX5_cellAt_4 : decode cX5_cellAt 4 = .ok (.imul, 1) := by decide +kernel
theorem dX5_cellAt_5 : decode cX5_cellAt 5 = .ok (.iload_n 0, 1) := by decide +kernel
theorem dX5_cellAt_6 : decode cX5_cellAt 6 = .ok (.iadd, 1) := by decide +kernel
theorem dX5_cellAt_7 : decode cX5_cellAt 7 = .ok (.lshl, 1) := by decide +kernel
theorem dX5_cellAt_8 : decode cX5_cellAt 8 = .ok (.lreturn, 1) := by decide +kernel
theorem dX5_spotOf_0 : decode cX5_spotOf 0 = .ok (.lload_n 0, 1) := by decide +kernel
theorem dX5_spotOf_1 : decode cX5_spotOf 1 = .ok (.lload_n 0, 1) := by decide +kernel
theorem dX5_spotOf_2 : decode cX5_spotOf 2 = .ok (.lneg, 1) := by decide +kernel
theorem dX5_spotOf_3 : decode cX5_spotOf 3 = .ok (.land, 1) := by decide +kernel
theorem dX5_spotOf_4 : decode cX5_spotOf 4 = .ok (.lconst 1, 1) := by decide +kernel
theorem dX5_spotOf_5 : decode cX5_spotOf 5 = .ok (.lsub, 1) := by decide +kernel
theorem dX5_spotOf_6 : decode cX5_spotOf 6 = .ok (.invokestatic 76, 3) := by decide +kernel
theorem dX5_spotOf_9 : decode cX5_spotOf 9 = .ok (.bipush 63, 2) := by decide +kernel
theorem dX5_spotOf_11 : decode cX5_spotOf 11 = .ok (.iand, 1) := by decide +kernel
theorem dX5_spotOf_12 : decode cX5_spotOf 12 = .ok (.ireturn, 1) := by decide +kernel
theorem dX5_has_0 : decode cX5_has 0 = .ok (.lload_n 0, 1) := by decide +kernel
theorem dX5_has_1 : decode cX5_has 1 = .ok (.iload_n 2, 1) := by decide +kernel
theorem dX5_has_2 : decode cX5_has 2 = .ok (.lushr, 1) := by decide +kernel
theorem dX5_has_3 : decode cX5_has 3 = .ok (.lconst 1, 1) := by decide +kernel
theorem dX5_has_4 : decode cX5_has 4 = .ok (.land, 1) := by decide +kernel
theorem dX5_has_5 : decode cX5_has 5 = .ok (.lconst 0, 1) := by decide +kernel
theorem dX5_has_6 : decode cX5_has 6 = .ok (.lcmp, 1) := by decide +kernel
theorem dX5_has_7 : decode cX5_has 7 = .ok (.ifCond .eq 7, 3) := by decide +kernel
theorem dX5_has_10 : decode cX5_has 10 = .ok (.iconst 1, 1) := by decide +kernel
theorem dX5_has_11 : decode cX5_has 11 = .ok (.goto 4, 3) := by decide +kernel
theorem dX5_has_14 : decode cX5_has 14 = .ok (.iconst 0, 1) := by decide +kernel
theorem dX5_has_15 : decode cX5_has 15 = .ok (.ireturn, 1) := by decide +kernel
theorem dX5_against_0 : decode cX5_against 0 = .ok (.iload_n 0, 1) := by decide +kernel
theorem dX5_against_1 : decode cX5_against 1 = .ok (.iconst 2, 1) := by decide +kernel
theorem dX5_against_2 : decode cX5_against 2 = .ok (.ixor, 1) := by decide +kernel
theorem dX5_against_3 : decode cX5_against 3 = .ok (.ireturn, 1) := by decide +kernel
theorem dX5_shifted_0 : decode cX5_shifted 0 = .ok (.iload_n 2, 1) := by decide +kernel
theorem dX5_shifted_1 : decode cX5_shifted 1 = .ok (.tableswitch 48 0 2 #[27, 35, 40], 27) := by decide +kernel
theorem dX5_shifted_28 : decode cX5_shifted 28 = .ok (.lload_n 0, 1) := by decide +kernel
theorem dX5_shifted_29 : decode cX5_shifted 29 = .ok (.ldc2_w 231, 3) := by decide +kernel
theorem dX5_shifted_32 : decode cX5_shifted 32 = .ok (.land, 1) := by decide +kernel
theorem dX5_shifted_33 : decode cX5_shifted 33 = .ok (.iconst 1, 1) := by decide +kernel
theorem dX5_shifted_34 : decode cX5_shifted 34 = .ok (.lshl, 1) := by decide +kernel
theorem dX5_shifted_35 : decode cX5_shifted 35 = .ok (.lreturn, 1) := by decide +kernel
theorem dX5_shifted_36 : decode cX5_shifted 36 = .ok (.lload_n 0, 1) := by decide +kernel
theorem dX5_shifted_37 : decode cX5_shifted 37 = .ok (.bipush 8, 2) := by decide +kernel
theorem dX5_shifted_39 : decode cX5_shifted 39 = .ok (.lshl, 1) := by decide +kernel
theorem dX5_shifted_40 : decode cX5_shifted 40 = .ok (.lreturn, 1) := by decide +kernel
theorem dX5_shifted_41 : decode cX5_shifted 41 = .ok (.lload_n 0, 1) := by decide +kernel
theorem dX5_shifted_42 : decode cX5_shifted 42 = .ok (.ldc2_w 233, 3) := by decide +kernel
theorem dX5_shifted_45 : decode cX5_shifted 45 = .ok (.land, 1) := by decide +kernel
theorem dX5_shifted_46 : decode cX5_shifted 46 = .ok (.iconst 1, 1) := by decide +kernel
theorem dX5_shifted_47 : decode cX5_shifted 47 = .ok (.lushr, 1) := by decide +kernel
theorem dX5_shifted_48 : decode cX5_shifted 48 = .ok (.lreturn, 1) := by decide +kernel
theorem dX5_shifted_49 : decode cX5_shifted 49 = .ok (.lload_n 0, 1) := by decide +kernel
theorem dX5_shifted_50 : decode cX5_shifted 50 = .ok (.bipush 8, 2) := by decide +kernel
theorem dX5_shifted_52 : decode cX5_shifted 52 = .ok (.lushr, 1) := by decide +kernel
theorem dX5_shifted_53 : decode cX5_shifted 53 = .ok (.lreturn, 1) := by decide +kernel
theorem dX3_init_0 : decode cX3_init 0 = .ok (.aload_n 0, 1) := by decide +kernel
theorem dX3_init_1 : decode cX3_init 1 = .ok (.invokespecial 3, 3) := by decide +kernel
theorem dX3_init_4 : decode cX3_init 4 = .ok (.return_, 1) := by decide +kernel
theorem dX3_clear_0 : decode cX3_clear 0 = .ok (.aload_n 0, 1) := by decide +kernel
theorem dX3_clear_1 : decode cX3_clear 1 = .ok (.iconst 0, 1) := by decide +kernel
theorem dX3_clear_2 : decode cX3_clear 2 = .ok (.putfield 9, 3) := by decide +kernel
theorem dX3_clear_5 : decode cX3_clear 5 = .ok (.aload_n 0, 1) := by decide +kernel
theorem dX3_clear_6 : decode cX3_clear 6 = .ok (.iconst 0, 1) := by decide +kernel
theorem dX3_clear_7 : decode cX3_clear 7 = .ok (.putfield 15, 3) := by decide +kernel
theorem dX3_clear_10 : decode cX3_clear 10 = .ok (.aload_n 0, 1) := by decide +kernel
theorem dX3_clear_11 : decode cX3_clear 11 = .ok (.lconst 0, 1) := by decide +kernel
theorem dX3_clear_12 : decode cX3_clear 12 = .ok (.putfield 18, 3) := by decide +kernel
theorem dX3_clear_15 : decode cX3_clear 15 = .ok (.aload_n 0, 1) := by decide +kernel
theorem dX3_clear_16 : decode cX3_clear 16 = .ok (.lconst 0, 1) := by decide +kernel
theorem dX3_clear_17 : decode cX3_clear 17 = .ok (.putfield 22, 3) := by decide +kernel
theorem dX3_clear_20 : decode cX3_clear 20 = .ok (.aload_n 0, 1) := by decide +kernel
theorem dX3_clear_21 : decode cX3_clear 21 = .ok (.lconst 0, 1) := by decide +kernel
theorem dX3_clear_22 : decode cX3_clear 22 = .ok (.putfield 25, 3) := by decide +kernel
theorem dX3_clear_25 : decode cX3_clear 25 = .ok (.aload_n 0, 1) := by decide +kernel
theorem dX3_clear_26 : decode cX3_clear 26 = .ok (.lconst 0, 1) := by decide +kernel
theorem dX3_clear_27 : decode cX3_clear 27 = .ok (.putfield 28, 3) := by decide +kernel
theorem dX3_clear_30 : decode cX3_clear 30 = .ok (.aload_n 0, 1) := by decide +kernel
theorem dX3_clear_31 : decode cX3_clear 31 = .ok (.iconst 0, 1) := by decide +kernel
theorem dX3_clear_32 : decode cX3_clear 32 = .ok (.putfield 31, 3) := by decide +kernel
theorem dX3_clear_35 : decode cX3_clear 35 = .ok (.aload_n 0, 1) := by decide +kernel
theorem dX3_clear_36 : decode cX3_clear 36 = .ok (.iconst 0, 1) := by decide +kernel
theorem dX3_clear_37 : decode cX3_clear 37 = .ok (.putfield 34, 3) := by decide +kernel
theorem dX3_clear_40 : decode cX3_clear 40 = .ok (.return_, 1) := by decide +kernel
theorem dX3_takes_0 : decode cX3_takes 0 = .ok (.aload_n 0, 1) := by decide +kernel
theorem dX3_takes_1 : decode cX3_takes 1 = .ok (.getfield 34, 3) := by decide +kernel
theorem dX3_takes_4 : decode cX3_takes 4 = .ok (.bipush 8, 2) := by decide +kernel
theorem dX3_takes_6 : decode cX3_takes 6 = .ok (.if_icmp .lt 5, 3) := by decide +kernel
theorem dX3_takes_9 : decode cX3_takes 9 = .ok (.iconst 0, 1) := by decide +kernel
theorem dX3_takes_10 : decode cX3_takes 10 = .ok (.ireturn, 1) := by decide +kernel
theorem dX3_takes_11 : decode cX3_takes 11 = .ok (.aload_n 0, 1) := by decide +kernel
theorem dX3_takes_12 : decode cX3_takes 12 = .ok (.aload_n 0, 1) := by decide +kernel
theorem dX3_takes_13 : decode cX3_takes 13 = .ok (.getfield 34, 3) := by decide +kernel
theorem dX3_takes_16 : decode cX3_takes 16 = .ok (.iconst 1, 1) := by decide +kernel
theorem dX3_takes_17 : decode cX3_takes 17 = .ok (.iadd, 1) := by decide +kernel
theorem dX3_takes_18 : decode cX3_takes 18 = .ok (.putfield 15, 3) := by decide +kernel
theorem dX3_takes_21 : decode cX3_takes 21 = .ok (.iload_n 1, 1) := by decide +kernel
theorem dX3_takes_22 : decode cX3_takes 22 = .ok (.bipush 10, 2) := by decide +kernel
theorem dX3_takes_24 : decode cX3_takes 24 = .ok (.if_icmp .eq 9, 3) := by decide +kernel
theorem dX3_takes_27 : decode cX3_takes 27 = .ok (.iload_n 1, 1) := by decide +kernel
theorem dX3_takes_28 : decode cX3_takes 28 = .ok (.bipush 124, 2) := by decide +kernel
theorem dX3_takes_30 : decode cX3_takes 30 = .ok (.if_icmp .ne 20, 3) := by decide +kernel
theorem dX3_takes_33 : decode cX3_takes 33 = .ok (.aload_n 0, 1) := by decide +kernel
theorem dX3_takes_34 : decode cX3_takes 34 = .ok (.dup, 1) := by decide +kernel
theorem dX3_takes_35 : decode cX3_takes 35 = .ok (.getfield 34, 3) := by decide +kernel
theorem dX3_takes_38 : decode cX3_takes 38 = .ok (.iconst 1, 1) := by decide +kernel
theorem dX3_takes_39 : decode cX3_takes 39 = .ok (.iadd, 1) := by decide +kernel
theorem dX3_takes_40 : decode cX3_takes 40 = .ok (.putfield 34, 3) := by decide +kernel
theorem dX3_takes_43 : decode cX3_takes 43 = .ok (.aload_n 0, 1) := by decide +kernel
theorem dX3_takes_44 : decode cX3_takes 44 = .ok (.iconst 0, 1) := by decide +kernel
theorem dX3_takes_45 : decode cX3_takes 45 = .ok (.putfield 31, 3) := by decide +kernel
theorem dX3_takes_48 : decode cX3_takes 48 = .ok (.iconst 1, 1) := by decide +kernel
theorem dX3_takes_49 : decode cX3_takes 49 = .ok (.ireturn, 1) := by decide +kernel
theorem dX3_takes_50 : decode cX3_takes 50 = .ok (.aload_n 0, 1) := by decide +kernel
theorem dX3_takes_51 : decode cX3_takes 51 = .ok (.getfield 31, 3) := by decide +kernel
theorem dX3_takes_54 : decode cX3_takes 54 = .ok (.bipush 8, 2) := by decide +kernel
theorem dX3_takes_56 : decode cX3_takes 56 = .ok (.if_icmp .ge 22, 3) := by decide +kernel
theorem dX3_takes_59 : decode cX3_takes 59 = .ok (.aload_n 0, 1) := by decide +kernel
theorem dX3_takes_60 : decode cX3_takes 60 = .ok (.iload_n 1, 1) := by decide +kernel
theorem dX3_takes_61 : decode cX3_takes 61 = .ok (.aload_n 0, 1) := by decide +kernel
theorem dX3_takes_62 : decode cX3_takes 62 = .ok (.getfield 31, 3) := by decide +kernel
theorem dX3_takes_65 : decode cX3_takes 65 = .ok (.aload_n 0, 1) := by decide +kernel
theorem dX3_takes_66 : decode cX3_takes 66 = .ok (.getfield 34, 3) := by decide +kernel
theorem dX3_takes_69 : decode cX3_takes 69 = .ok (.invokestatic 37, 3) := by decide +kernel
theorem dX3_takes_72 : decode cX3_takes 72 = .ok (.invokevirtual 41, 3) := by decide +kernel
theorem dX3_takes_75 : decode cX3_takes 75 = .ok (.ifCond .ne 5, 3) := by decide +kernel
theorem dX3_takes_78 : decode cX3_takes 78 = .ok (.iconst 0, 1) := by decide +kernel
theorem dX3_takes_79 : decode cX3_takes 79 = .ok (.ireturn, 1) := by decide +kernel
theorem dX3_takes_80 : decode cX3_takes 80 = .ok (.aload_n 0, 1) := by decide +kernel
theorem dX3_takes_81 : decode cX3_takes 81 = .ok (.dup, 1) := by decide +kernel
theorem dX3_takes_82 : decode cX3_takes 82 = .ok (.getfield 31, 3) := by decide +kernel
theorem dX3_takes_85 : decode cX3_takes 85 = .ok (.iconst 1, 1) := by decide +kernel
theorem dX3_takes_86 : decode cX3_takes 86 = .ok (.iadd, 1) := by decide +kernel
theorem dX3_takes_87 : decode cX3_takes 87 = .ok (.putfield 31, 3) := by decide +kernel
theorem dX3_takes_90 : decode cX3_takes 90 = .ok (.aload_n 0, 1) := by decide +kernel
theorem dX3_takes_91 : decode cX3_takes 91 = .ok (.aload_n 0, 1) := by decide +kernel
theorem dX3_takes_92 : decode cX3_takes 92 = .ok (.getfield 9, 3) := by decide +kernel
theorem dX3_takes_95 : decode cX3_takes 95 = .ok (.aload_n 0, 1) := by decide +kernel
theorem dX3_takes_96 : decode cX3_takes 96 = .ok (.getfield 31, 3) := by decide +kernel
theorem dX3_takes_99 : decode cX3_takes 99 = .ok (.invokestatic 45, 3) := by decide +kernel
theorem dX3_takes_102 : decode cX3_takes 102 = .ok (.putfield 9, 3) := by decide +kernel
theorem dX3_takes_105 : decode cX3_takes 105 = .ok (.iconst 1, 1) := by decide +kernel
theorem dX3_takes_106 : decode cX3_takes 106 = .ok (.ireturn, 1) := by decide +kernel
theorem dX3_isBoard_0 : decode cX3_isBoard 0 = .ok (.aload_n 0, 1) := by decide +kernel
theorem dX3_isBoard_1 : decode cX3_isBoard 1 = .ok (.getfield 28, 3) := by decide +kernel
theorem dX3_isBoard_4 : decode cX3_isBoard 4 = .ok (.lconst 0, 1) := by decide +kernel
theorem dX3_isBoard_5 : decode cX3_isBoard 5 = .ok (.lcmp, 1) := by decide +kernel
theorem dX3_isBoard_6 : decode cX3_isBoard 6 = .ok (.ifCond .eq 24, 3) := by decide +kernel
theorem dX3_isBoard_9 : decode cX3_isBoard 9 = .ok (.aload_n 0, 1) := by decide +kernel
theorem dX3_isBoard_10 : decode cX3_isBoard 10 = .ok (.getfield 25, 3) := by decide +kernel
theorem dX3_isBoard_13 : decode cX3_isBoard 13 = .ok (.invokestatic 51, 3) := by decide +kernel
theorem dX3_isBoard_16 : decode cX3_isBoard 16 = .ok (.aload_n 0, 1) := by decide +kernel
theorem dX3_isBoard_17 : decode cX3_isBoard 17 = .ok (.getfield 22, 3) := by decide +kernel
theorem dX3_isBoard_20 : decode cX3_isBoard 20 = .ok (.invokestatic 51, 3) := by decide +kernel
theorem dX3_isBoard_23 : decode cX3_isBoard 23 = .ok (.if_icmp .lt 7, 3) := by decide +kernel
theorem dX3_isBoard_26 : decode cX3_isBoard 26 = .ok (.iconst 1, 1) := by decide +kernel
theorem dX3_isBoard_27 : decode cX3_isBoard 27 = .ok (.goto 4, 3) := by decide +kernel
theorem dX3_isBoard_30 : decode cX3_isBoard 30 = .ok (.iconst 0, 1) := by decide +kernel
theorem dX3_isBoard_31 : decode cX3_isBoard 31 = .ok (.ireturn, 1) := by decide +kernel
theorem dX3_takesSign_0 : decode cX3_takesSign 0 = .ok (.iload_n 1, 1) := by decide +kernel
theorem dX3_takesSign_1 : decode cX3_takesSign 1 = .ok (.lookupswitch 151 #[(32, 87), (35, 75), (36, 95), (42, 101), (43, 129), (46, 89), (64, 123), (95, 87)], 75) := by decide +kernel
theorem dX3_takesSign_76 : decode cX3_takesSign 76 = .ok (.aload_n 0, 1) := by decide +kernel
theorem dX3_takesSign_77 : decode cX3_takesSign 77 = .ok (.dup, 1) := by decide +kernel
theorem dX3_takesSign_78 : decode cX3_takesSign 78 = .ok (.getfield 18, 3) := by decide +kernel
theorem dX3_takesSign_81 : decode cX3_takesSign 81 = .ok (.lload_n 2, 1) := by decide +kernel
theorem dX3_takesSign_82 : decode cX3_takesSign 82 = .ok (.lor, 1) := by decide +kernel
theorem dX3_takesSign_83 : decode cX3_takesSign 83 = .ok (.putfield 18, 3) := by decide +kernel
theorem dX3_takesSign_86 : decode cX3_takesSign 86 = .ok (.iconst 1, 1) := by decide +kernel
theorem dX3_takesSign_87 : decode cX3_takesSign 87 = .ok (.ireturn, 1) := by decide +kernel
theorem dX3_takesSign_88 : decode cX3_takesSign 88 = .ok (.iconst 1, 1) := by decide +kernel
theorem dX3_takesSign_89 : decode cX3_takesSign 89 = .ok (.ireturn, 1) := by decide +kernel
theorem dX3_takesSign_90 : decode cX3_takesSign 90 = .ok (.aload_n 0, 1) := by decide +kernel
theorem dX3_takesSign_91 : decode cX3_takesSign 91 = .ok (.lload_n 2, 1) := by decide +kernel
theorem dX3_takesSign_92 : decode cX3_takesSign 92 = .ok (.invokevirtual 57, 3) := by decide +kernel
theorem dX3_takesSign_95 : decode cX3_takesSign 95 = .ok (.ireturn, 1) := by decide +kernel
theorem dX3_takesSign_96 : decode cX3_takesSign 96 = .ok (.aload_n 0, 1) := by decide +kernel
theorem dX3_takesSign_97 : decode cX3_takesSign 97 = .ok (.lload_n 2, 1) := by decide +kernel
theorem dX3_takesSign_98 : decode cX3_takesSign 98 = .ok (.invokevirtual 61, 3) := by decide +kernel
theorem dX3_takesSign_101 : decode cX3_takesSign 101 = .ok (.ireturn, 1) := by decide +kernel
theorem dX3_takesSign_102 : decode cX3_takesSign 102 = .ok (.aload_n 0, 1) := by decide +kernel
theorem dX3_takesSign_103 : decode cX3_takesSign 103 = .ok (.lload_n 2, 1) := by decide +kernel
theorem dX3_takesSign_104 : decode cX3_takesSign 104 = .ok (.invokevirtual 57, 3) := by decide +kernel
theorem dX3_takesSign_107 : decode cX3_takesSign 107 = .ok (.ifCond .eq 15, 3) := by decide +kernel
theorem dX3_takesSign_110 : decode cX3_takesSign 110 = .ok (.aload_n 0, 1) := by decide +kernel
theorem dX3_takesSign_111 : decode cX3_takesSign 111 = .ok (.lload_n 2, 1) := by decide +kernel
theorem dX3_takesSign_112 : decode cX3_takesSign 112 = .ok (.invokevirtual 61, 3) := by decide +kernel
theorem dX3_takesSign_115 : decode cX3_takesSign 115 = .ok (.ifCond .eq 7, 3) := by decide +kernel
theorem dX3_takesSign_118 : decode cX3_takesSign 118 = .ok (.iconst 1, 1) := by decide +kernel
theorem dX3_takesSign_119 : decode cX3_takesSign 119 = .ok (.goto 4, 3) := by decide +kernel
theorem dX3_takesSign_122 : decode cX3_takesSign 122 = .ok (.iconst 0, 1) := by decide +kernel
theorem dX3_takesSign_123 : decode cX3_takesSign 123 = .ok (.ireturn, 1) := by decide +kernel
theorem dX3_takesSign_124 : decode cX3_takesSign 124 = .ok (.aload_n 0, 1) := by decide +kernel
theorem dX3_takesSign_125 : decode cX3_takesSign 125 = .ok (.lload_n 2, 1) := by decide +kernel
theorem dX3_takesSign_126 : decode cX3_takesSign 126 = .ok (.invokevirtual 64, 3) := by decide +kernel
theorem dX3_takesSign_129 : decode cX3_takesSign 129 = .ok (.ireturn, 1) := by decide +kernel
theorem dX3_takesSign_130 : decode cX3_takesSign 130 = .ok (.aload_n 0, 1) := by decide +kernel
theorem dX3_takesSign_131 : decode cX3_takesSign 131 = .ok (.lload_n 2, 1) := by decide +kernel
theorem dX3_takesSign_132 : decode cX3_takesSign 132 = .ok (.invokevirtual 57, 3) := by decide +kernel
theorem dX3_takesSign_135 : decode cX3_takesSign 135 = .ok (.ifCond .eq 15, 3) := by decide +kernel
theorem dX3_takesSign_138 : decode cX3_takesSign 138 = .ok (.aload_n 0, 1) := by decide +kernel
theorem dX3_takesSign_139 : decode cX3_takesSign 139 = .ok (.lload_n 2, 1) := by decide +kernel
theorem dX3_takesSign_140 : decode cX3_takesSign 140 = .ok (.invokevirtual 64, 3) := by decide +kernel
theorem dX3_takesSign_143 : decode cX3_takesSign 143 = .ok (.ifCond .eq 7, 3) := by decide +kernel
theorem dX3_takesSign_146 : decode cX3_takesSign 146 = .ok (.iconst 1, 1) := by decide +kernel
theorem dX3_takesSign_147 : decode cX3_takesSign 147 = .ok (.goto 4, 3) := by decide +kernel
theorem dX3_takesSign_150 : decode cX3_takesSign 150 = .ok (.iconst 0, 1) := by decide +kernel
theorem dX3_takesSign_151 : decode cX3_takesSign 151 = .ok (.ireturn, 1) := by decide +kernel
theorem dX3_takesSign_152 : decode cX3_takesSign 152 = .ok (.iconst 0, 1) := by decide +kernel
theorem dX3_takesSign_153 : decode cX3_takesSign 153 = .ok (.ireturn, 1) := by decide +kernel
theorem dX3_takesGoal_0 : decode cX3_takesGoal 0 = .ok (.aload_n 0, 1) := by decide +kernel
theorem dX3_takesGoal_1 : decode cX3_takesGoal 1 = .ok (.dup, 1) := by decide +kernel
theorem dX3_takesGoal_2 : decode cX3_takesGoal 2 = .ok (.getfield 22, 3) := by decide +kernel
theorem dX3_takesGoal_5 : decode cX3_takesGoal 5 = .ok (.lload_n 1, 1) := by decide +kernel
theorem dX3_takesGoal_6 : decode cX3_takesGoal 6 = .ok (.lor, 1) := by decide +kernel
theorem dX3_takesGoal_7 : decode cX3_takesGoal 7 = .ok (.putfield 22, 3) := by decide +kernel
theorem dX3_takesGoal_10 : decode cX3_takesGoal 10 = .ok (.aload_n 0, 1) := by decide +kernel
theorem dX3_takesGoal_11 : decode cX3_takesGoal 11 = .ok (.getfield 22, 3) := by decide +kernel
theorem dX3_takesGoal_14 : decode cX3_takesGoal 14 = .ok (.invokestatic 51, 3) := by decide +kernel
theorem dX3_takesGoal_17 : decode cX3_takesGoal 17 = .ok (.bipush 12, 2) := by decide +kernel
theorem dX3_takesGoal_19 : decode cX3_takesGoal 19 = .ok (.if_icmp .gt 7, 3) := by decide +kernel
theorem dX3_takesGoal_22 : decode cX3_takesGoal 22 = .ok (.iconst 1, 1) := by decide +kernel
theorem dX3_takesGoal_23 : decode cX3_takesGoal 23 = .ok (.goto 4, 3) := by decide +kernel
theorem dX3_takesGoal_26 : decode cX3_takesGoal 26 = .ok (.iconst 0, 1) := by decide +kernel
theorem dX3_takesGoal_27 : decode cX3_takesGoal 27 = .ok (.ireturn, 1) := by decide +kernel
theorem dX3_takesBox_0 : decode cX3_takesBox 0 = .ok (.aload_n 0, 1) := by decide +kernel
theorem dX3_takesBox_1 : decode cX3_takesBox 1 = .ok (.dup, 1) := by decide +kernel
theorem dX3_takesBox_2 : decode cX3_takesBox 2 = .ok (.getfield 25, 3) := by decide +kernel
theorem dX3_takesBox_5 : decode cX3_takesBox 5 = .ok (.lload_n 1, 1) := by decide +kernel
theorem dX3_takesBox_6 : decode cX3_takesBox 6 = .ok (.lor, 1) := by decide +kernel
theorem dX3_takesBox_7 : decode cX3_takesBox 7 = .ok (.putfield 25, 3) := by decide +kernel
theorem dX3_takesBox_10 : decode cX3_takesBox 10 = .ok (.aload_n 0, 1) := by decide +kernel
theorem dX3_takesBox_11 : decode cX3_takesBox 11 = .ok (.getfield 25, 3) := by decide +kernel
theorem dX3_takesBox_14 : decode cX3_takesBox 14 = .ok (.invokestatic 51, 3) := by decide +kernel
theorem dX3_takesBox_17 : decode cX3_takesBox 17 = .ok (.bipush 12, 2) := by decide +kernel
theorem dX3_takesBox_19 : decode cX3_takesBox 19 = .ok (.if_icmp .gt 7, 3) := by decide +kernel
theorem dX3_takesBox_22 : decode cX3_takesBox 22 = .ok (.iconst 1, 1) := by decide +kernel
theorem dX3_takesBox_23 : decode cX3_takesBox 23 = .ok (.goto 4, 3) := by decide +kernel
theorem dX3_takesBox_26 : decode cX3_takesBox 26 = .ok (.iconst 0, 1) := by decide +kernel
theorem dX3_takesBox_27 : decode cX3_takesBox 27 = .ok (.ireturn, 1) := by decide +kernel
theorem dX3_takesPerson_0 : decode cX3_takesPerson 0 = .ok (.aload_n 0, 1) := by decide +kernel
theorem dX3_takesPerson_1 : decode cX3_takesPerson 1 = .ok (.getfield 28, 3) := by decide +kernel
theorem dX3_takesPerson_4 : decode cX3_takesPerson 4 = .ok (.lconst 0, 1) := by decide +kernel
theorem dX3_takesPerson_5 : decode cX3_takesPerson 5 = .ok (.lcmp, 1) := by decide +kernel
theorem dX3_takesPerson_6 : decode cX3_takesPerson 6 = .ok (.ifCond .ne 7, 3) := by decide +kernel
theorem dX3_takesPerson_9 : decode cX3_takesPerson 9 = .ok (.iconst 1, 1) := by decide +kernel
theorem dX3_takesPerson_10 : decode cX3_takesPerson 10 = .ok (.goto 4, 3) := by decide +kernel
theorem dX3_takesPerson_13 : decode cX3_takesPerson 13 = .ok (.iconst 0, 1) := by decide +kernel
theorem dX3_takesPerson_14 : decode cX3_takesPerson 14 = .ok (.istore_n 3, 1) := by decide +kernel
theorem dX3_takesPerson_15 : decode cX3_takesPerson 15 = .ok (.aload_n 0, 1) := by decide +kernel
theorem dX3_takesPerson_16 : decode cX3_takesPerson 16 = .ok (.dup, 1) := by decide +kernel
theorem dX3_takesPerson_17 : decode cX3_takesPerson 17 = .ok (.getfield 28, 3) := by decide +kernel
theorem dX3_takesPerson_20 : decode cX3_takesPerson 20 = .ok (.lload_n 1, 1) := by decide +kernel
theorem dX3_takesPerson_21 : decode cX3_takesPerson 21 = .ok (.lor, 1) := by decide +kernel
theorem dX3_takesPerson_22 : decode cX3_takesPerson 22 = .ok (.putfield 28, 3) := by decide +kernel
theorem dX3_takesPerson_25 : decode cX3_takesPerson 25 = .ok (.iload_n 3, 1) := by decide +kernel
theorem dX3_takesPerson_26 : decode cX3_takesPerson 26 = .ok (.ireturn, 1) := by decide +kernel
theorem dX0_init_0 : decode cX0_init 0 = .ok (.aload_n 0, 1) := by decide +kernel
theorem dX0_init_1 : decode cX0_init 1 = .ok (.invokespecial 3, 3) := by decide +kernel
theorem dX0_init_4 : decode cX0_init 4 = .ok (.aload_n 0, 1) := by decide +kernel
theorem dX0_init_5 : decode cX0_init 5 = .ok (.bipush 64, 2) := by decide +kernel
theorem dX0_init_7 : decode cX0_init 7 = .ok (.newarray .int, 2) := by decide +kernel
theorem dX0_init_9 : decode cX0_init 9 = .ok (.putfield 9, 3) := by decide +kernel
theorem dX0_init_12 : decode cX0_init 12 = .ok (.return_, 1) := by decide +kernel
theorem dX0_setUp_0 : decode cX0_setUp 0 = .ok (.aload_n 0, 1) := by decide +kernel
theorem dX0_setUp_1 : decode cX0_setUp 1 = .ok (.aload_n 1, 1) := by decide +kernel
theorem dX0_setUp_2 : decode cX0_setUp 2 = .ok (.getfield 15, 3) := by decide +kernel
theorem dX0_setUp_5 : decode cX0_setUp 5 = .ok (.putfield 21, 3) := by decide +kernel
theorem dX0_setUp_8 : decode cX0_setUp 8 = .ok (.aload_n 0, 1) := by decide +kernel
theorem dX0_setUp_9 : decode cX0_setUp 9 = .ok (.aload_n 1, 1) := by decide +kernel
theorem dX0_setUp_10 : decode cX0_setUp 10 = .ok (.getfield 22, 3) := by decide +kernel
theorem dX0_setUp_13 : decode cX0_setUp 13 = .ok (.putfield 25, 3) := by decide +kernel
theorem dX0_setUp_16 : decode cX0_setUp 16 = .ok (.aload_n 0, 1) := by decide +kernel
theorem dX0_setUp_17 : decode cX0_setUp 17 = .ok (.aload_n 0, 1) := by decide +kernel
theorem dX0_setUp_18 : decode cX0_setUp 18 = .ok (.getfield 21, 3) := by decide +kernel
theorem dX0_setUp_21 : decode cX0_setUp 21 = .ok (.aload_n 0, 1) := by decide +kernel
theorem dX0_setUp_22 : decode cX0_setUp 22 = .ok (.getfield 25, 3) := by decide +kernel
theorem dX0_setUp_25 : decode cX0_setUp 25 = .ok (.invokestatic 26, 3) := by decide +kernel
theorem dX0_setUp_28 : decode cX0_setUp 28 = .ok (.aload_n 1, 1) := by decide +kernel
theorem dX0_setUp_29 : decode cX0_setUp 29 = .ok (.getfield 30, 3) := by decide +kernel
theorem dX0_setUp_32 : decode cX0_setUp 32 = .ok (.ldc2_w 34, 3) := by decide +kernel
theorem dX0_setUp_35 : decode cX0_setUp 35 = .ok (.lxor, 1) := by decide +kernel
theorem dX0_setUp_36 : decode cX0_setUp 36 = .ok (.land, 1) := by decide +kernel
theorem dX0_setUp_37 : decode cX0_setUp 37 = .ok (.putfield 36, 3) := by decide +kernel
theorem dX0_setUp_40 : decode cX0_setUp 40 = .ok (.aload_n 0, 1) := by decide +kernel
theorem dX0_setUp_41 : decode cX0_setUp 41 = .ok (.aload_n 1, 1) := by decide +kernel
theorem dX0_setUp_42 : decode cX0_setUp 42 = .ok (.getfield 39, 3) := by decide +kernel
theorem dX0_setUp_45 : decode cX0_setUp 45 = .ok (.putfield 42, 3) := by decide +kernel
theorem dX0_setUp_48 : decode cX0_setUp 48 = .ok (.aload_n 0, 1) := by decide +kernel
theorem dX0_setUp_49 : decode cX0_setUp 49 = .ok (.aload_n 1, 1) := by decide +kernel
theorem dX0_setUp_50 : decode cX0_setUp 50 = .ok (.getfield 43, 3) := by decide +kernel
theorem dX0_setUp_53 : decode cX0_setUp 53 = .ok (.putfield 46, 3) := by decide +kernel
theorem dX0_setUp_56 : decode cX0_setUp 56 = .ok (.aload_n 0, 1) := by decide +kernel
theorem dX0_setUp_57 : decode cX0_setUp 57 = .ok (.aload_n 1, 1) := by decide +kernel
theorem dX0_setUp_58 : decode cX0_setUp 58 = .ok (.getfield 47, 3) := by decide +kernel
theorem dX0_setUp_61 : decode cX0_setUp 61 = .ok (.putfield 50, 3) := by decide +kernel
theorem dX0_setUp_64 : decode cX0_setUp 64 = .ok (.aload_n 0, 1) := by decide +kernel
theorem dX0_setUp_65 : decode cX0_setUp 65 = .ok (.aload_n 0, 1) := by decide +kernel
theorem dX0_setUp_66 : decode cX0_setUp 66 = .ok (.invokevirtual 51, 3) := by decide +kernel
theorem dX0_setUp_69 : decode cX0_setUp 69 = .ok (.putfield 55, 3) := by decide +kernel
theorem dX0_setUp_72 : decode cX0_setUp 72 = .ok (.aload_n 0, 1) := by decide +kernel
theorem dX0_setUp_73 : decode cX0_setUp 73 = .ok (.aload_n 0, 1) := by decide +kernel
theorem dX0_setUp_74 : decode cX0_setUp 74 = .ok (.getfield 55, 3) := by decide +kernel
theorem dX0_setUp_77 : decode cX0_setUp 77 = .ok (.iconst 0, 1) := by decide +kernel
theorem dX0_setUp_78 : decode cX0_setUp 78 = .ok (.invokestatic 58, 3) := by decide +kernel
theorem dX0_setUp_81 : decode cX0_setUp 81 = .ok (.aload_n 0, 1) := by decide +kernel
theorem dX0_setUp_82 : decode cX0_setUp 82 = .ok (.getfield 55, 3) := by decide +kernel
theorem dX0_setUp_85 : decode cX0_setUp 85 = .ok (.iconst 2, 1) := by decide +kernel
theorem dX0_setUp_86 : decode cX0_setUp 86 = .ok (.invokestatic 58, 3) := by decide +kernel
theorem dX0_setUp_89 : decode cX0_setUp 89 = .ok (.lor, 1) := by decide +kernel
theorem dX0_setUp_90 : decode cX0_setUp 90 = .ok (.putfield 62, 3) := by decide +kernel
theorem dX0_setUp_93 : decode cX0_setUp 93 = .ok (.aload_n 0, 1) := by decide +kernel
theorem dX0_setUp_94 : decode cX0_setUp 94 = .ok (.aload_n 0, 1) := by decide +kernel
theorem dX0_setUp_95 : decode cX0_setUp 95 = .ok (.getfield 55, 3) := by decide +kernel
theorem dX0_setUp_98 : decode cX0_setUp 98 = .ok (.iconst 1, 1) := by decide +kernel
theorem dX0_setUp_99 : decode cX0_setUp 99 = .ok (.invokestatic 58, 3) := by decide +kernel
theorem dX0_setUp_102 : decode cX0_setUp 102 = .ok (.aload_n 0, 1) := by decide +kernel
theorem dX0_setUp_103 : decode cX0_setUp 103 = .ok (.getfield 55, 3) := by decide +kernel
theorem dX0_setUp_106 : decode cX0_setUp 106 = .ok (.iconst 3, 1) := by decide +kernel
theorem dX0_setUp_107 : decode cX0_setUp 107 = .ok (.invokestatic 58, 3) := by decide +kernel
theorem dX0_setUp_110 : decode cX0_setUp 110 = .ok (.lor, 1) := by decide +kernel
theorem dX0_setUp_111 : decode cX0_setUp 111 = .ok (.putfield 65, 3) := by decide +kernel
theorem dX0_setUp_114 : decode cX0_setUp 114 = .ok (.return_, 1) := by decide +kernel
theorem dX0_isThere_0 : decode cX0_isThere 0 = .ok (.aload_n 0, 1) := by decide +kernel
theorem dX0_isThere_1 : decode cX0_isThere 1 = .ok (.getfield 50, 3) := by decide +kernel
theorem dX0_isThere_4 : decode cX0_isThere 4 = .ok (.lconst 0, 1) := by decide +kernel
theorem dX0_isThere_5 : decode cX0_isThere 5 = .ok (.lcmp, 1) := by decide +kernel
theorem dX0_isThere_6 : decode cX0_isThere 6 = .ok (.ifCond .eq 7, 3) := by decide +kernel
theorem dX0_isThere_9 : decode cX0_isThere 9 = .ok (.iconst 1, 1) := by decide +kernel
theorem dX0_isThere_10 : decode cX0_isThere 10 = .ok (.goto 4, 3) := by decide +kernel
theorem dX0_isThere_13 : decode cX0_isThere 13 = .ok (.iconst 0, 1) := by decide +kernel
theorem dX0_isThere_14 : decode cX0_isThere 14 = .ok (.ireturn, 1) := by decide +kernel
theorem dX0_isDone_0 : decode cX0_isDone 0 = .ok (.aload_n 0, 1) := by decide +kernel
theorem dX0_isDone_1 : decode cX0_isDone 1 = .ok (.getfield 42, 3) := by decide +kernel
theorem dX0_isDone_4 : decode cX0_isDone 4 = .ok (.lload_n 1, 1) := by decide +kernel
theorem dX0_isDone_5 : decode cX0_isDone 5 = .ok (.ldc2_w 34, 3) := by decide +kernel
theorem dX0_isDone_8 : decode cX0_isDone 8 = .ok (.lxor, 1) := by decide +kernel
theorem dX0_isDone_9 : decode cX0_isDone 9 = .ok (.land, 1) := by decide +kernel
theorem dX0_isDone_10 : decode cX0_isDone 10 = .ok (.lconst 0, 1) := by decide +kernel
theorem dX0_isDone_11 : decode cX0_isDone 11 = .ok (.lcmp, 1) := by decide +kernel
theorem dX0_isDone_12 : decode cX0_isDone 12 = .ok (.ifCond .ne 7, 3) := by decide +kernel
theorem dX0_isDone_15 : decode cX0_isDone 15 = .ok (.iconst 1, 1) := by decide +kernel
theorem dX0_isDone_16 : decode cX0_isDone 16 = .ok (.goto 4, 3) := by decide +kernel
theorem dX0_isDone_19 : decode cX0_isDone 19 = .ok (.iconst 0, 1) := by decide +kernel
theorem dX0_isDone_20 : decode cX0_isDone 20 = .ok (.ireturn, 1) := by decide +kernel
theorem dX0_cellOf_0 : decode cX0_cellOf 0 = .ok (.lload_n 1, 1) := by decide +kernel
theorem dX0_cellOf_1 : decode cX0_cellOf 1 = .ok (.invokestatic 68, 3) := by decide +kernel
theorem dX0_cellOf_4 : decode cX0_cellOf 4 = .ok (.istore_n 3, 1) := by decide +kernel
theorem dX0_cellOf_5 : decode cX0_cellOf 5 = .ok (.aload_n 0, 1) := by decide +kernel
theorem dX0_cellOf_6 : decode cX0_cellOf 6 = .ok (.getfield 21, 3) := by decide +kernel
theorem dX0_cellOf_9 : decode cX0_cellOf 9 = .ok (.iload_n 3, 1) := by decide +kernel
theorem dX0_cellOf_10 : decode cX0_cellOf 10 = .ok (.bipush 8, 2) := by decide +kernel
theorem dX0_cellOf_12 : decode cX0_cellOf 12 = .ok (.idiv, 1) := by decide +kernel
theorem dX0_cellOf_13 : decode cX0_cellOf 13 = .ok (.imul, 1) := by decide +kernel
theorem dX0_cellOf_14 : decode cX0_cellOf 14 = .ok (.iload_n 3, 1) := by decide +kernel
theorem dX0_cellOf_15 : decode cX0_cellOf 15 = .ok (.bipush 8, 2) := by decide +kernel
theorem dX0_cellOf_17 : decode cX0_cellOf 17 = .ok (.irem, 1) := by decide +kernel
theorem dX0_cellOf_18 : decode cX0_cellOf 18 = .ok (.iadd, 1) := by decide +kernel
theorem dX0_cellOf_19 : decode cX0_cellOf 19 = .ok (.ireturn, 1) := by decide +kernel
theorem dX0_signAt_0 : decode cX0_signAt 0 = .ok (.lload_n 1, 1) := by decide +kernel
theorem dX0_signAt_1 : decode cX0_signAt 1 = .ok (.aload_n 0, 1) := by decide +kernel
theorem dX0_signAt_2 : decode cX0_signAt 2 = .ok (.getfield 42, 3) := by decide +kernel
theorem dX0_signAt_5 : decode cX0_signAt 5 = .ok (.land, 1) := by decide +kernel
theorem dX0_signAt_6 : decode cX0_signAt 6 = .ok (.lconst 0, 1) := by decide +kernel
theorem dX0_signAt_7 : decode cX0_signAt 7 = .ok (.lcmp, 1) := by decide +kernel
theorem dX0_signAt_8 : decode cX0_signAt 8 = .ok (.ifCond .eq 7, 3) := by decide +kernel
theorem dX0_signAt_11 : decode cX0_signAt 11 = .ok (.iconst 1, 1) := by decide +kernel
theorem dX0_signAt_12 : decode cX0_signAt 12 = .ok (.goto 4, 3) := by decide +kernel
theorem dX0_signAt_15 : decode cX0_signAt 15 = .ok (.iconst 0, 1) := by decide +kernel
theorem dX0_signAt_16 : decode cX0_signAt 16 = .ok (.istore_n 3, 1) := by decide +kernel
theorem dX0_signAt_17 : decode cX0_signAt 17 = .ok (.lload_n 1, 1) := by decide +kernel
theorem dX0_signAt_18 : decode cX0_signAt 18 = .ok (.aload_n 0, 1) := by decide +kernel
theorem dX0_signAt_19 : decode cX0_signAt 19 = .ok (.getfield 36, 3) := by decide +kernel
theorem dX0_signAt_22 : decode cX0_signAt 22 = .ok (.land, 1) := by decide +kernel
theorem dX0_signAt_23 : decode cX0_signAt 23 = .ok (.lconst 0, 1) := by decide +kernel
theorem dX0_signAt_24 : decode cX0_signAt 24 = .ok (.lcmp, 1) := by decide +kernel
theorem dX0_signAt_25 : decode cX0_signAt 25 = .ok (.ifCond .ne 6, 3) := by decide +kernel
theorem dX0_signAt_28 : decode cX0_signAt 28 = .ok (.bipush 35, 2) := by decide +kernel
theorem dX0_signAt_30 : decode cX0_signAt 30 = .ok (.ireturn, 1) := by decide +kernel
theorem dX0_signAt_31 : decode cX0_signAt 31 = .ok (.lload_n 1, 1) := by decide +kernel
theorem dX0_signAt_32 : decode cX0_signAt 32 = .ok (.aload_n 0, 1) := by decide +kernel
theorem dX0_signAt_33 : decode cX0_signAt 33 = .ok (.getfield 46, 3) := by decide +kernel
theorem dX0_signAt_36 : decode cX0_signAt 36 = .ok (.land, 1) := by decide +kernel
theorem dX0_signAt_37 : decode cX0_signAt 37 = .ok (.lconst 0, 1) := by decide +kernel
theorem dX0_signAt_38 : decode cX0_signAt 38 = .ok (.lcmp, 1) := by decide +kernel
theorem dX0_signAt_39 : decode cX0_signAt 39 = .ok (.ifCond .eq 15, 3) := by decide +kernel
theorem dX0_signAt_42 : decode cX0_signAt 42 = .ok (.iload_n 3, 1) := by decide +kernel
theorem dX0_signAt_43 : decode cX0_signAt 43 = .ok (.ifCond .eq 8, 3) := by decide +kernel
theorem dX0_signAt_46 : decode cX0_signAt 46 = .ok (.bipush 42, 2) := by decide +kernel
theorem dX0_signAt_48 : decode cX0_signAt 48 = .ok (.goto 5, 3) := by decide +kernel
theorem dX0_signAt_51 : decode cX0_signAt 51 = .ok (.bipush 36, 2) := by decide +kernel
theorem dX0_signAt_53 : decode cX0_signAt 53 = .ok (.ireturn, 1) := by decide +kernel
theorem dX0_signAt_54 : decode cX0_signAt 54 = .ok (.lload_n 1, 1) := by decide +kernel
theorem dX0_signAt_55 : decode cX0_signAt 55 = .ok (.aload_n 0, 1) := by decide +kernel
theorem dX0_signAt_56 : decode cX0_signAt 56 = .ok (.getfield 50, 3) := by decide +kernel
theorem dX0_signAt_59 : decode cX0_signAt 59 = .ok (.land, 1) := by decide +kernel
theorem dX0_signAt_60 : decode cX0_signAt 60 = .ok (.lconst 0, 1) := by decide +kernel
theorem dX0_signAt_61 : decode cX0_signAt 61 = .ok (.lcmp, 1) := by decide +kernel
theorem dX0_signAt_62 : decode cX0_signAt 62 = .ok (.ifCond .eq 15, 3) := by decide +kernel
theorem dX0_signAt_65 : decode cX0_signAt 65 = .ok (.iload_n 3, 1) := by decide +kernel
theorem dX0_signAt_66 : decode cX0_signAt 66 = .ok (.ifCond .eq 8, 3) := by decide +kernel
theorem dX0_signAt_69 : decode cX0_signAt 69 = .ok (.bipush 43, 2) := by decide +kernel
theorem dX0_signAt_71 : decode cX0_signAt 71 = .ok (.goto 5, 3) := by decide +kernel
theorem dX0_signAt_74 : decode cX0_signAt 74 = .ok (.bipush 64, 2) := by decide +kernel
theorem dX0_signAt_76 : decode cX0_signAt 76 = .ok (.ireturn, 1) := by decide +kernel
theorem dX0_signAt_77 : decode cX0_signAt 77 = .ok (.iload_n 3, 1) := by decide +kernel
theorem dX0_signAt_78 : decode cX0_signAt 78 = .ok (.ifCond .eq 8, 3) := by decide +kernel
theorem dX0_signAt_81 : decode cX0_signAt 81 = .ok (.bipush 46, 2) := by decide +kernel
theorem dX0_signAt_83 : decode cX0_signAt 83 = .ok (.goto 5, 3) := by decide +kernel
theorem dX0_signAt_86 : decode cX0_signAt 86 = .ok (.bipush 32, 2) := by decide +kernel
theorem dX0_signAt_88 : decode cX0_signAt 88 = .ok (.ireturn, 1) := by decide +kernel
theorem dX0_go_0 : decode cX0_go 0 = .ok (.aload_n 0, 1) := by decide +kernel
theorem dX0_go_1 : decode cX0_go 1 = .ok (.getfield 50, 3) := by decide +kernel
theorem dX0_go_4 : decode cX0_go 4 = .ok (.iload_n 1, 1) := by decide +kernel
theorem dX0_go_5 : decode cX0_go 5 = .ok (.invokestatic 58, 3) := by decide +kernel
theorem dX0_go_8 : decode cX0_go 8 = .ok (.aload_n 0, 1) := by decide +kernel
theorem dX0_go_9 : decode cX0_go 9 = .ok (.getfield 36, 3) := by decide +kernel
theorem dX0_go_12 : decode cX0_go 12 = .ok (.land, 1) := by decide +kernel
theorem dX0_go_13 : decode cX0_go 13 = .ok (.lstore_n 2, 1) := by decide +kernel
theorem dX0_go_14 : decode cX0_go 14 = .ok (.lload_n 2, 1) := by decide +kernel
theorem dX0_go_15 : decode cX0_go 15 = .ok (.lconst 0, 1) := by decide +kernel
theorem dX0_go_16 : decode cX0_go 16 = .ok (.lcmp, 1) := by decide +kernel
theorem dX0_go_17 : decode cX0_go 17 = .ok (.ifCond .ne 5, 3) := by decide +kernel
theorem dX0_go_20 : decode cX0_go 20 = .ok (.iconst 0, 1) := by decide +kernel
theorem dX0_go_21 : decode cX0_go 21 = .ok (.ireturn, 1) := by decide +kernel
theorem dX0_go_22 : decode cX0_go 22 = .ok (.lload_n 2, 1) := by decide +kernel
theorem dX0_go_23 : decode cX0_go 23 = .ok (.aload_n 0, 1) := by decide +kernel
theorem dX0_go_24 : decode cX0_go 24 = .ok (.getfield 46, 3) := by decide +kernel
theorem dX0_go_27 : decode cX0_go 27 = .ok (.land, 1) := by decide +kernel
theorem dX0_go_28 : decode cX0_go 28 = .ok (.lconst 0, 1) := by decide +kernel
theorem dX0_go_29 : decode cX0_go 29 = .ok (.lcmp, 1) := by decide +kernel
theorem dX0_go_30 : decode cX0_go 30 = .ok (.ifCond .ne 10, 3) := by decide +kernel
theorem dX0_go_33 : decode cX0_go 33 = .ok (.aload_n 0, 1) := by decide +kernel
theorem dX0_go_34 : decode cX0_go 34 = .ok (.lload_n 2, 1) := by decide +kernel
theorem dX0_go_35 : decode cX0_go 35 = .ok (.putfield 50, 3) := by decide +kernel
theorem dX0_go_38 : decode cX0_go 38 = .ok (.iconst 1, 1) := by decide +kernel
theorem dX0_go_39 : decode cX0_go 39 = .ok (.ireturn, 1) := by decide +kernel
theorem dX0_go_40 : decode cX0_go 40 = .ok (.lload_n 2, 1) := by decide +kernel
theorem dX0_go_41 : decode cX0_go 41 = .ok (.iload_n 1, 1) := by decide +kernel
theorem dX0_go_42 : decode cX0_go 42 = .ok (.invokestatic 58, 3) := by decide +kernel
theorem dX0_go_45 : decode cX0_go 45 = .ok (.aload_n 0, 1) := by decide +kernel
theorem dX0_go_46 : decode cX0_go 46 = .ok (.getfield 36, 3) := by decide +kernel
theorem dX0_go_49 : decode cX0_go 49 = .ok (.land, 1) := by decide +kernel
theorem dX0_go_50 : decode cX0_go 50 = .ok (.aload_n 0, 1) := by decide +kernel
theorem dX0_go_51 : decode cX0_go 51 = .ok (.getfield 46, 3) := by decide +kernel
theorem dX0_go_54 : decode cX0_go 54 = .ok (.ldc2_w 34, 3) := by decide +kernel
theorem dX0_go_57 : decode cX0_go 57 = .ok (.lxor, 1) := by decide +kernel
theorem dX0_go_58 : decode cX0_go 58 = .ok (.land, 1) := by decide +kernel
theorem dX0_go_59 : decode cX0_go 59 = .ok (.lstore 4, 2) := by decide +kernel
theorem dX0_go_61 : decode cX0_go 61 = .ok (.lload 4, 2) := by decide +kernel
theorem dX0_go_63 : decode cX0_go 63 = .ok (.lconst 0, 1) := by decide +kernel
theorem dX0_go_64 : decode cX0_go 64 = .ok (.lcmp, 1) := by decide +kernel
theorem dX0_go_65 : decode cX0_go 65 = .ok (.ifCond .ne 5, 3) := by decide +kernel
theorem dX0_go_68 : decode cX0_go 68 = .ok (.iconst 0, 1) := by decide +kernel
theorem dX0_go_69 : decode cX0_go 69 = .ok (.ireturn, 1) := by decide +kernel
theorem dX0_go_70 : decode cX0_go 70 = .ok (.aload_n 0, 1) := by decide +kernel
theorem dX0_go_71 : decode cX0_go 71 = .ok (.dup, 1) := by decide +kernel
theorem dX0_go_72 : decode cX0_go 72 = .ok (.getfield 46, 3) := by decide +kernel
theorem dX0_go_75 : decode cX0_go 75 = .ok (.lload_n 2, 1) := by decide +kernel
theorem dX0_go_76 : decode cX0_go 76 = .ok (.lload 4, 2) := by decide +kernel
theorem dX0_go_78 : decode cX0_go 78 = .ok (.lor, 1) := by decide +kernel
theorem dX0_go_79 : decode cX0_go 79 = .ok (.lxor, 1) := by decide +kernel
theorem dX0_go_80 : decode cX0_go 80 = .ok (.putfield 46, 3) := by decide +kernel
theorem dX0_go_83 : decode cX0_go 83 = .ok (.aload_n 0, 1) := by decide +kernel
theorem dX0_go_84 : decode cX0_go 84 = .ok (.lload_n 2, 1) := by decide +kernel
theorem dX0_go_85 : decode cX0_go 85 = .ok (.putfield 50, 3) := by decide +kernel
theorem dX0_go_88 : decode cX0_go 88 = .ok (.iconst 2, 1) := by decide +kernel
theorem dX0_go_89 : decode cX0_go 89 = .ok (.ireturn, 1) := by decide +kernel
theorem dX0_goBack_0 : decode cX0_goBack 0 = .ok (.iload_n 2, 1) := by decide +kernel
theorem dX0_goBack_1 : decode cX0_goBack 1 = .ok (.ifCond .eq 25, 3) := by decide +kernel
theorem dX0_goBack_4 : decode cX0_goBack 4 = .ok (.aload_n 0, 1) := by decide +kernel
theorem dX0_goBack_5 : decode cX0_goBack 5 = .ok (.dup, 1) := by decide +kernel
theorem dX0_goBack_6 : decode cX0_goBack 6 = .ok (.getfield 46, 3) := by decide +kernel
theorem dX0_goBack_9 : decode cX0_goBack 9 = .ok (.aload_n 0, 1) := by decide +kernel
theorem dX0_goBack_10 : decode cX0_goBack 10 = .ok (.getfield 50, 3) := by decide +kernel
theorem dX0_goBack_13 : decode cX0_goBack 13 = .ok (.aload_n 0, 1) := by decide +kernel
theorem dX0_goBack_14 : decode cX0_goBack 14 = .ok (.getfield 50, 3) := by decide +kernel
theorem dX0_goBack_17 : decode cX0_goBack 17 = .ok (.iload_n 1, 1) := by decide +kernel
theorem dX0_goBack_18 : decode cX0_goBack 18 = .ok (.invokestatic 58, 3) := by decide +kernel
theorem dX0_goBack_21 : decode cX0_goBack 21 = .ok (.lor, 1) := by decide +kernel
theorem dX0_goBack_22 : decode cX0_goBack 22 = .ok (.lxor, 1) := by decide +kernel
theorem dX0_goBack_23 : decode cX0_goBack 23 = .ok (.putfield 46, 3) := by decide +kernel
theorem dX0_goBack_26 : decode cX0_goBack 26 = .ok (.aload_n 0, 1) := by decide +kernel
theorem dX0_goBack_27 : decode cX0_goBack 27 = .ok (.aload_n 0, 1) := by decide +kernel
theorem dX0_goBack_28 : decode cX0_goBack 28 = .ok (.getfield 50, 3) := by decide +kernel
theorem dX0_goBack_31 : decode cX0_goBack 31 = .ok (.iload_n 1, 1) := by decide +kernel
theorem dX0_goBack_32 : decode cX0_goBack 32 = .ok (.invokestatic 72, 3) := by decide +kernel
theorem dX0_goBack_35 : decode cX0_goBack 35 = .ok (.invokestatic 58, 3) := by decide +kernel
theorem dX0_goBack_38 : decode cX0_goBack 38 = .ok (.putfield 50, 3) := by decide +kernel
theorem dX0_goBack_41 : decode cX0_goBack 41 = .ok (.return_, 1) := by decide +kernel
theorem dX0_reachOf_0 : decode cX0_reachOf 0 = .ok (.aload_n 0, 1) := by decide +kernel
theorem dX0_reachOf_1 : decode cX0_reachOf 1 = .ok (.getfield 36, 3) := by decide +kernel
theorem dX0_reachOf_4 : decode cX0_reachOf 4 = .ok (.lload_n 3, 1) := by decide +kernel
theorem dX0_reachOf_5 : decode cX0_reachOf 5 = .ok (.ldc2_w 34, 3) := by decide +kernel
theorem dX0_reachOf_8 : decode cX0_reachOf 8 = .ok (.lxor, 1) := by decide +kernel
theorem dX0_reachOf_9 : decode cX0_reachOf 9 = .ok (.land, 1) := by decide +kernel
theorem dX0_reachOf_10 : decode cX0_reachOf 10 = .ok (.lstore 5, 2) := by decide +kernel
theorem dX0_reachOf_12 : decode cX0_reachOf 12 = .ok (.lload_n 1, 1) := by decide +kernel
theorem dX0_reachOf_13 : decode cX0_reachOf 13 = .ok (.lstore 7, 2) := by decide +kernel
theorem dX0_reachOf_15 : decode cX0_reachOf 15 = .ok (.iconst 0, 1) := by decide +kernel
theorem dX0_reachOf_16 : decode cX0_reachOf 16 = .ok (.istore 9, 2) := by decide +kernel
theorem dX0_reachOf_18 : decode cX0_reachOf 18 = .ok (.iload 9, 2) := by decide +kernel
theorem dX0_reachOf_20 : decode cX0_reachOf 20 = .ok (.bipush 64, 2) := by decide +kernel
theorem dX0_reachOf_22 : decode cX0_reachOf 22 = .ok (.if_icmp .ge 58, 3) := by decide +kernel
theorem dX0_reachOf_25 : decode cX0_reachOf 25 = .ok (.lload 7, 2) := by decide +kernel
theorem dX0_reachOf_27 : decode cX0_reachOf 27 = .ok (.lstore 10, 2) := by decide +kernel
theorem dX0_reachOf_29 : decode cX0_reachOf 29 = .ok (.iconst 0, 1) := by decide +kernel
theorem dX0_reachOf_30 : decode cX0_reachOf 30 = .ok (.istore 12, 2) := by decide +kernel
theorem dX0_reachOf_32 : decode cX0_reachOf 32 = .ok (.iload 12, 2) := by decide +kernel
theorem dX0_reachOf_34 : decode cX0_reachOf 34 = .ok (.iconst 4, 1) := by decide +kernel
theorem dX0_reachOf_35 : decode cX0_reachOf 35 = .ok (.if_icmp .ge 24, 3) := by decide +kernel
theorem dX0_reachOf_38 : decode cX0_reachOf 38 = .ok (.lload 10, 2) := by decide +kernel
theorem dX0_reachOf_40 : decode cX0_reachOf 40 = .ok (.lload 10, 2) := by decide +kernel
theorem dX0_reachOf_42 : decode cX0_reachOf 42 = .ok (.iload 12, 2) := by decide +kernel
theorem dX0_reachOf_44 : decode cX0_reachOf 44 = .ok (.invokestatic 58, 3) := by decide +kernel
theorem dX0_reachOf_47 : decode cX0_reachOf 47 = .ok (.lload 5, 2) := by decide +kernel
