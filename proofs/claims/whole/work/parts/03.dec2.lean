theorem dX0_reachOf_49 : decode cX0_reachOf 49 = .ok (.land, 1) := by decide +kernel
theorem dX0_reachOf_50 : decode cX0_reachOf 50 = .ok (.lor, 1) := by decide +kernel
theorem dX0_reachOf_51 : decode cX0_reachOf 51 = .ok (.lstore 10, 2) := by decide +kernel
theorem dX0_reachOf_53 : decode cX0_reachOf 53 = .ok (.iinc 12 1, 3) := by decide +kernel
theorem dX0_reachOf_56 : decode cX0_reachOf 56 = .ok (.goto (-24), 3) := by decide +kernel
theorem dX0_reachOf_59 : decode cX0_reachOf 59 = .ok (.lload 10, 2) := by decide +kernel
theorem dX0_reachOf_61 : decode cX0_reachOf 61 = .ok (.lload 7, 2) := by decide +kernel
theorem dX0_reachOf_63 : decode cX0_reachOf 63 = .ok (.lcmp, 1) := by decide +kernel
theorem dX0_reachOf_64 : decode cX0_reachOf 64 = .ok (.ifCond .ne 6, 3) := by decide +kernel
theorem dX0_reachOf_67 : decode cX0_reachOf 67 = .ok (.goto 13, 3) := by decide +kernel
theorem dX0_reachOf_70 : decode cX0_reachOf 70 = .ok (.lload 10, 2) := by decide +kernel
theorem dX0_reachOf_72 : decode cX0_reachOf 72 = .ok (.lstore 7, 2) := by decide +kernel
theorem dX0_reachOf_74 : decode cX0_reachOf 74 = .ok (.iinc 9 1, 3) := by decide +kernel
theorem dX0_reachOf_77 : decode cX0_reachOf 77 = .ok (.goto (-59), 3) := by decide +kernel
theorem dX0_reachOf_80 : decode cX0_reachOf 80 = .ok (.lload 7, 2) := by decide +kernel
theorem dX0_reachOf_82 : decode cX0_reachOf 82 = .ok (.lreturn, 1) := by decide +kernel
theorem dX0_stepsTo_0 : decode cX0_stepsTo 0 = .ok (.aload_n 0, 1) := by decide +kernel
theorem dX0_stepsTo_1 : decode cX0_stepsTo 1 = .ok (.getfield 36, 3) := by decide +kernel
theorem dX0_stepsTo_4 : decode cX0_stepsTo 4 = .ok (.aload_n 0, 1) := by decide +kernel
theorem dX0_stepsTo_5 : decode cX0_stepsTo 5 = .ok (.getfield 46, 3) := by decide +kernel
theorem dX0_stepsTo_8 : decode cX0_stepsTo 8 = .ok (.ldc2_w 34, 3) := by decide +kernel
theorem dX0_stepsTo_11 : decode cX0_stepsTo 11 = .ok (.lxor, 1) := by decide +kernel
theorem dX0_stepsTo_12 : decode cX0_stepsTo 12 = .ok (.land, 1) := by decide +kernel
theorem dX0_stepsTo_13 : decode cX0_stepsTo 13 = .ok (.lstore_n 3, 1) := by decide +kernel
theorem dX0_stepsTo_14 : decode cX0_stepsTo 14 = .ok (.aload_n 0, 1) := by decide +kernel
theorem dX0_stepsTo_15 : decode cX0_stepsTo 15 = .ok (.getfield 50, 3) := by decide +kernel
theorem dX0_stepsTo_18 : decode cX0_stepsTo 18 = .ok (.lstore 5, 2) := by decide +kernel
theorem dX0_stepsTo_20 : decode cX0_stepsTo 20 = .ok (.iconst 0, 1) := by decide +kernel
theorem dX0_stepsTo_21 : decode cX0_stepsTo 21 = .ok (.istore 7, 2) := by decide +kernel
theorem dX0_stepsTo_23 : decode cX0_stepsTo 23 = .ok (.iload 7, 2) := by decide +kernel
theorem dX0_stepsTo_25 : decode cX0_stepsTo 25 = .ok (.bipush 64, 2) := by decide +kernel
theorem dX0_stepsTo_27 : decode cX0_stepsTo 27 = .ok (.if_icmp .ge 60, 3) := by decide +kernel
theorem dX0_stepsTo_30 : decode cX0_stepsTo 30 = .ok (.lload 5, 2) := by decide +kernel
theorem dX0_stepsTo_32 : decode cX0_stepsTo 32 = .ok (.lload_n 1, 1) := by decide +kernel
theorem dX0_stepsTo_33 : decode cX0_stepsTo 33 = .ok (.land, 1) := by decide +kernel
theorem dX0_stepsTo_34 : decode cX0_stepsTo 34 = .ok (.lconst 0, 1) := by decide +kernel
theorem dX0_stepsTo_35 : decode cX0_stepsTo 35 = .ok (.lcmp, 1) := by decide +kernel
theorem dX0_stepsTo_36 : decode cX0_stepsTo 36 = .ok (.ifCond .eq 6, 3) := by decide +kernel
theorem dX0_stepsTo_39 : decode cX0_stepsTo 39 = .ok (.iload 7, 2) := by decide +kernel
theorem dX0_stepsTo_41 : decode cX0_stepsTo 41 = .ok (.ireturn, 1) := by decide +kernel
theorem dX0_stepsTo_42 : decode cX0_stepsTo 42 = .ok (.lconst 0, 1) := by decide +kernel
theorem dX0_stepsTo_43 : decode cX0_stepsTo 43 = .ok (.lstore 8, 2) := by decide +kernel
theorem dX0_stepsTo_45 : decode cX0_stepsTo 45 = .ok (.iconst 0, 1) := by decide +kernel
theorem dX0_stepsTo_46 : decode cX0_stepsTo 46 = .ok (.istore 10, 2) := by decide +kernel
theorem dX0_stepsTo_48 : decode cX0_stepsTo 48 = .ok (.iload 10, 2) := by decide +kernel
theorem dX0_stepsTo_50 : decode cX0_stepsTo 50 = .ok (.iconst 4, 1) := by decide +kernel
theorem dX0_stepsTo_51 : decode cX0_stepsTo 51 = .ok (.if_icmp .ge 23, 3) := by decide +kernel
theorem dX0_stepsTo_54 : decode cX0_stepsTo 54 = .ok (.lload 8, 2) := by decide +kernel
theorem dX0_stepsTo_56 : decode cX0_stepsTo 56 = .ok (.lload 5, 2) := by decide +kernel
theorem dX0_stepsTo_58 : decode cX0_stepsTo 58 = .ok (.iload 10, 2) := by decide +kernel
theorem dX0_stepsTo_60 : decode cX0_stepsTo 60 = .ok (.invokestatic 58, 3) := by decide +kernel
theorem dX0_stepsTo_63 : decode cX0_stepsTo 63 = .ok (.lload_n 3, 1) := by decide +kernel
theorem dX0_stepsTo_64 : decode cX0_stepsTo 64 = .ok (.land, 1) := by decide +kernel
theorem dX0_stepsTo_65 : decode cX0_stepsTo 65 = .ok (.lor, 1) := by decide +kernel
theorem dX0_stepsTo_66 : decode cX0_stepsTo 66 = .ok (.lstore 8, 2) := by decide +kernel
theorem dX0_stepsTo_68 : decode cX0_stepsTo 68 = .ok (.iinc 10 1, 3) := by decide +kernel
theorem dX0_stepsTo_71 : decode cX0_stepsTo 71 = .ok (.goto (-23), 3) := by decide +kernel
theorem dX0_stepsTo_74 : decode cX0_stepsTo 74 = .ok (.lload 5, 2) := by decide +kernel
theorem dX0_stepsTo_76 : decode cX0_stepsTo 76 = .ok (.lload 8, 2) := by decide +kernel
theorem dX0_stepsTo_78 : decode cX0_stepsTo 78 = .ok (.lor, 1) := by decide +kernel
theorem dX0_stepsTo_79 : decode cX0_stepsTo 79 = .ok (.lstore 5, 2) := by decide +kernel
theorem dX0_stepsTo_81 : decode cX0_stepsTo 81 = .ok (.iinc 7 1, 3) := by decide +kernel
theorem dX0_stepsTo_84 : decode cX0_stepsTo 84 = .ok (.goto (-61), 3) := by decide +kernel
theorem dX0_stepsTo_87 : decode cX0_stepsTo 87 = .ok (.iconst (-1), 1) := by decide +kernel
theorem dX0_stepsTo_88 : decode cX0_stepsTo 88 = .ok (.ireturn, 1) := by decide +kernel
theorem dX0_fillBoxSteps_0 : decode cX0_fillBoxSteps 0 = .ok (.aload_n 0, 1) := by decide +kernel
theorem dX0_fillBoxSteps_1 : decode cX0_fillBoxSteps 1 = .ok (.getfield 9, 3) := by decide +kernel
theorem dX0_fillBoxSteps_4 : decode cX0_fillBoxSteps 4 = .ok (.iconst (-1), 1) := by decide +kernel
theorem dX0_fillBoxSteps_5 : decode cX0_fillBoxSteps 5 = .ok (.invokestatic 76, 3) := by decide +kernel
theorem dX0_fillBoxSteps_8 : decode cX0_fillBoxSteps 8 = .ok (.lconst 0, 1) := by decide +kernel
theorem dX0_fillBoxSteps_9 : decode cX0_fillBoxSteps 9 = .ok (.lstore_n 3, 1) := by decide +kernel
theorem dX0_fillBoxSteps_10 : decode cX0_fillBoxSteps 10 = .ok (.lload_n 1, 1) := by decide +kernel
theorem dX0_fillBoxSteps_11 : decode cX0_fillBoxSteps 11 = .ok (.aload_n 0, 1) := by decide +kernel
theorem dX0_fillBoxSteps_12 : decode cX0_fillBoxSteps 12 = .ok (.getfield 36, 3) := by decide +kernel
theorem dX0_fillBoxSteps_15 : decode cX0_fillBoxSteps 15 = .ok (.land, 1) := by decide +kernel
theorem dX0_fillBoxSteps_16 : decode cX0_fillBoxSteps 16 = .ok (.lstore 5, 2) := by decide +kernel
theorem dX0_fillBoxSteps_18 : decode cX0_fillBoxSteps 18 = .ok (.iconst 0, 1) := by decide +kernel
theorem dX0_fillBoxSteps_19 : decode cX0_fillBoxSteps 19 = .ok (.istore 7, 2) := by decide +kernel
theorem dX0_fillBoxSteps_21 : decode cX0_fillBoxSteps 21 = .ok (.iload 7, 2) := by decide +kernel
theorem dX0_fillBoxSteps_23 : decode cX0_fillBoxSteps 23 = .ok (.bipush 64, 2) := by decide +kernel
theorem dX0_fillBoxSteps_25 : decode cX0_fillBoxSteps 25 = .ok (.if_icmp .ge 124, 3) := by decide +kernel
theorem dX0_fillBoxSteps_28 : decode cX0_fillBoxSteps 28 = .ok (.lload 5, 2) := by decide +kernel
theorem dX0_fillBoxSteps_30 : decode cX0_fillBoxSteps 30 = .ok (.lconst 0, 1) := by decide +kernel
theorem dX0_fillBoxSteps_31 : decode cX0_fillBoxSteps 31 = .ok (.lcmp, 1) := by decide +kernel
theorem dX0_fillBoxSteps_32 : decode cX0_fillBoxSteps 32 = .ok (.ifCond .eq 117, 3) := by decide +kernel
theorem dX0_fillBoxSteps_35 : decode cX0_fillBoxSteps 35 = .ok (.lload 5, 2) := by decide +kernel
theorem dX0_fillBoxSteps_37 : decode cX0_fillBoxSteps 37 = .ok (.lstore 8, 2) := by decide +kernel
theorem dX0_fillBoxSteps_39 : decode cX0_fillBoxSteps 39 = .ok (.iconst 0, 1) := by decide +kernel
theorem dX0_fillBoxSteps_40 : decode cX0_fillBoxSteps 40 = .ok (.istore 10, 2) := by decide +kernel
theorem dX0_fillBoxSteps_42 : decode cX0_fillBoxSteps 42 = .ok (.iload 10, 2) := by decide +kernel
theorem dX0_fillBoxSteps_44 : decode cX0_fillBoxSteps 44 = .ok (.bipush 64, 2) := by decide +kernel
theorem dX0_fillBoxSteps_46 : decode cX0_fillBoxSteps 46 = .ok (.if_icmp .ge 37, 3) := by decide +kernel
theorem dX0_fillBoxSteps_49 : decode cX0_fillBoxSteps 49 = .ok (.lload 8, 2) := by decide +kernel
theorem dX0_fillBoxSteps_51 : decode cX0_fillBoxSteps 51 = .ok (.lconst 0, 1) := by decide +kernel
theorem dX0_fillBoxSteps_52 : decode cX0_fillBoxSteps 52 = .ok (.lcmp, 1) := by decide +kernel
theorem dX0_fillBoxSteps_53 : decode cX0_fillBoxSteps 53 = .ok (.ifCond .eq 30, 3) := by decide +kernel
theorem dX0_fillBoxSteps_56 : decode cX0_fillBoxSteps 56 = .ok (.aload_n 0, 1) := by decide +kernel
theorem dX0_fillBoxSteps_57 : decode cX0_fillBoxSteps 57 = .ok (.getfield 9, 3) := by decide +kernel
theorem dX0_fillBoxSteps_60 : decode cX0_fillBoxSteps 60 = .ok (.lload 8, 2) := by decide +kernel
theorem dX0_fillBoxSteps_62 : decode cX0_fillBoxSteps 62 = .ok (.invokestatic 68, 3) := by decide +kernel
theorem dX0_fillBoxSteps_65 : decode cX0_fillBoxSteps 65 = .ok (.iload 7, 2) := by decide +kernel
theorem dX0_fillBoxSteps_67 : decode cX0_fillBoxSteps 67 = .ok (.iastore, 1) := by decide +kernel
theorem dX0_fillBoxSteps_68 : decode cX0_fillBoxSteps 68 = .ok (.lload 8, 2) := by decide +kernel
theorem dX0_fillBoxSteps_70 : decode cX0_fillBoxSteps 70 = .ok (.lload 8, 2) := by decide +kernel
theorem dX0_fillBoxSteps_72 : decode cX0_fillBoxSteps 72 = .ok (.lconst 1, 1) := by decide +kernel
theorem dX0_fillBoxSteps_73 : decode cX0_fillBoxSteps 73 = .ok (.lsub, 1) := by decide +kernel
theorem dX0_fillBoxSteps_74 : decode cX0_fillBoxSteps 74 = .ok (.land, 1) := by decide +kernel
theorem dX0_fillBoxSteps_75 : decode cX0_fillBoxSteps 75 = .ok (.lstore 8, 2) := by decide +kernel
theorem dX0_fillBoxSteps_77 : decode cX0_fillBoxSteps 77 = .ok (.iinc 10 1, 3) := by decide +kernel
theorem dX0_fillBoxSteps_80 : decode cX0_fillBoxSteps 80 = .ok (.goto (-38), 3) := by decide +kernel
theorem dX0_fillBoxSteps_83 : decode cX0_fillBoxSteps 83 = .ok (.lload_n 3, 1) := by decide +kernel
theorem dX0_fillBoxSteps_84 : decode cX0_fillBoxSteps 84 = .ok (.lload 5, 2) := by decide +kernel
theorem dX0_fillBoxSteps_86 : decode cX0_fillBoxSteps 86 = .ok (.lor, 1) := by decide +kernel
theorem dX0_fillBoxSteps_87 : decode cX0_fillBoxSteps 87 = .ok (.lstore_n 3, 1) := by decide +kernel
theorem dX0_fillBoxSteps_88 : decode cX0_fillBoxSteps 88 = .ok (.lconst 0, 1) := by decide +kernel
theorem dX0_fillBoxSteps_89 : decode cX0_fillBoxSteps 89 = .ok (.lstore 10, 2) := by decide +kernel
theorem dX0_fillBoxSteps_91 : decode cX0_fillBoxSteps 91 = .ok (.iconst 0, 1) := by decide +kernel
theorem dX0_fillBoxSteps_92 : decode cX0_fillBoxSteps 92 = .ok (.istore 12, 2) := by decide +kernel
theorem dX0_fillBoxSteps_94 : decode cX0_fillBoxSteps 94 = .ok (.iload 12, 2) := by decide +kernel
theorem dX0_fillBoxSteps_96 : decode cX0_fillBoxSteps 96 = .ok (.iconst 4, 1) := by decide +kernel
theorem dX0_fillBoxSteps_97 : decode cX0_fillBoxSteps 97 = .ok (.if_icmp .ge 31, 3) := by decide +kernel
theorem dX0_fillBoxSteps_100 : decode cX0_fillBoxSteps 100 = .ok (.lload 10, 2) := by decide +kernel
theorem dX0_fillBoxSteps_102 : decode cX0_fillBoxSteps 102 = .ok (.lload 5, 2) := by decide +kernel
theorem dX0_fillBoxSteps_104 : decode cX0_fillBoxSteps 104 = .ok (.aload_n 0, 1) := by decide +kernel
theorem dX0_fillBoxSteps_105 : decode cX0_fillBoxSteps 105 = .ok (.getfield 36, 3) := by decide +kernel
theorem dX0_fillBoxSteps_108 : decode cX0_fillBoxSteps 108 = .ok (.iload 12, 2) := by decide +kernel
theorem dX0_fillBoxSteps_110 : decode cX0_fillBoxSteps 110 = .ok (.invokestatic 58, 3) := by decide +kernel
theorem dX0_fillBoxSteps_113 : decode cX0_fillBoxSteps 113 = .ok (.land, 1) := by decide +kernel
theorem dX0_fillBoxSteps_114 : decode cX0_fillBoxSteps 114 = .ok (.iload 12, 2) := by decide +kernel
theorem dX0_fillBoxSteps_116 : decode cX0_fillBoxSteps 116 = .ok (.invokestatic 58, 3) := by decide +kernel
theorem dX0_fillBoxSteps_119 : decode cX0_fillBoxSteps 119 = .ok (.lor, 1) := by decide +kernel
theorem dX0_fillBoxSteps_120 : decode cX0_fillBoxSteps 120 = .ok (.lstore 10, 2) := by decide +kernel
theorem dX0_fillBoxSteps_122 : decode cX0_fillBoxSteps 122 = .ok (.iinc 12 1, 3) := by decide +kernel
theorem dX0_fillBoxSteps_125 : decode cX0_fillBoxSteps 125 = .ok (.goto (-31), 3) := by decide +kernel
theorem dX0_fillBoxSteps_128 : decode cX0_fillBoxSteps 128 = .ok (.lload 10, 2) := by decide +kernel
theorem dX0_fillBoxSteps_130 : decode cX0_fillBoxSteps 130 = .ok (.aload_n 0, 1) := by decide +kernel
theorem dX0_fillBoxSteps_131 : decode cX0_fillBoxSteps 131 = .ok (.getfield 36, 3) := by decide +kernel
theorem dX0_fillBoxSteps_134 : decode cX0_fillBoxSteps 134 = .ok (.land, 1) := by decide +kernel
theorem dX0_fillBoxSteps_135 : decode cX0_fillBoxSteps 135 = .ok (.lload_n 3, 1) := by decide +kernel
theorem dX0_fillBoxSteps_136 : decode cX0_fillBoxSteps 136 = .ok (.ldc2_w 34, 3) := by decide +kernel
theorem dX0_fillBoxSteps_139 : decode cX0_fillBoxSteps 139 = .ok (.lxor, 1) := by decide +kernel
theorem dX0_fillBoxSteps_140 : decode cX0_fillBoxSteps 140 = .ok (.land, 1) := by decide +kernel
theorem dX0_fillBoxSteps_141 : decode cX0_fillBoxSteps 141 = .ok (.lstore 5, 2) := by decide +kernel
theorem dX0_fillBoxSteps_143 : decode cX0_fillBoxSteps 143 = .ok (.iinc 7 1, 3) := by decide +kernel
theorem dX0_fillBoxSteps_146 : decode cX0_fillBoxSteps 146 = .ok (.goto (-125), 3) := by decide +kernel
theorem dX0_fillBoxSteps_149 : decode cX0_fillBoxSteps 149 = .ok (.return_, 1) := by decide +kernel
theorem dX0_standing_0 : decode cX0_standing 0 = .ok (.lload_n 1, 1) := by decide +kernel
theorem dX0_standing_1 : decode cX0_standing 1 = .ok (.lstore_n 3, 1) := by decide +kernel
theorem dX0_standing_2 : decode cX0_standing 2 = .ok (.iconst 0, 1) := by decide +kernel
theorem dX0_standing_3 : decode cX0_standing 3 = .ok (.istore 5, 2) := by decide +kernel
theorem dX0_standing_5 : decode cX0_standing 5 = .ok (.iload 5, 2) := by decide +kernel
theorem dX0_standing_7 : decode cX0_standing 7 = .ok (.bipush 12, 2) := by decide +kernel
theorem dX0_standing_9 : decode cX0_standing 9 = .ok (.if_icmp .gt 87, 3) := by decide +kernel
theorem dX0_standing_12 : decode cX0_standing 12 = .ok (.aload_n 0, 1) := by decide +kernel
theorem dX0_standing_13 : decode cX0_standing 13 = .ok (.getfield 36, 3) := by decide +kernel
theorem dX0_standing_16 : decode cX0_standing 16 = .ok (.lload_n 3, 1) := by decide +kernel
theorem dX0_standing_17 : decode cX0_standing 17 = .ok (.ldc2_w 34, 3) := by decide +kernel
theorem dX0_standing_20 : decode cX0_standing 20 = .ok (.lxor, 1) := by decide +kernel
theorem dX0_standing_21 : decode cX0_standing 21 = .ok (.land, 1) := by decide +kernel
theorem dX0_standing_22 : decode cX0_standing 22 = .ok (.lstore 6, 2) := by decide +kernel
theorem dX0_standing_24 : decode cX0_standing 24 = .ok (.lload 6, 2) := by decide +kernel
theorem dX0_standing_26 : decode cX0_standing 26 = .ok (.iconst 0, 1) := by decide +kernel
theorem dX0_standing_27 : decode cX0_standing 27 = .ok (.invokestatic 58, 3) := by decide +kernel
theorem dX0_standing_30 : decode cX0_standing 30 = .ok (.lload 6, 2) := by decide +kernel
theorem dX0_standing_32 : decode cX0_standing 32 = .ok (.iconst 2, 1) := by decide +kernel
theorem dX0_standing_33 : decode cX0_standing 33 = .ok (.invokestatic 58, 3) := by decide +kernel
theorem dX0_standing_36 : decode cX0_standing 36 = .ok (.land, 1) := by decide +kernel
theorem dX0_standing_37 : decode cX0_standing 37 = .ok (.aload_n 0, 1) := by decide +kernel
theorem dX0_standing_38 : decode cX0_standing 38 = .ok (.getfield 62, 3) := by decide +kernel
theorem dX0_standing_41 : decode cX0_standing 41 = .ok (.land, 1) := by decide +kernel
theorem dX0_standing_42 : decode cX0_standing 42 = .ok (.lstore 8, 2) := by decide +kernel
theorem dX0_standing_44 : decode cX0_standing 44 = .ok (.lload 6, 2) := by decide +kernel
theorem dX0_standing_46 : decode cX0_standing 46 = .ok (.iconst 1, 1) := by decide +kernel
theorem dX0_standing_47 : decode cX0_standing 47 = .ok (.invokestatic 58, 3) := by decide +kernel
theorem dX0_standing_50 : decode cX0_standing 50 = .ok (.lload 6, 2) := by decide +kernel
theorem dX0_standing_52 : decode cX0_standing 52 = .ok (.iconst 3, 1) := by decide +kernel
theorem dX0_standing_53 : decode cX0_standing 53 = .ok (.invokestatic 58, 3) := by decide +kernel
theorem dX0_standing_56 : decode cX0_standing 56 = .ok (.land, 1) := by decide +kernel
theorem dX0_standing_57 : decode cX0_standing 57 = .ok (.aload_n 0, 1) := by decide +kernel
theorem dX0_standing_58 : decode cX0_standing 58 = .ok (.getfield 65, 3) := by decide +kernel
theorem dX0_standing_61 : decode cX0_standing 61 = .ok (.land, 1) := by decide +kernel
theorem dX0_standing_62 : decode cX0_standing 62 = .ok (.lstore 10, 2) := by decide +kernel
theorem dX0_standing_64 : decode cX0_standing 64 = .ok (.lload_n 3, 1) := by decide +kernel
theorem dX0_standing_65 : decode cX0_standing 65 = .ok (.lload 8, 2) := by decide +kernel
theorem dX0_standing_67 : decode cX0_standing 67 = .ok (.lload 10, 2) := by decide +kernel
theorem dX0_standing_69 : decode cX0_standing 69 = .ok (.lor, 1) := by decide +kernel
theorem dX0_standing_70 : decode cX0_standing 70 = .ok (.ldc2_w 34, 3) := by decide +kernel
theorem dX0_standing_73 : decode cX0_standing 73 = .ok (.lxor, 1) := by decide +kernel
theorem dX0_standing_74 : decode cX0_standing 74 = .ok (.land, 1) := by decide +kernel
theorem dX0_standing_75 : decode cX0_standing 75 = .ok (.lstore 12, 2) := by decide +kernel
theorem dX0_standing_77 : decode cX0_standing 77 = .ok (.lload 12, 2) := by decide +kernel
theorem dX0_standing_79 : decode cX0_standing 79 = .ok (.lload_n 3, 1) := by decide +kernel
theorem dX0_standing_80 : decode cX0_standing 80 = .ok (.lcmp, 1) := by decide +kernel
theorem dX0_standing_81 : decode cX0_standing 81 = .ok (.ifCond .ne 6, 3) := by decide +kernel
theorem dX0_standing_84 : decode cX0_standing 84 = .ok (.goto 12, 3) := by decide +kernel
theorem dX0_standing_87 : decode cX0_standing 87 = .ok (.lload 12, 2) := by decide +kernel
theorem dX0_standing_89 : decode cX0_standing 89 = .ok (.lstore_n 3, 1) := by decide +kernel
theorem dX0_standing_90 : decode cX0_standing 90 = .ok (.iinc 5 1, 3) := by decide +kernel
theorem dX0_standing_93 : decode cX0_standing 93 = .ok (.goto (-88), 3) := by decide +kernel
theorem dX0_standing_96 : decode cX0_standing 96 = .ok (.lload_n 3, 1) := by decide +kernel
theorem dX0_standing_97 : decode cX0_standing 97 = .ok (.lreturn, 1) := by decide +kernel
theorem dX0_isStuck_0 : decode cX0_isStuck 0 = .ok (.aload_n 0, 1) := by decide +kernel
theorem dX0_isStuck_1 : decode cX0_isStuck 1 = .ok (.lload_n 1, 1) := by decide +kernel
theorem dX0_isStuck_2 : decode cX0_isStuck 2 = .ok (.invokevirtual 82, 3) := by decide +kernel
theorem dX0_isStuck_5 : decode cX0_isStuck 5 = .ok (.aload_n 0, 1) := by decide +kernel
theorem dX0_isStuck_6 : decode cX0_isStuck 6 = .ok (.getfield 42, 3) := by decide +kernel
theorem dX0_isStuck_9 : decode cX0_isStuck 9 = .ok (.ldc2_w 34, 3) := by decide +kernel
theorem dX0_isStuck_12 : decode cX0_isStuck 12 = .ok (.lxor, 1) := by decide +kernel
theorem dX0_isStuck_13 : decode cX0_isStuck 13 = .ok (.land, 1) := by decide +kernel
theorem dX0_isStuck_14 : decode cX0_isStuck 14 = .ok (.lconst 0, 1) := by decide +kernel
theorem dX0_isStuck_15 : decode cX0_isStuck 15 = .ok (.lcmp, 1) := by decide +kernel
theorem dX0_isStuck_16 : decode cX0_isStuck 16 = .ok (.ifCond .eq 7, 3) := by decide +kernel
theorem dX0_isStuck_19 : decode cX0_isStuck 19 = .ok (.iconst 1, 1) := by decide +kernel
theorem dX0_isStuck_20 : decode cX0_isStuck 20 = .ok (.goto 4, 3) := by decide +kernel
theorem dX0_isStuck_23 : decode cX0_isStuck 23 = .ok (.iconst 0, 1) := by decide +kernel
theorem dX0_isStuck_24 : decode cX0_isStuck 24 = .ok (.ireturn, 1) := by decide +kernel
theorem dX0_liveCells_0 : decode cX0_liveCells 0 = .ok (.aload_n 0, 1) := by decide +kernel
theorem dX0_liveCells_1 : decode cX0_liveCells 1 = .ok (.getfield 42, 3) := by decide +kernel
theorem dX0_liveCells_4 : decode cX0_liveCells 4 = .ok (.lstore_n 1, 1) := by decide +kernel
theorem dX0_liveCells_5 : decode cX0_liveCells 5 = .ok (.iconst 0, 1) := by decide +kernel
theorem dX0_liveCells_6 : decode cX0_liveCells 6 = .ok (.istore_n 3, 1) := by decide +kernel
theorem dX0_liveCells_7 : decode cX0_liveCells 7 = .ok (.iload_n 3, 1) := by decide +kernel
theorem dX0_liveCells_8 : decode cX0_liveCells 8 = .ok (.bipush 64, 2) := by decide +kernel
theorem dX0_liveCells_10 : decode cX0_liveCells 10 = .ok (.if_icmp .ge 70, 3) := by decide +kernel
theorem dX0_liveCells_13 : decode cX0_liveCells 13 = .ok (.lload_n 1, 1) := by decide +kernel
theorem dX0_liveCells_14 : decode cX0_liveCells 14 = .ok (.lstore 4, 2) := by decide +kernel
theorem dX0_liveCells_16 : decode cX0_liveCells 16 = .ok (.iconst 0, 1) := by decide +kernel
theorem dX0_liveCells_17 : decode cX0_liveCells 17 = .ok (.istore 6, 2) := by decide +kernel
theorem dX0_liveCells_19 : decode cX0_liveCells 19 = .ok (.iload 6, 2) := by decide +kernel
theorem dX0_liveCells_21 : decode cX0_liveCells 21 = .ok (.iconst 4, 1) := by decide +kernel
theorem dX0_liveCells_22 : decode cX0_liveCells 22 = .ok (.if_icmp .ge 39, 3) := by decide +kernel
theorem dX0_liveCells_25 : decode cX0_liveCells 25 = .ok (.lload 4, 2) := by decide +kernel
theorem dX0_liveCells_27 : decode cX0_liveCells 27 = .ok (.aload_n 0, 1) := by decide +kernel
theorem dX0_liveCells_28 : decode cX0_liveCells 28 = .ok (.getfield 36, 3) := by decide +kernel
theorem dX0_liveCells_31 : decode cX0_liveCells 31 = .ok (.lload 4, 2) := by decide +kernel
theorem dX0_liveCells_33 : decode cX0_liveCells 33 = .ok (.iload 6, 2) := by decide +kernel
theorem dX0_liveCells_35 : decode cX0_liveCells 35 = .ok (.invokestatic 72, 3) := by decide +kernel
theorem dX0_liveCells_38 : decode cX0_liveCells 38 = .ok (.invokestatic 58, 3) := by decide +kernel
theorem dX0_liveCells_41 : decode cX0_liveCells 41 = .ok (.land, 1) := by decide +kernel
theorem dX0_liveCells_42 : decode cX0_liveCells 42 = .ok (.aload_n 0, 1) := by decide +kernel
theorem dX0_liveCells_43 : decode cX0_liveCells 43 = .ok (.getfield 36, 3) := by decide +kernel
theorem dX0_liveCells_46 : decode cX0_liveCells 46 = .ok (.iload 6, 2) := by decide +kernel
theorem dX0_liveCells_48 : decode cX0_liveCells 48 = .ok (.invokestatic 58, 3) := by decide +kernel
theorem dX0_liveCells_51 : decode cX0_liveCells 51 = .ok (.land, 1) := by decide +kernel
theorem dX0_liveCells_52 : decode cX0_liveCells 52 = .ok (.lor, 1) := by decide +kernel
theorem dX0_liveCells_53 : decode cX0_liveCells 53 = .ok (.lstore 4, 2) := by decide +kernel
theorem dX0_liveCells_55 : decode cX0_liveCells 55 = .ok (.iinc 6 1, 3) := by decide +kernel
theorem dX0_liveCells_58 : decode cX0_liveCells 58 = .ok (.goto (-39), 3) := by decide +kernel
theorem dX0_liveCells_61 : decode cX0_liveCells 61 = .ok (.lload 4, 2) := by decide +kernel
theorem dX0_liveCells_63 : decode cX0_liveCells 63 = .ok (.lload_n 1, 1) := by decide +kernel
theorem dX0_liveCells_64 : decode cX0_liveCells 64 = .ok (.lcmp, 1) := by decide +kernel
theorem dX0_liveCells_65 : decode cX0_liveCells 65 = .ok (.ifCond .ne 6, 3) := by decide +kernel
theorem dX0_liveCells_68 : decode cX0_liveCells 68 = .ok (.goto 12, 3) := by decide +kernel
theorem dX0_liveCells_71 : decode cX0_liveCells 71 = .ok (.lload 4, 2) := by decide +kernel
theorem dX0_liveCells_73 : decode cX0_liveCells 73 = .ok (.lstore_n 1, 1) := by decide +kernel
theorem dX0_liveCells_74 : decode cX0_liveCells 74 = .ok (.iinc 3 1, 3) := by decide +kernel
theorem dX0_liveCells_77 : decode cX0_liveCells 77 = .ok (.goto (-70), 3) := by decide +kernel
theorem dX0_liveCells_80 : decode cX0_liveCells 80 = .ok (.lload_n 1, 1) := by decide +kernel
theorem dX0_liveCells_81 : decode cX0_liveCells 81 = .ok (.lreturn, 1) := by decide +kernel
theorem dX0_rectangle_0 : decode cX0_rectangle 0 = .ok (.lconst 0, 1) := by decide +kernel
theorem dX0_rectangle_1 : decode cX0_rectangle 1 = .ok (.lstore_n 2, 1) := by decide +kernel
theorem dX0_rectangle_2 : decode cX0_rectangle 2 = .ok (.iconst 0, 1) := by decide +kernel
theorem dX0_rectangle_3 : decode cX0_rectangle 3 = .ok (.istore 4, 2) := by decide +kernel
theorem dX0_rectangle_5 : decode cX0_rectangle 5 = .ok (.iload 4, 2) := by decide +kernel
theorem dX0_rectangle_7 : decode cX0_rectangle 7 = .ok (.iload_n 1, 1) := by decide +kernel
theorem dX0_rectangle_8 : decode cX0_rectangle 8 = .ok (.if_icmp .ge 34, 3) := by decide +kernel
theorem dX0_rectangle_11 : decode cX0_rectangle 11 = .ok (.iconst 0, 1) := by decide +kernel
theorem dX0_rectangle_12 : decode cX0_rectangle 12 = .ok (.istore 5, 2) := by decide +kernel
theorem dX0_rectangle_14 : decode cX0_rectangle 14 = .ok (.iload 5, 2) := by decide +kernel
theorem dX0_rectangle_16 : decode cX0_rectangle 16 = .ok (.iload_n 0, 1) := by decide +kernel
theorem dX0_rectangle_17 : decode cX0_rectangle 17 = .ok (.if_icmp .ge 19, 3) := by decide +kernel
theorem dX0_rectangle_20 : decode cX0_rectangle 20 = .ok (.lload_n 2, 1) := by decide +kernel
theorem dX0_rectangle_21 : decode cX0_rectangle 21 = .ok (.iload 5, 2) := by decide +kernel
theorem dX0_rectangle_23 : decode cX0_rectangle 23 = .ok (.iload 4, 2) := by decide +kernel
theorem dX0_rectangle_25 : decode cX0_rectangle 25 = .ok (.invokestatic 86, 3) := by decide +kernel
theorem dX0_rectangle_28 : decode cX0_rectangle 28 = .ok (.lor, 1) := by decide +kernel
theorem dX0_rectangle_29 : decode cX0_rectangle 29 = .ok (.lstore_n 2, 1) := by decide +kernel
theorem dX0_rectangle_30 : decode cX0_rectangle 30 = .ok (.iinc 5 1, 3) := by decide +kernel
theorem dX0_rectangle_33 : decode cX0_rectangle 33 = .ok (.goto (-19), 3) := by decide +kernel
theorem dX0_rectangle_36 : decode cX0_rectangle 36 = .ok (.iinc 4 1, 3) := by decide +kernel
theorem dX0_rectangle_39 : decode cX0_rectangle 39 = .ok (.goto (-34), 3) := by decide +kernel
theorem dX0_rectangle_42 : decode cX0_rectangle 42 = .ok (.lload_n 2, 1) := by decide +kernel
theorem dX0_rectangle_43 : decode cX0_rectangle 43 = .ok (.lreturn, 1) := by decide +kernel
theorem dX1_init_0 : decode cX1_init 0 = .ok (.aload_n 0, 1) := by decide +kernel
theorem dX1_init_1 : decode cX1_init 1 = .ok (.invokespecial 1, 3) := by decide +kernel
theorem dX1_init_4 : decode cX1_init 4 = .ok (.aload_n 0, 1) := by decide +kernel
theorem dX1_init_5 : decode cX1_init 5 = .ok (.sipush 500, 3) := by decide +kernel
theorem dX1_init_8 : decode cX1_init 8 = .ok (.newarray .int, 2) := by decide +kernel
theorem dX1_init_10 : decode cX1_init 10 = .ok (.putfield 9, 3) := by decide +kernel
theorem dX1_init_13 : decode cX1_init 13 = .ok (.return_, 1) := by decide +kernel
theorem dX1_isPush_0 : decode cX1_isPush 0 = .ok (.iload_n 0, 1) := by decide +kernel
theorem dX1_isPush_1 : decode cX1_isPush 1 = .ok (.iconst 4, 1) := by decide +kernel
theorem dX1_isPush_2 : decode cX1_isPush 2 = .ok (.if_icmp .lt 7, 3) := by decide +kernel
theorem dX1_isPush_5 : decode cX1_isPush 5 = .ok (.iconst 1, 1) := by decide +kernel
theorem dX1_isPush_6 : decode cX1_isPush 6 = .ok (.goto 4, 3) := by decide +kernel
theorem dX1_isPush_9 : decode cX1_isPush 9 = .ok (.iconst 0, 1) := by decide +kernel
theorem dX1_isPush_10 : decode cX1_isPush 10 = .ok (.ireturn, 1) := by decide +kernel
theorem dX1_wayOf_0 : decode cX1_wayOf 0 = .ok (.iload_n 0, 1) := by decide +kernel
theorem dX1_wayOf_1 : decode cX1_wayOf 1 = .ok (.iconst 3, 1) := by decide +kernel
theorem dX1_wayOf_2 : decode cX1_wayOf 2 = .ok (.iand, 1) := by decide +kernel
theorem dX1_wayOf_3 : decode cX1_wayOf 3 = .ok (.ireturn, 1) := by decide +kernel
theorem dX1_clear_0 : decode cX1_clear 0 = .ok (.aload_n 0, 1) := by decide +kernel
theorem dX1_clear_1 : decode cX1_clear 1 = .ok (.iconst 0, 1) := by decide +kernel
theorem dX1_clear_2 : decode cX1_clear 2 = .ok (.putfield 13, 3) := by decide +kernel
theorem dX1_clear_5 : decode cX1_clear 5 = .ok (.aload_n 0, 1) := by decide +kernel
theorem dX1_clear_6 : decode cX1_clear 6 = .ok (.iconst 0, 1) := by decide +kernel
theorem dX1_clear_7 : decode cX1_clear 7 = .ok (.putfield 17, 3) := by decide +kernel
theorem dX1_clear_10 : decode cX1_clear 10 = .ok (.aload_n 0, 1) := by decide +kernel
theorem dX1_clear_11 : decode cX1_clear 11 = .ok (.iconst 0, 1) := by decide +kernel
theorem dX1_clear_12 : decode cX1_clear 12 = .ok (.putfield 20, 3) := by decide +kernel
theorem dX1_clear_15 : decode cX1_clear 15 = .ok (.aload_n 0, 1) := by decide +kernel
theorem dX1_clear_16 : decode cX1_clear 16 = .ok (.iconst 0, 1) := by decide +kernel
theorem dX1_clear_17 : decode cX1_clear 17 = .ok (.putfield 23, 3) := by decide +kernel
theorem dX1_clear_20 : decode cX1_clear 20 = .ok (.return_, 1) := by decide +kernel
theorem dX1_add_0 : decode cX1_add 0 = .ok (.aload_n 0, 1) := by decide +kernel
theorem dX1_add_1 : decode cX1_add 1 = .ok (.getfield 9, 3) := by decide +kernel
theorem dX1_add_4 : decode cX1_add 4 = .ok (.aload_n 0, 1) := by decide +kernel
theorem dX1_add_5 : decode cX1_add 5 = .ok (.getfield 23, 3) := by decide +kernel
theorem dX1_add_8 : decode cX1_add 8 = .ok (.iload_n 2, 1) := by decide +kernel
theorem dX1_add_9 : decode cX1_add 9 = .ok (.ifCond .eq 9, 3) := by decide +kernel
theorem dX1_add_12 : decode cX1_add 12 = .ok (.iload_n 1, 1) := by decide +kernel
theorem dX1_add_13 : decode cX1_add 13 = .ok (.iconst 4, 1) := by decide +kernel
theorem dX1_add_14 : decode cX1_add 14 = .ok (.iadd, 1) := by decide +kernel
theorem dX1_add_15 : decode cX1_add 15 = .ok (.goto 4, 3) := by decide +kernel
theorem dX1_add_18 : decode cX1_add 18 = .ok (.iload_n 1, 1) := by decide +kernel
theorem dX1_add_19 : decode cX1_add 19 = .ok (.iastore, 1) := by decide +kernel
theorem dX1_add_20 : decode cX1_add 20 = .ok (.aload_n 0, 1) := by decide +kernel
theorem dX1_add_21 : decode cX1_add 21 = .ok (.aload_n 0, 1) := by decide +kernel
theorem dX1_add_22 : decode cX1_add 22 = .ok (.getfield 23, 3) := by decide +kernel
theorem dX1_add_25 : decode cX1_add 25 = .ok (.iconst 1, 1) := by decide +kernel
theorem dX1_add_26 : decode cX1_add 26 = .ok (.iadd, 1) := by decide +kernel
theorem dX1_add_27 : decode cX1_add 27 = .ok (.sipush 500, 3) := by decide +kernel
theorem dX1_add_30 : decode cX1_add 30 = .ok (.irem, 1) := by decide +kernel
theorem dX1_add_31 : decode cX1_add 31 = .ok (.putfield 23, 3) := by decide +kernel
theorem dX1_add_34 : decode cX1_add 34 = .ok (.aload_n 0, 1) := by decide +kernel
theorem dX1_add_35 : decode cX1_add 35 = .ok (.aload_n 0, 1) := by decide +kernel
theorem dX1_add_36 : decode cX1_add 36 = .ok (.getfield 13, 3) := by decide +kernel
theorem dX1_add_39 : decode cX1_add 39 = .ok (.iconst 1, 1) := by decide +kernel
theorem dX1_add_40 : decode cX1_add 40 = .ok (.iadd, 1) := by decide +kernel
theorem dX1_add_41 : decode cX1_add 41 = .ok (.sipush 500, 3) := by decide +kernel
theorem dX1_add_44 : decode cX1_add 44 = .ok (.invokestatic 26, 3) := by decide +kernel
theorem dX1_add_47 : decode cX1_add 47 = .ok (.putfield 13, 3) := by decide +kernel
theorem dX1_add_50 : decode cX1_add 50 = .ok (.aload_n 0, 1) := by decide +kernel
theorem dX1_add_51 : decode cX1_add 51 = .ok (.dup, 1) := by decide +kernel
theorem dX1_add_52 : decode cX1_add 52 = .ok (.getfield 17, 3) := by decide +kernel
theorem dX1_add_55 : decode cX1_add 55 = .ok (.iconst 1, 1) := by decide +kernel
theorem dX1_add_56 : decode cX1_add 56 = .ok (.iadd, 1) := by decide +kernel
theorem dX1_add_57 : decode cX1_add 57 = .ok (.putfield 17, 3) := by decide +kernel
theorem dX1_add_60 : decode cX1_add 60 = .ok (.aload_n 0, 1) := by decide +kernel
theorem dX1_add_61 : decode cX1_add 61 = .ok (.dup, 1) := by decide +kernel
theorem dX1_add_62 : decode cX1_add 62 = .ok (.getfield 20, 3) := by decide +kernel
theorem dX1_add_65 : decode cX1_add 65 = .ok (.iload_n 2, 1) := by decide +kernel
theorem dX1_add_66 : decode cX1_add 66 = .ok (.ifCond .eq 7, 3) := by decide +kernel
theorem dX1_add_69 : decode cX1_add 69 = .ok (.iconst 1, 1) := by decide +kernel
theorem dX1_add_70 : decode cX1_add 70 = .ok (.goto 4, 3) := by decide +kernel
theorem dX1_add_73 : decode cX1_add 73 = .ok (.iconst 0, 1) := by decide +kernel
theorem dX1_add_74 : decode cX1_add 74 = .ok (.iadd, 1) := by decide +kernel
theorem dX1_add_75 : decode cX1_add 75 = .ok (.putfield 20, 3) := by decide +kernel
theorem dX1_add_78 : decode cX1_add 78 = .ok (.return_, 1) := by decide +kernel
theorem dX1_takeLast_0 : decode cX1_takeLast 0 = .ok (.aload_n 0, 1) := by decide +kernel
theorem dX1_takeLast_1 : decode cX1_takeLast 1 = .ok (.aload_n 0, 1) := by decide +kernel
theorem dX1_takeLast_2 : decode cX1_takeLast 2 = .ok (.getfield 23, 3) := by decide +kernel
theorem dX1_takeLast_5 : decode cX1_takeLast 5 = .ok (.sipush 500, 3) := by decide +kernel
theorem dX1_takeLast_8 : decode cX1_takeLast 8 = .ok (.iadd, 1) := by decide +kernel
theorem dX1_takeLast_9 : decode cX1_takeLast 9 = .ok (.iconst 1, 1) := by decide +kernel
theorem dX1_takeLast_10 : decode cX1_takeLast 10 = .ok (.isub, 1) := by decide +kernel
theorem dX1_takeLast_11 : decode cX1_takeLast 11 = .ok (.sipush 500, 3) := by decide +kernel
theorem dX1_takeLast_14 : decode cX1_takeLast 14 = .ok (.irem, 1) := by decide +kernel
theorem dX1_takeLast_15 : decode cX1_takeLast 15 = .ok (.putfield 23, 3) := by decide +kernel
theorem dX1_takeLast_18 : decode cX1_takeLast 18 = .ok (.aload_n 0, 1) := by decide +kernel
theorem dX1_takeLast_19 : decode cX1_takeLast 19 = .ok (.getfield 9, 3) := by decide +kernel
theorem dX1_takeLast_22 : decode cX1_takeLast 22 = .ok (.aload_n 0, 1) := by decide +kernel
theorem dX1_takeLast_23 : decode cX1_takeLast 23 = .ok (.getfield 23, 3) := by decide +kernel
theorem dX1_takeLast_26 : decode cX1_takeLast 26 = .ok (.iaload, 1) := by decide +kernel
theorem dX1_takeLast_27 : decode cX1_takeLast 27 = .ok (.istore_n 1, 1) := by decide +kernel
theorem dX1_takeLast_28 : decode cX1_takeLast 28 = .ok (.aload_n 0, 1) := by decide +kernel
theorem dX1_takeLast_29 : decode cX1_takeLast 29 = .ok (.dup, 1) := by decide +kernel
theorem dX1_takeLast_30 : decode cX1_takeLast 30 = .ok (.getfield 13, 3) := by decide +kernel
theorem dX1_takeLast_33 : decode cX1_takeLast 33 = .ok (.iconst 1, 1) := by decide +kernel
theorem dX1_takeLast_34 : decode cX1_takeLast 34 = .ok (.isub, 1) := by decide +kernel
theorem dX1_takeLast_35 : decode cX1_takeLast 35 = .ok (.putfield 13, 3) := by decide +kernel
theorem dX1_takeLast_38 : decode cX1_takeLast 38 = .ok (.aload_n 0, 1) := by decide +kernel
theorem dX1_takeLast_39 : decode cX1_takeLast 39 = .ok (.dup, 1) := by decide +kernel
theorem dX1_takeLast_40 : decode cX1_takeLast 40 = .ok (.getfield 17, 3) := by decide +kernel
theorem dX1_takeLast_43 : decode cX1_takeLast 43 = .ok (.iconst 1, 1) := by decide +kernel
theorem dX1_takeLast_44 : decode cX1_takeLast 44 = .ok (.isub, 1) := by decide +kernel
theorem dX1_takeLast_45 : decode cX1_takeLast 45 = .ok (.putfield 17, 3) := by decide +kernel
theorem dX1_takeLast_48 : decode cX1_takeLast 48 = .ok (.aload_n 0, 1) := by decide +kernel
theorem dX1_takeLast_49 : decode cX1_takeLast 49 = .ok (.dup, 1) := by decide +kernel
theorem dX1_takeLast_50 : decode cX1_takeLast 50 = .ok (.getfield 20, 3) := by decide +kernel
theorem dX1_takeLast_53 : decode cX1_takeLast 53 = .ok (.iload_n 1, 1) := by decide +kernel
theorem dX1_takeLast_54 : decode cX1_takeLast 54 = .ok (.invokestatic 32, 3) := by decide +kernel
theorem dX1_takeLast_57 : decode cX1_takeLast 57 = .ok (.ifCond .eq 7, 3) := by decide +kernel
theorem dX1_takeLast_60 : decode cX1_takeLast 60 = .ok (.iconst 1, 1) := by decide +kernel
theorem dX1_takeLast_61 : decode cX1_takeLast 61 = .ok (.goto 4, 3) := by decide +kernel
theorem dX1_takeLast_64 : decode cX1_takeLast 64 = .ok (.iconst 0, 1) := by decide +kernel
theorem dX1_takeLast_65 : decode cX1_takeLast 65 = .ok (.isub, 1) := by decide +kernel
theorem dX1_takeLast_66 : decode cX1_takeLast 66 = .ok (.putfield 20, 3) := by decide +kernel
theorem dX1_takeLast_69 : decode cX1_takeLast 69 = .ok (.iload_n 1, 1) := by decide +kernel
theorem dX1_takeLast_70 : decode cX1_takeLast 70 = .ok (.ireturn, 1) := by decide +kernel
theorem dX1_letterAt_0 : decode cX1_letterAt 0 = .ok (.aload_n 0, 1) := by decide +kernel
theorem dX1_letterAt_1 : decode cX1_letterAt 1 = .ok (.getfield 9, 3) := by decide +kernel
theorem dX1_letterAt_4 : decode cX1_letterAt 4 = .ok (.aload_n 0, 1) := by decide +kernel
theorem dX1_letterAt_5 : decode cX1_letterAt 5 = .ok (.getfield 23, 3) := by decide +kernel
theorem dX1_letterAt_8 : decode cX1_letterAt 8 = .ok (.sipush 500, 3) := by decide +kernel
theorem dX1_letterAt_11 : decode cX1_letterAt 11 = .ok (.iadd, 1) := by decide +kernel
theorem dX1_letterAt_12 : decode cX1_letterAt 12 = .ok (.aload_n 0, 1) := by decide +kernel
theorem dX1_letterAt_13 : decode cX1_letterAt 13 = .ok (.getfield 13, 3) := by decide +kernel
theorem dX1_letterAt_16 : decode cX1_letterAt 16 = .ok (.isub, 1) := by decide +kernel
theorem dX1_letterAt_17 : decode cX1_letterAt 17 = .ok (.iload_n 1, 1) := by decide +kernel
theorem dX1_letterAt_18 : decode cX1_letterAt 18 = .ok (.iadd, 1) := by decide +kernel
theorem dX1_letterAt_19 : decode cX1_letterAt 19 = .ok (.sipush 500, 3) := by decide +kernel
theorem dX1_letterAt_22 : decode cX1_letterAt 22 = .ok (.irem, 1) := by decide +kernel
theorem dX1_letterAt_23 : decode cX1_letterAt 23 = .ok (.iaload, 1) := by decide +kernel
theorem dX1_letterAt_24 : decode cX1_letterAt 24 = .ok (.istore_n 2, 1) := by decide +kernel
theorem dX1_letterAt_25 : decode cX1_letterAt 25 = .ok (.ldc 36, 2) := by decide +kernel
theorem dX1_letterAt_27 : decode cX1_letterAt 27 = .ok (.iload_n 2, 1) := by decide +kernel
theorem dX1_letterAt_28 : decode cX1_letterAt 28 = .ok (.ldc 36, 2) := by decide +kernel
theorem dX1_letterAt_30 : decode cX1_letterAt 30 = .ok (.invokevirtual 38, 3) := by decide +kernel
theorem dX1_letterAt_33 : decode cX1_letterAt 33 = .ok (.iconst 1, 1) := by decide +kernel
theorem dX1_letterAt_34 : decode cX1_letterAt 34 = .ok (.isub, 1) := by decide +kernel
theorem dX1_letterAt_35 : decode cX1_letterAt 35 = .ok (.iand, 1) := by decide +kernel
theorem dX1_letterAt_36 : decode cX1_letterAt 36 = .ok (.invokevirtual 44, 3) := by decide +kernel
theorem dX1_letterAt_39 : decode cX1_letterAt 39 = .ok (.ireturn, 1) := by decide +kernel
theorem dX2_init_0 : decode cX2_init 0 = .ok (.aload_n 0, 1) := by decide +kernel
theorem dX2_init_1 : decode cX2_init 1 = .ok (.invokespecial 3, 3) := by decide +kernel
theorem dX2_init_4 : decode cX2_init 4 = .ok (.aload_n 0, 1) := by decide +kernel
theorem dX2_init_5 : decode cX2_init 5 = .ok (.sipush 169, 3) := by decide +kernel
theorem dX2_init_8 : decode cX2_init 8 = .ok (.newarray .int, 2) := by decide +kernel
theorem dX2_init_10 : decode cX2_init 10 = .ok (.putfield 11, 3) := by decide +kernel
theorem dX2_init_13 : decode cX2_init 13 = .ok (.aload_n 0, 1) := by decide +kernel
theorem dX2_init_14 : decode cX2_init 14 = .ok (.bipush 13, 2) := by decide +kernel
theorem dX2_init_16 : decode cX2_init 16 = .ok (.newarray .int, 2) := by decide +kernel
theorem dX2_init_18 : decode cX2_init 18 = .ok (.putfield 15, 3) := by decide +kernel
theorem dX2_init_21 : decode cX2_init 21 = .ok (.aload_n 0, 1) := by decide +kernel
theorem dX2_init_22 : decode cX2_init 22 = .ok (.bipush 13, 2) := by decide +kernel
theorem dX2_init_24 : decode cX2_init 24 = .ok (.newarray .int, 2) := by decide +kernel
theorem dX2_init_26 : decode cX2_init 26 = .ok (.putfield 18, 3) := by decide +kernel
theorem dX2_init_29 : decode cX2_init 29 = .ok (.aload_n 0, 1) := by decide +kernel
theorem dX2_init_30 : decode cX2_init 30 = .ok (.bipush 13, 2) := by decide +kernel
theorem dX2_init_32 : decode cX2_init 32 = .ok (.newarray .int, 2) := by decide +kernel
theorem dX2_init_34 : decode cX2_init 34 = .ok (.putfield 21, 3) := by decide +kernel
theorem dX2_init_37 : decode cX2_init 37 = .ok (.aload_n 0, 1) := by decide +kernel
theorem dX2_init_38 : decode cX2_init 38 = .ok (.bipush 13, 2) := by decide +kernel
theorem dX2_init_40 : decode cX2_init 40 = .ok (.newarray .int, 2) := by decide +kernel
theorem dX2_init_42 : decode cX2_init 42 = .ok (.putfield 24, 3) := by decide +kernel
theorem dX2_init_45 : decode cX2_init 45 = .ok (.aload_n 0, 1) := by decide +kernel
theorem dX2_init_46 : decode cX2_init 46 = .ok (.bipush 13, 2) := by decide +kernel
theorem dX2_init_48 : decode cX2_init 48 = .ok (.newarray .int, 2) := by decide +kernel
theorem dX2_init_50 : decode cX2_init 50 = .ok (.putfield 27, 3) := by decide +kernel
theorem dX2_init_53 : decode cX2_init 53 = .ok (.aload_n 0, 1) := by decide +kernel
theorem dX2_init_54 : decode cX2_init 54 = .ok (.bipush 13, 2) := by decide +kernel
theorem dX2_init_56 : decode cX2_init 56 = .ok (.newarray .boolean, 2) := by decide +kernel
theorem dX2_init_58 : decode cX2_init 58 = .ok (.putfield 30, 3) := by decide +kernel
theorem dX2_init_61 : decode cX2_init 61 = .ok (.return_, 1) := by decide +kernel
theorem dX2_setCost_0 : decode cX2_setCost 0 = .ok (.iload_n 1, 1) := by decide +kernel
theorem dX2_setCost_1 : decode cX2_setCost 1 = .ok (.ifCond .lt 44, 3) := by decide +kernel
theorem dX2_setCost_4 : decode cX2_setCost 4 = .ok (.iload_n 1, 1) := by decide +kernel
theorem dX2_setCost_5 : decode cX2_setCost 5 = .ok (.bipush 12, 2) := by decide +kernel
theorem dX2_setCost_7 : decode cX2_setCost 7 = .ok (.if_icmp .ge 38, 3) := by decide +kernel
theorem dX2_setCost_10 : decode cX2_setCost 10 = .ok (.iload_n 2, 1) := by decide +kernel
theorem dX2_setCost_11 : decode cX2_setCost 11 = .ok (.ifCond .lt 34, 3) := by decide +kernel
theorem dX2_setCost_14 : decode cX2_setCost 14 = .ok (.iload_n 2, 1) := by decide +kernel
theorem dX2_setCost_15 : decode cX2_setCost 15 = .ok (.bipush 12, 2) := by decide +kernel
theorem dX2_setCost_17 : decode cX2_setCost 17 = .ok (.if_icmp .ge 28, 3) := by decide +kernel
theorem dX2_setCost_20 : decode cX2_setCost 20 = .ok (.aload_n 0, 1) := by decide +kernel
theorem dX2_setCost_21 : decode cX2_setCost 21 = .ok (.getfield 11, 3) := by decide +kernel
theorem dX2_setCost_24 : decode cX2_setCost 24 = .ok (.iload_n 1, 1) := by decide +kernel
theorem dX2_setCost_25 : decode cX2_setCost 25 = .ok (.iconst 1, 1) := by decide +kernel
theorem dX2_setCost_26 : decode cX2_setCost 26 = .ok (.iadd, 1) := by decide +kernel
theorem dX2_setCost_27 : decode cX2_setCost 27 = .ok (.bipush 13, 2) := by decide +kernel
theorem dX2_setCost_29 : decode cX2_setCost 29 = .ok (.imul, 1) := by decide +kernel
theorem dX2_setCost_30 : decode cX2_setCost 30 = .ok (.iload_n 2, 1) := by decide +kernel
theorem dX2_setCost_31 : decode cX2_setCost 31 = .ok (.iadd, 1) := by decide +kernel
theorem dX2_setCost_32 : decode cX2_setCost 32 = .ok (.iconst 1, 1) := by decide +kernel
theorem dX2_setCost_33 : decode cX2_setCost 33 = .ok (.iadd, 1) := by decide +kernel
theorem dX2_setCost_34 : decode cX2_setCost 34 = .ok (.iload_n 3, 1) := by decide +kernel
theorem dX2_setCost_35 : decode cX2_setCost 35 = .ok (.ifCond .ge 8, 3) := by decide +kernel
theorem dX2_setCost_38 : decode cX2_setCost 38 = .ok (.ldc 34, 2) := by decide +kernel
theorem dX2_setCost_40 : decode cX2_setCost 40 = .ok (.goto 4, 3) := by decide +kernel
theorem dX2_setCost_43 : decode cX2_setCost 43 = .ok (.iload_n 3, 1) := by decide +kernel
theorem dX2_setCost_44 : decode cX2_setCost 44 = .ok (.iastore, 1) := by decide +kernel
theorem dX2_setCost_45 : decode cX2_setCost 45 = .ok (.return_, 1) := by decide +kernel
theorem dX2_leastSum_0 : decode cX2_leastSum 0 = .ok (.iload_n 1, 1) := by decide +kernel
theorem dX2_leastSum_1 : decode cX2_leastSum 1 = .ok (.iload_n 2, 1) := by decide +kernel
theorem dX2_leastSum_2 : decode cX2_leastSum 2 = .ok (.if_icmp .gt 9, 3) := by decide +kernel
theorem dX2_leastSum_5 : decode cX2_leastSum 5 = .ok (.iload_n 2, 1) := by decide +kernel
theorem dX2_leastSum_6 : decode cX2_leastSum 6 = .ok (.bipush 12, 2) := by decide +kernel
theorem dX2_leastSum_8 : decode cX2_leastSum 8 = .ok (.if_icmp .le 5, 3) := by decide +kernel
theorem dX2_leastSum_11 : decode cX2_leastSum 11 = .ok (.iconst (-1), 1) := by decide +kernel
theorem dX2_leastSum_12 : decode cX2_leastSum 12 = .ok (.ireturn, 1) := by decide +kernel
theorem dX2_leastSum_13 : decode cX2_leastSum 13 = .ok (.aload_n 0, 1) := by decide +kernel
theorem dX2_leastSum_14 : decode cX2_leastSum 14 = .ok (.getfield 15, 3) := by decide +kernel
theorem dX2_leastSum_17 : decode cX2_leastSum 17 = .ok (.iconst 0, 1) := by decide +kernel
theorem dX2_leastSum_18 : decode cX2_leastSum 18 = .ok (.invokestatic 35, 3) := by decide +kernel
theorem dX2_leastSum_21 : decode cX2_leastSum 21 = .ok (.aload_n 0, 1) := by decide +kernel
theorem dX2_leastSum_22 : decode cX2_leastSum 22 = .ok (.getfield 18, 3) := by decide +kernel
theorem dX2_leastSum_25 : decode cX2_leastSum 25 = .ok (.iconst 0, 1) := by decide +kernel
theorem dX2_leastSum_26 : decode cX2_leastSum 26 = .ok (.invokestatic 35, 3) := by decide +kernel
theorem dX2_leastSum_29 : decode cX2_leastSum 29 = .ok (.aload_n 0, 1) := by decide +kernel
theorem dX2_leastSum_30 : decode cX2_leastSum 30 = .ok (.getfield 21, 3) := by decide +kernel
theorem dX2_leastSum_33 : decode cX2_leastSum 33 = .ok (.iconst 0, 1) := by decide +kernel
theorem dX2_leastSum_34 : decode cX2_leastSum 34 = .ok (.invokestatic 35, 3) := by decide +kernel
theorem dX2_leastSum_37 : decode cX2_leastSum 37 = .ok (.iconst 1, 1) := by decide +kernel
theorem dX2_leastSum_38 : decode cX2_leastSum 38 = .ok (.istore_n 3, 1) := by decide +kernel
theorem dX2_leastSum_39 : decode cX2_leastSum 39 = .ok (.iload_n 3, 1) := by decide +kernel
theorem dX2_leastSum_40 : decode cX2_leastSum 40 = .ok (.iload_n 1, 1) := by decide +kernel
theorem dX2_leastSum_41 : decode cX2_leastSum 41 = .ok (.if_icmp .gt 15, 3) := by decide +kernel
theorem dX2_leastSum_44 : decode cX2_leastSum 44 = .ok (.aload_n 0, 1) := by decide +kernel
theorem dX2_leastSum_45 : decode cX2_leastSum 45 = .ok (.iload_n 3, 1) := by decide +kernel
theorem dX2_leastSum_46 : decode cX2_leastSum 46 = .ok (.iload_n 2, 1) := by decide +kernel
theorem dX2_leastSum_47 : decode cX2_leastSum 47 = .ok (.invokevirtual 41, 3) := by decide +kernel
theorem dX2_leastSum_50 : decode cX2_leastSum 50 = .ok (.iinc 3 1, 3) := by decide +kernel
theorem dX2_leastSum_53 : decode cX2_leastSum 53 = .ok (.goto (-14), 3) := by decide +kernel
theorem dX2_leastSum_56 : decode cX2_leastSum 56 = .ok (.iconst 0, 1) := by decide +kernel
theorem dX2_leastSum_57 : decode cX2_leastSum 57 = .ok (.istore_n 3, 1) := by decide +kernel
theorem dX2_leastSum_58 : decode cX2_leastSum 58 = .ok (.iconst 1, 1) := by decide +kernel
theorem dX2_leastSum_59 : decode cX2_leastSum 59 = .ok (.istore 4, 2) := by decide +kernel
theorem dX2_leastSum_61 : decode cX2_leastSum 61 = .ok (.iload 4, 2) := by decide +kernel
theorem dX2_leastSum_63 : decode cX2_leastSum 63 = .ok (.iload_n 2, 1) := by decide +kernel
theorem dX2_leastSum_64 : decode cX2_leastSum 64 = .ok (.if_icmp .gt 40, 3) := by decide +kernel
theorem dX2_leastSum_67 : decode cX2_leastSum 67 = .ok (.aload_n 0, 1) := by decide +kernel
theorem dX2_leastSum_68 : decode cX2_leastSum 68 = .ok (.getfield 21, 3) := by decide +kernel
theorem dX2_leastSum_71 : decode cX2_leastSum 71 = .ok (.iload 4, 2) := by decide +kernel
theorem dX2_leastSum_73 : decode cX2_leastSum 73 = .ok (.iaload, 1) := by decide +kernel
theorem dX2_leastSum_74 : decode cX2_leastSum 74 = .ok (.ifCond .eq 24, 3) := by decide +kernel
theorem dX2_leastSum_77 : decode cX2_leastSum 77 = .ok (.iload_n 3, 1) := by decide +kernel
theorem dX2_leastSum_78 : decode cX2_leastSum 78 = .ok (.aload_n 0, 1) := by decide +kernel
theorem dX2_leastSum_79 : decode cX2_leastSum 79 = .ok (.getfield 11, 3) := by decide +kernel
theorem dX2_leastSum_82 : decode cX2_leastSum 82 = .ok (.aload_n 0, 1) := by decide +kernel
theorem dX2_leastSum_83 : decode cX2_leastSum 83 = .ok (.getfield 21, 3) := by decide +kernel
theorem dX2_leastSum_86 : decode cX2_leastSum 86 = .ok (.iload 4, 2) := by decide +kernel
theorem dX2_leastSum_88 : decode cX2_leastSum 88 = .ok (.iaload, 1) := by decide +kernel
theorem dX2_leastSum_89 : decode cX2_leastSum 89 = .ok (.bipush 13, 2) := by decide +kernel
theorem dX2_leastSum_91 : decode cX2_leastSum 91 = .ok (.imul, 1) := by decide +kernel
theorem dX2_leastSum_92 : decode cX2_leastSum 92 = .ok (.iload 4, 2) := by decide +kernel
theorem dX2_leastSum_94 : decode cX2_leastSum 94 = .ok (.iadd, 1) := by decide +kernel
theorem dX2_leastSum_95 : decode cX2_leastSum 95 = .ok (.iaload, 1) := by decide +kernel
theorem dX2_leastSum_96 : decode cX2_leastSum 96 = .ok (.iadd, 1) := by decide +kernel
theorem dX2_leastSum_97 : decode cX2_leastSum 97 = .ok (.istore_n 3, 1) := by decide +kernel
theorem dX2_leastSum_98 : decode cX2_leastSum 98 = .ok (.iinc 4 1, 3) := by decide +kernel
theorem dX2_leastSum_101 : decode cX2_leastSum 101 = .ok (.goto (-40), 3) := by decide +kernel
theorem dX2_leastSum_104 : decode cX2_leastSum 104 = .ok (.iload_n 3, 1) := by decide +kernel
theorem dX2_leastSum_105 : decode cX2_leastSum 105 = .ok (.ldc 34, 2) := by decide +kernel
theorem dX2_leastSum_107 : decode cX2_leastSum 107 = .ok (.if_icmp .lt 7, 3) := by decide +kernel
theorem dX2_leastSum_110 : decode cX2_leastSum 110 = .ok (.iconst (-1), 1) := by decide +kernel
theorem dX2_leastSum_111 : decode cX2_leastSum 111 = .ok (.goto 4, 3) := by decide +kernel
theorem dX2_leastSum_114 : decode cX2_leastSum 114 = .ok (.iload_n 3, 1) := by decide +kernel
theorem dX2_leastSum_115 : decode cX2_leastSum 115 = .ok (.ireturn, 1) := by decide +kernel
theorem dX2_giveBoxTo_0 : decode cX2_giveBoxTo 0 = .ok (.aload_n 0, 1) := by decide +kernel
theorem dX2_giveBoxTo_1 : decode cX2_giveBoxTo 1 = .ok (.getfield 21, 3) := by decide +kernel
theorem dX2_giveBoxTo_4 : decode cX2_giveBoxTo 4 = .ok (.iconst 0, 1) := by decide +kernel
theorem dX2_giveBoxTo_5 : decode cX2_giveBoxTo 5 = .ok (.iload_n 1, 1) := by decide +kernel
theorem dX2_giveBoxTo_6 : decode cX2_giveBoxTo 6 = .ok (.iastore, 1) := by decide +kernel
theorem dX2_giveBoxTo_7 : decode cX2_giveBoxTo 7 = .ok (.iconst 0, 1) := by decide +kernel
theorem dX2_giveBoxTo_8 : decode cX2_giveBoxTo 8 = .ok (.istore_n 3, 1) := by decide +kernel
theorem dX2_giveBoxTo_9 : decode cX2_giveBoxTo 9 = .ok (.iload_n 3, 1) := by decide +kernel
theorem dX2_giveBoxTo_10 : decode cX2_giveBoxTo 10 = .ok (.iload_n 2, 1) := by decide +kernel
theorem dX2_giveBoxTo_11 : decode cX2_giveBoxTo 11 = .ok (.if_icmp .gt 24, 3) := by decide +kernel
theorem dX2_giveBoxTo_14 : decode cX2_giveBoxTo 14 = .ok (.aload_n 0, 1) := by decide +kernel
theorem dX2_giveBoxTo_15 : decode cX2_giveBoxTo 15 = .ok (.getfield 27, 3) := by decide +kernel
theorem dX2_giveBoxTo_18 : decode cX2_giveBoxTo 18 = .ok (.iload_n 3, 1) := by decide +kernel
theorem dX2_giveBoxTo_19 : decode cX2_giveBoxTo 19 = .ok (.ldc 45, 2) := by decide +kernel
theorem dX2_giveBoxTo_21 : decode cX2_giveBoxTo 21 = .ok (.iastore, 1) := by decide +kernel
theorem dX2_giveBoxTo_22 : decode cX2_giveBoxTo 22 = .ok (.aload_n 0, 1) := by decide +kernel
theorem dX2_giveBoxTo_23 : decode cX2_giveBoxTo 23 = .ok (.getfield 30, 3) := by decide +kernel
theorem dX2_giveBoxTo_26 : decode cX2_giveBoxTo 26 = .ok (.iload_n 3, 1) := by decide +kernel
theorem dX2_giveBoxTo_27 : decode cX2_giveBoxTo 27 = .ok (.iconst 0, 1) := by decide +kernel
theorem dX2_giveBoxTo_28 : decode cX2_giveBoxTo 28 = .ok (.bastore, 1) := by decide +kernel
theorem dX2_giveBoxTo_29 : decode cX2_giveBoxTo 29 = .ok (.iinc 3 1, 3) := by decide +kernel
theorem dX2_giveBoxTo_32 : decode cX2_giveBoxTo 32 = .ok (.goto (-23), 3) := by decide +kernel
theorem dX2_giveBoxTo_35 : decode cX2_giveBoxTo 35 = .ok (.iconst 0, 1) := by decide +kernel
theorem dX2_giveBoxTo_36 : decode cX2_giveBoxTo 36 = .ok (.istore_n 3, 1) := by decide +kernel
theorem dX2_giveBoxTo_37 : decode cX2_giveBoxTo 37 = .ok (.iconst 0, 1) := by decide +kernel
theorem dX2_giveBoxTo_38 : decode cX2_giveBoxTo 38 = .ok (.istore 4, 2) := by decide +kernel
theorem dX2_giveBoxTo_40 : decode cX2_giveBoxTo 40 = .ok (.iload 4, 2) := by decide +kernel
theorem dX2_giveBoxTo_42 : decode cX2_giveBoxTo 42 = .ok (.iload_n 2, 1) := by decide +kernel
theorem dX2_giveBoxTo_43 : decode cX2_giveBoxTo 43 = .ok (.if_icmp .gt 35, 3) := by decide +kernel
theorem dX2_giveBoxTo_46 : decode cX2_giveBoxTo 46 = .ok (.aload_n 0, 1) := by decide +kernel
theorem dX2_giveBoxTo_47 : decode cX2_giveBoxTo 47 = .ok (.getfield 30, 3) := by decide +kernel
theorem dX2_giveBoxTo_50 : decode cX2_giveBoxTo 50 = .ok (.iload_n 3, 1) := by decide +kernel
theorem dX2_giveBoxTo_51 : decode cX2_giveBoxTo 51 = .ok (.iconst 1, 1) := by decide +kernel
theorem dX2_giveBoxTo_52 : decode cX2_giveBoxTo 52 = .ok (.bastore, 1) := by decide +kernel
theorem dX2_giveBoxTo_53 : decode cX2_giveBoxTo 53 = .ok (.aload_n 0, 1) := by decide +kernel
theorem dX2_giveBoxTo_54 : decode cX2_giveBoxTo 54 = .ok (.iload_n 3, 1) := by decide +kernel
theorem dX2_giveBoxTo_55 : decode cX2_giveBoxTo 55 = .ok (.iload_n 2, 1) := by decide +kernel
theorem dX2_giveBoxTo_56 : decode cX2_giveBoxTo 56 = .ok (.invokevirtual 46, 3) := by decide +kernel
theorem dX2_giveBoxTo_59 : decode cX2_giveBoxTo 59 = .ok (.istore_n 3, 1) := by decide +kernel
theorem dX2_giveBoxTo_60 : decode cX2_giveBoxTo 60 = .ok (.aload_n 0, 1) := by decide +kernel
theorem dX2_giveBoxTo_61 : decode cX2_giveBoxTo 61 = .ok (.getfield 21, 3) := by decide +kernel
theorem dX2_giveBoxTo_64 : decode cX2_giveBoxTo 64 = .ok (.iload_n 3, 1) := by decide +kernel
theorem dX2_giveBoxTo_65 : decode cX2_giveBoxTo 65 = .ok (.iaload, 1) := by decide +kernel
theorem dX2_giveBoxTo_66 : decode cX2_giveBoxTo 66 = .ok (.ifCond .ne 6, 3) := by decide +kernel
theorem dX2_giveBoxTo_69 : decode cX2_giveBoxTo 69 = .ok (.goto 9, 3) := by decide +kernel
theorem dX2_giveBoxTo_72 : decode cX2_giveBoxTo 72 = .ok (.iinc 4 1, 3) := by decide +kernel
theorem dX2_giveBoxTo_75 : decode cX2_giveBoxTo 75 = .ok (.goto (-35), 3) := by decide +kernel
theorem dX2_giveBoxTo_78 : decode cX2_giveBoxTo 78 = .ok (.iconst 0, 1) := by decide +kernel
theorem dX2_giveBoxTo_79 : decode cX2_giveBoxTo 79 = .ok (.istore 4, 2) := by decide +kernel
theorem dX2_giveBoxTo_81 : decode cX2_giveBoxTo 81 = .ok (.iload 4, 2) := by decide +kernel
theorem dX2_giveBoxTo_83 : decode cX2_giveBoxTo 83 = .ok (.iload_n 2, 1) := by decide +kernel
theorem dX2_giveBoxTo_84 : decode cX2_giveBoxTo 84 = .ok (.if_icmp .gt 37, 3) := by decide +kernel
theorem dX2_giveBoxTo_87 : decode cX2_giveBoxTo 87 = .ok (.iload_n 3, 1) := by decide +kernel
theorem dX2_giveBoxTo_88 : decode cX2_giveBoxTo 88 = .ok (.ifCond .eq 33, 3) := by decide +kernel
theorem dX2_giveBoxTo_91 : decode cX2_giveBoxTo 91 = .ok (.aload_n 0, 1) := by decide +kernel
theorem dX2_giveBoxTo_92 : decode cX2_giveBoxTo 92 = .ok (.getfield 24, 3) := by decide +kernel
theorem dX2_giveBoxTo_95 : decode cX2_giveBoxTo 95 = .ok (.iload_n 3, 1) := by decide +kernel
theorem dX2_giveBoxTo_96 : decode cX2_giveBoxTo 96 = .ok (.iaload, 1) := by decide +kernel
theorem dX2_giveBoxTo_97 : decode cX2_giveBoxTo 97 = .ok (.istore 5, 2) := by decide +kernel
theorem dX2_giveBoxTo_99 : decode cX2_giveBoxTo 99 = .ok (.aload_n 0, 1) := by decide +kernel
theorem dX2_giveBoxTo_100 : decode cX2_giveBoxTo 100 = .ok (.getfield 21, 3) := by decide +kernel
theorem dX2_giveBoxTo_103 : decode cX2_giveBoxTo 103 = .ok (.iload_n 3, 1) := by decide +kernel
theorem dX2_giveBoxTo_104 : decode cX2_giveBoxTo 104 = .ok (.aload_n 0, 1) := by decide +kernel
theorem dX2_giveBoxTo_105 : decode cX2_giveBoxTo 105 = .ok (.getfield 21, 3) := by decide +kernel
theorem dX2_giveBoxTo_108 : decode cX2_giveBoxTo 108 = .ok (.iload 5, 2) := by decide +kernel
theorem dX2_giveBoxTo_110 : decode cX2_giveBoxTo 110 = .ok (.iaload, 1) := by decide +kernel
theorem dX2_giveBoxTo_111 : decode cX2_giveBoxTo 111 = .ok (.iastore, 1) := by decide +kernel
theorem dX2_giveBoxTo_112 : decode cX2_giveBoxTo 112 = .ok (.iload 5, 2) := by decide +kernel
theorem dX2_giveBoxTo_114 : decode cX2_giveBoxTo 114 = .ok (.istore_n 3, 1) := by decide +kernel
theorem dX2_giveBoxTo_115 : decode cX2_giveBoxTo 115 = .ok (.iinc 4 1, 3) := by decide +kernel
theorem dX2_giveBoxTo_118 : decode cX2_giveBoxTo 118 = .ok (.goto (-37), 3) := by decide +kernel
theorem dX2_giveBoxTo_121 : decode cX2_giveBoxTo 121 = .ok (.return_, 1) := by decide +kernel
theorem dX2_nextBox_0 : decode cX2_nextBox 0 = .ok (.aload_n 0, 1) := by decide +kernel
theorem dX2_nextBox_1 : decode cX2_nextBox 1 = .ok (.getfield 21, 3) := by decide +kernel
theorem dX2_nextBox_4 : decode cX2_nextBox 4 = .ok (.iload_n 1, 1) := by decide +kernel
theorem dX2_nextBox_5 : decode cX2_nextBox 5 = .ok (.iaload, 1) := by decide +kernel
theorem dX2_nextBox_6 : decode cX2_nextBox 6 = .ok (.istore_n 3, 1) := by decide +kernel
theorem dX2_nextBox_7 : decode cX2_nextBox 7 = .ok (.ldc 45, 2) := by decide +kernel
theorem dX2_nextBox_9 : decode cX2_nextBox 9 = .ok (.istore 4, 2) := by decide +kernel
theorem dX2_nextBox_11 : decode cX2_nextBox 11 = .ok (.iconst 0, 1) := by decide +kernel
theorem dX2_nextBox_12 : decode cX2_nextBox 12 = .ok (.istore 5, 2) := by decide +kernel
theorem dX2_nextBox_14 : decode cX2_nextBox 14 = .ok (.iconst 1, 1) := by decide +kernel
theorem dX2_nextBox_15 : decode cX2_nextBox 15 = .ok (.istore 6, 2) := by decide +kernel
theorem dX2_nextBox_17 : decode cX2_nextBox 17 = .ok (.iload 6, 2) := by decide +kernel
theorem dX2_nextBox_19 : decode cX2_nextBox 19 = .ok (.iload_n 2, 1) := by decide +kernel
theorem dX2_nextBox_20 : decode cX2_nextBox 20 = .ok (.if_icmp .gt 105, 3) := by decide +kernel
theorem dX2_nextBox_23 : decode cX2_nextBox 23 = .ok (.aload_n 0, 1) := by decide +kernel
theorem dX2_nextBox_24 : decode cX2_nextBox 24 = .ok (.getfield 30, 3) := by decide +kernel
theorem dX2_nextBox_27 : decode cX2_nextBox 27 = .ok (.iload 6, 2) := by decide +kernel
theorem dX2_nextBox_29 : decode cX2_nextBox 29 = .ok (.baload, 1) := by decide +kernel
theorem dX2_nextBox_30 : decode cX2_nextBox 30 = .ok (.ifCond .eq 6, 3) := by decide +kernel
theorem dX2_nextBox_33 : decode cX2_nextBox 33 = .ok (.goto 86, 3) := by decide +kernel
theorem dX2_nextBox_36 : decode cX2_nextBox 36 = .ok (.aload_n 0, 1) := by decide +kernel
theorem dX2_nextBox_37 : decode cX2_nextBox 37 = .ok (.getfield 11, 3) := by decide +kernel
theorem dX2_nextBox_40 : decode cX2_nextBox 40 = .ok (.iload_n 3, 1) := by decide +kernel
theorem dX2_nextBox_41 : decode cX2_nextBox 41 = .ok (.bipush 13, 2) := by decide +kernel
theorem dX2_nextBox_43 : decode cX2_nextBox 43 = .ok (.imul, 1) := by decide +kernel
theorem dX2_nextBox_44 : decode cX2_nextBox 44 = .ok (.iload 6, 2) := by decide +kernel
theorem dX2_nextBox_46 : decode cX2_nextBox 46 = .ok (.iadd, 1) := by decide +kernel
theorem dX2_nextBox_47 : decode cX2_nextBox 47 = .ok (.iaload, 1) := by decide +kernel
theorem dX2_nextBox_48 : decode cX2_nextBox 48 = .ok (.aload_n 0, 1) := by decide +kernel
theorem dX2_nextBox_49 : decode cX2_nextBox 49 = .ok (.getfield 15, 3) := by decide +kernel
theorem dX2_nextBox_52 : decode cX2_nextBox 52 = .ok (.iload_n 3, 1) := by decide +kernel
theorem dX2_nextBox_53 : decode cX2_nextBox 53 = .ok (.iaload, 1) := by decide +kernel
theorem dX2_nextBox_54 : decode cX2_nextBox 54 = .ok (.isub, 1) := by decide +kernel
theorem dX2_nextBox_55 : decode cX2_nextBox 55 = .ok (.aload_n 0, 1) := by decide +kernel
theorem dX2_nextBox_56 : decode cX2_nextBox 56 = .ok (.getfield 18, 3) := by decide +kernel
theorem dX2_nextBox_59 : decode cX2_nextBox 59 = .ok (.iload 6, 2) := by decide +kernel
theorem dX2_nextBox_61 : decode cX2_nextBox 61 = .ok (.iaload, 1) := by decide +kernel
theorem dX2_nextBox_62 : decode cX2_nextBox 62 = .ok (.isub, 1) := by decide +kernel
theorem dX2_nextBox_63 : decode cX2_nextBox 63 = .ok (.istore 7, 2) := by decide +kernel
theorem dX2_nextBox_65 : decode cX2_nextBox 65 = .ok (.iload 7, 2) := by decide +kernel
theorem dX2_nextBox_67 : decode cX2_nextBox 67 = .ok (.aload_n 0, 1) := by decide +kernel
theorem dX2_nextBox_68 : decode cX2_nextBox 68 = .ok (.getfield 27, 3) := by decide +kernel
theorem dX2_nextBox_71 : decode cX2_nextBox 71 = .ok (.iload 6, 2) := by decide +kernel
theorem dX2_nextBox_73 : decode cX2_nextBox 73 = .ok (.iaload, 1) := by decide +kernel
theorem dX2_nextBox_74 : decode cX2_nextBox 74 = .ok (.if_icmp .ge 20, 3) := by decide +kernel
theorem dX2_nextBox_77 : decode cX2_nextBox 77 = .ok (.aload_n 0, 1) := by decide +kernel
theorem dX2_nextBox_78 : decode cX2_nextBox 78 = .ok (.getfield 27, 3) := by decide +kernel
theorem dX2_nextBox_81 : decode cX2_nextBox 81 = .ok (.iload 6, 2) := by decide +kernel
theorem dX2_nextBox_83 : decode cX2_nextBox 83 = .ok (.iload 7, 2) := by decide +kernel
theorem dX2_nextBox_85 : decode cX2_nextBox 85 = .ok (.iastore, 1) := by decide +kernel
theorem dX2_nextBox_86 : decode cX2_nextBox 86 = .ok (.aload_n 0, 1) := by decide +kernel
theorem dX2_nextBox_87 : decode cX2_nextBox 87 = .ok (.getfield 24, 3) := by decide +kernel
theorem dX2_nextBox_90 : decode cX2_nextBox 90 = .ok (.iload 6, 2) := by decide +kernel
theorem dX2_nextBox_92 : decode cX2_nextBox 92 = .ok (.iload_n 1, 1) := by decide +kernel
theorem dX2_nextBox_93 : decode cX2_nextBox 93 = .ok (.iastore, 1) := by decide +kernel
theorem dX2_nextBox_94 : decode cX2_nextBox 94 = .ok (.aload_n 0, 1) := by decide +kernel
theorem dX2_nextBox_95 : decode cX2_nextBox 95 = .ok (.getfield 27, 3) := by decide +kernel
theorem dX2_nextBox_98 : decode cX2_nextBox 98 = .ok (.iload 6, 2) := by decide +kernel
theorem dX2_nextBox_100 : decode cX2_nextBox 100 = .ok (.iaload, 1) := by decide +kernel
theorem dX2_nextBox_101 : decode cX2_nextBox 101 = .ok (.iload 4, 2) := by decide +kernel
theorem dX2_nextBox_103 : decode cX2_nextBox 103 = .ok (.if_icmp .ge 16, 3) := by decide +kernel
theorem dX2_nextBox_106 : decode cX2_nextBox 106 = .ok (.aload_n 0, 1) := by decide +kernel
theorem dX2_nextBox_107 : decode cX2_nextBox 107 = .ok (.getfield 27, 3) := by decide +kernel
theorem dX2_nextBox_110 : decode cX2_nextBox 110 = .ok (.iload 6, 2) := by decide +kernel
theorem dX2_nextBox_112 : decode cX2_nextBox 112 = .ok (.iaload, 1) := by decide +kernel
theorem dX2_nextBox_113 : decode cX2_nextBox 113 = .ok (.istore 4, 2) := by decide +kernel
theorem dX2_nextBox_115 : decode cX2_nextBox 115 = .ok (.iload 6, 2) := by decide +kernel
theorem dX2_nextBox_117 : decode cX2_nextBox 117 = .ok (.istore 5, 2) := by decide +kernel
theorem dX2_nextBox_119 : decode cX2_nextBox 119 = .ok (.iinc 6 1, 3) := by decide +kernel
theorem dX2_nextBox_122 : decode cX2_nextBox 122 = .ok (.goto (-105), 3) := by decide +kernel
theorem dX2_nextBox_125 : decode cX2_nextBox 125 = .ok (.iconst 0, 1) := by decide +kernel
theorem dX2_nextBox_126 : decode cX2_nextBox 126 = .ok (.istore 6, 2) := by decide +kernel
theorem dX2_nextBox_128 : decode cX2_nextBox 128 = .ok (.iload 6, 2) := by decide +kernel
theorem dX2_nextBox_130 : decode cX2_nextBox 130 = .ok (.iload_n 2, 1) := by decide +kernel
theorem dX2_nextBox_131 : decode cX2_nextBox 131 = .ok (.if_icmp .gt 63, 3) := by decide +kernel
theorem dX2_nextBox_134 : decode cX2_nextBox 134 = .ok (.aload_n 0, 1) := by decide +kernel
theorem dX2_nextBox_135 : decode cX2_nextBox 135 = .ok (.getfield 30, 3) := by decide +kernel
theorem dX2_nextBox_138 : decode cX2_nextBox 138 = .ok (.iload 6, 2) := by decide +kernel
theorem dX2_nextBox_140 : decode cX2_nextBox 140 = .ok (.baload, 1) := by decide +kernel
theorem dX2_nextBox_141 : decode cX2_nextBox 141 = .ok (.ifCond .eq 35, 3) := by decide +kernel
theorem dX2_nextBox_144 : decode cX2_nextBox 144 = .ok (.aload_n 0, 1) := by decide +kernel
theorem dX2_nextBox_145 : decode cX2_nextBox 145 = .ok (.getfield 15, 3) := by decide +kernel
theorem dX2_nextBox_148 : decode cX2_nextBox 148 = .ok (.aload_n 0, 1) := by decide +kernel
theorem dX2_nextBox_149 : decode cX2_nextBox 149 = .ok (.getfield 21, 3) := by decide +kernel
theorem dX2_nextBox_152 : decode cX2_nextBox 152 = .ok (.iload 6, 2) := by decide +kernel
theorem dX2_nextBox_154 : decode cX2_nextBox 154 = .ok (.iaload, 1) := by decide +kernel
theorem dX2_nextBox_155 : decode cX2_nextBox 155 = .ok (.dup2, 1) := by decide +kernel
theorem dX2_nextBox_156 : decode cX2_nextBox 156 = .ok (.iaload, 1) := by decide +kernel
theorem dX2_nextBox_157 : decode cX2_nextBox 157 = .ok (.iload 4, 2) := by decide +kernel
theorem dX2_nextBox_159 : decode cX2_nextBox 159 = .ok (.iadd, 1) := by decide +kernel
theorem dX2_nextBox_160 : decode cX2_nextBox 160 = .ok (.iastore, 1) := by decide +kernel
theorem dX2_nextBox_161 : decode cX2_nextBox 161 = .ok (.aload_n 0, 1) := by decide +kernel
theorem dX2_nextBox_162 : decode cX2_nextBox 162 = .ok (.getfield 18, 3) := by decide +kernel
theorem dX2_nextBox_165 : decode cX2_nextBox 165 = .ok (.iload 6, 2) := by decide +kernel
theorem dX2_nextBox_167 : decode cX2_nextBox 167 = .ok (.dup2, 1) := by decide +kernel
theorem dX2_nextBox_168 : decode cX2_nextBox 168 = .ok (.iaload, 1) := by decide +kernel
theorem dX2_nextBox_169 : decode cX2_nextBox 169 = .ok (.iload 4, 2) := by decide +kernel
theorem dX2_nextBox_171 : decode cX2_nextBox 171 = .ok (.isub, 1) := by decide +kernel
theorem dX2_nextBox_172 : decode cX2_nextBox 172 = .ok (.iastore, 1) := by decide +kernel
theorem dX2_nextBox_173 : decode cX2_nextBox 173 = .ok (.goto 15, 3) := by decide +kernel
theorem dX2_nextBox_176 : decode cX2_nextBox 176 = .ok (.aload_n 0, 1) := by decide +kernel
theorem dX2_nextBox_177 : decode cX2_nextBox 177 = .ok (.getfield 27, 3) := by decide +kernel
theorem dX2_nextBox_180 : decode cX2_nextBox 180 = .ok (.iload 6, 2) := by decide +kernel
theorem dX2_nextBox_182 : decode cX2_nextBox 182 = .ok (.dup2, 1) := by decide +kernel
theorem dX2_nextBox_183 : decode cX2_nextBox 183 = .ok (.iaload, 1) := by decide +kernel
theorem dX2_nextBox_184 : decode cX2_nextBox 184 = .ok (.iload 4, 2) := by decide +kernel
theorem dX2_nextBox_186 : decode cX2_nextBox 186 = .ok (.isub, 1) := by decide +kernel
theorem dX2_nextBox_187 : decode cX2_nextBox 187 = .ok (.iastore, 1) := by decide +kernel
theorem dX2_nextBox_188 : decode cX2_nextBox 188 = .ok (.iinc 6 1, 3) := by decide +kernel
theorem dX2_nextBox_191 : decode cX2_nextBox 191 = .ok (.goto (-63), 3) := by decide +kernel
theorem dX2_nextBox_194 : decode cX2_nextBox 194 = .ok (.iload 5, 2) := by decide +kernel
theorem dX2_nextBox_196 : decode cX2_nextBox 196 = .ok (.ireturn, 1) := by decide +kernel
theorem dX4_init_0 : decode cX4_init 0 = .ok (.aload_n 0, 1) := by decide +kernel
theorem dX4_init_1 : decode cX4_init 1 = .ok (.invokespecial 3, 3) := by decide +kernel
theorem dX4_init_4 : decode cX4_init 4 = .ok (.aload_n 0, 1) := by decide +kernel
theorem dX4_init_5 : decode cX4_init 5 = .ok (.sipush 128, 3) := by decide +kernel
theorem dX4_init_8 : decode cX4_init 8 = .ok (.newarray .long, 2) := by decide +kernel
theorem dX4_init_10 : decode cX4_init 10 = .ok (.putfield 11, 3) := by decide +kernel
theorem dX4_init_13 : decode cX4_init 13 = .ok (.aload_n 0, 1) := by decide +kernel
theorem dX4_init_14 : decode cX4_init 14 = .ok (.sipush 128, 3) := by decide +kernel
theorem dX4_init_17 : decode cX4_init 17 = .ok (.newarray .int, 2) := by decide +kernel
theorem dX4_init_19 : decode cX4_init 19 = .ok (.putfield 15, 3) := by decide +kernel
theorem dX4_init_22 : decode cX4_init 22 = .ok (.aload_n 0, 1) := by decide +kernel
theorem dX4_init_23 : decode cX4_init 23 = .ok (.sipush 128, 3) := by decide +kernel
theorem dX4_init_26 : decode cX4_init 26 = .ok (.newarray .int, 2) := by decide +kernel
theorem dX4_init_28 : decode cX4_init 28 = .ok (.putfield 19, 3) := by decide +kernel
theorem dX4_init_31 : decode cX4_init 31 = .ok (.aload_n 0, 1) := by decide +kernel
theorem dX4_init_32 : decode cX4_init 32 = .ok (.sipush 128, 3) := by decide +kernel
theorem dX4_init_35 : decode cX4_init 35 = .ok (.newarray .int, 2) := by decide +kernel
theorem dX4_init_37 : decode cX4_init 37 = .ok (.putfield 22, 3) := by decide +kernel
theorem dX4_init_40 : decode cX4_init 40 = .ok (.aload_n 0, 1) := by decide +kernel
theorem dX4_init_41 : decode cX4_init 41 = .ok (.sipush 256, 3) := by decide +kernel
theorem dX4_init_44 : decode cX4_init 44 = .ok (.newarray .int, 2) := by decide +kernel
theorem dX4_init_46 : decode cX4_init 46 = .ok (.putfield 25, 3) := by decide +kernel
theorem dX4_init_49 : decode cX4_init 49 = .ok (.return_, 1) := by decide +kernel
theorem dX4_run_0 : decode cX4_run 0 = .ok (.aload_n 0, 1) := by decide +kernel
theorem dX4_run_1 : decode cX4_run 1 = .ok (.getfield 25, 3) := by decide +kernel
theorem dX4_run_4 : decode cX4_run 4 = .ok (.iconst 0, 1) := by decide +kernel
theorem dX4_run_5 : decode cX4_run 5 = .ok (.invokestatic 28, 3) := by decide +kernel
theorem dX4_run_8 : decode cX4_run 8 = .ok (.aload_n 0, 1) := by decide +kernel
theorem dX4_run_9 : decode cX4_run 9 = .ok (.iconst 0, 1) := by decide +kernel
theorem dX4_run_10 : decode cX4_run 10 = .ok (.putfield 34, 3) := by decide +kernel
theorem dX4_run_13 : decode cX4_run 13 = .ok (.aload_n 0, 1) := by decide +kernel
theorem dX4_run_14 : decode cX4_run 14 = .ok (.iconst 0, 1) := by decide +kernel
theorem dX4_run_15 : decode cX4_run 15 = .ok (.putfield 38, 3) := by decide +kernel
theorem dX4_run_18 : decode cX4_run 18 = .ok (.aload_n 0, 1) := by decide +kernel
theorem dX4_run_19 : decode cX4_run 19 = .ok (.iconst (-1), 1) := by decide +kernel
theorem dX4_run_20 : decode cX4_run 20 = .ok (.putfield 41, 3) := by decide +kernel
theorem dX4_run_23 : decode cX4_run 23 = .ok (.aload_n 0, 1) := by decide +kernel
theorem dX4_run_24 : decode cX4_run 24 = .ok (.iconst 0, 1) := by decide +kernel
theorem dX4_run_25 : decode cX4_run 25 = .ok (.putfield 44, 3) := by decide +kernel
theorem dX4_run_28 : decode cX4_run 28 = .ok (.aload_n 1, 1) := by decide +kernel
theorem dX4_run_29 : decode cX4_run 29 = .ok (.aload_n 1, 1) := by decide +kernel
theorem dX4_run_30 : decode cX4_run 30 = .ok (.getfield 48, 3) := by decide +kernel
theorem dX4_run_33 : decode cX4_run 33 = .ok (.aload_n 1, 1) := by decide +kernel
theorem dX4_run_34 : decode cX4_run 34 = .ok (.getfield 54, 3) := by decide +kernel
theorem dX4_run_37 : decode cX4_run 37 = .ok (.invokevirtual 57, 3) := by decide +kernel
theorem dX4_run_40 : decode cX4_run 40 = .ok (.invokestatic 61, 3) := by decide +kernel
theorem dX4_run_43 : decode cX4_run 43 = .ok (.istore_n 3, 1) := by decide +kernel
theorem dX4_run_44 : decode cX4_run 44 = .ok (.aload_n 0, 1) := by decide +kernel
theorem dX4_run_45 : decode cX4_run 45 = .ok (.aload_n 1, 1) := by decide +kernel
theorem dX4_run_46 : decode cX4_run 46 = .ok (.getfield 54, 3) := by decide +kernel
theorem dX4_run_49 : decode cX4_run 49 = .ok (.iload_n 3, 1) := by decide +kernel
theorem dX4_run_50 : decode cX4_run 50 = .ok (.iconst 0, 1) := by decide +kernel
theorem dX4_run_51 : decode cX4_run 51 = .ok (.iconst 0, 1) := by decide +kernel
theorem dX4_run_52 : decode cX4_run 52 = .ok (.invokevirtual 65, 3) := by decide +kernel
theorem dX4_run_55 : decode cX4_run 55 = .ok (.aload_n 1, 1) := by decide +kernel
theorem dX4_run_56 : decode cX4_run 56 = .ok (.aload_n 1, 1) := by decide +kernel
theorem dX4_run_57 : decode cX4_run 57 = .ok (.getfield 54, 3) := by decide +kernel
theorem dX4_run_60 : decode cX4_run 60 = .ok (.invokevirtual 69, 3) := by decide +kernel
theorem dX4_run_63 : decode cX4_run 63 = .ok (.ifCond .eq 8, 3) := by decide +kernel
theorem dX4_run_66 : decode cX4_run 66 = .ok (.aload_n 0, 1) := by decide +kernel
theorem dX4_run_67 : decode cX4_run 67 = .ok (.iconst 0, 1) := by decide +kernel
theorem dX4_run_68 : decode cX4_run 68 = .ok (.putfield 41, 3) := by decide +kernel
theorem dX4_run_71 : decode cX4_run 71 = .ok (.iconst 0, 1) := by decide +kernel
theorem dX4_run_72 : decode cX4_run 72 = .ok (.istore 4, 2) := by decide +kernel
theorem dX4_run_74 : decode cX4_run 74 = .ok (.iload 4, 2) := by decide +kernel
theorem dX4_run_76 : decode cX4_run 76 = .ok (.aload_n 0, 1) := by decide +kernel
theorem dX4_run_77 : decode cX4_run 77 = .ok (.getfield 34, 3) := by decide +kernel
theorem dX4_run_80 : decode cX4_run 80 = .ok (.if_icmp .ge 42, 3) := by decide +kernel
theorem dX4_run_83 : decode cX4_run 83 = .ok (.iload 4, 2) := by decide +kernel
theorem dX4_run_85 : decode cX4_run 85 = .ok (.sipush 10000, 3) := by decide +kernel
theorem dX4_run_88 : decode cX4_run 88 = .ok (.if_icmp .ge 34, 3) := by decide +kernel
theorem dX4_run_91 : decode cX4_run 91 = .ok (.aload_n 0, 1) := by decide +kernel
theorem dX4_run_92 : decode cX4_run 92 = .ok (.getfield 41, 3) := by decide +kernel
theorem dX4_run_95 : decode cX4_run 95 = .ok (.ifCond .ge 27, 3) := by decide +kernel
theorem dX4_run_98 : decode cX4_run 98 = .ok (.aload_n 0, 1) := by decide +kernel
theorem dX4_run_99 : decode cX4_run 99 = .ok (.getfield 44, 3) := by decide +kernel
theorem dX4_run_102 : decode cX4_run 102 = .ok (.ifCond .eq 6, 3) := by decide +kernel
theorem dX4_run_105 : decode cX4_run 105 = .ok (.goto 17, 3) := by decide +kernel
theorem dX4_run_108 : decode cX4_run 108 = .ok (.aload_n 0, 1) := by decide +kernel
theorem dX4_run_109 : decode cX4_run 109 = .ok (.aload_n 1, 1) := by decide +kernel
theorem dX4_run_110 : decode cX4_run 110 = .ok (.iload 4, 2) := by decide +kernel
theorem dX4_run_112 : decode cX4_run 112 = .ok (.iload_n 2, 1) := by decide +kernel
theorem dX4_run_113 : decode cX4_run 113 = .ok (.invokevirtual 73, 3) := by decide +kernel
theorem dX4_run_116 : decode cX4_run 116 = .ok (.iinc 4 1, 3) := by decide +kernel
theorem dX4_run_119 : decode cX4_run 119 = .ok (.goto (-45), 3) := by decide +kernel
theorem dX4_run_122 : decode cX4_run 122 = .ok (.aload_n 0, 1) := by decide +kernel
theorem dX4_run_123 : decode cX4_run 123 = .ok (.getfield 44, 3) := by decide +kernel
theorem dX4_run_126 : decode cX4_run 126 = .ok (.ifCond .eq 6, 3) := by decide +kernel
theorem dX4_run_129 : decode cX4_run 129 = .ok (.bipush (-2), 2) := by decide +kernel
theorem dX4_run_131 : decode cX4_run 131 = .ok (.ireturn, 1) := by decide +kernel
theorem dX4_run_132 : decode cX4_run 132 = .ok (.aload_n 0, 1) := by decide +kernel
theorem dX4_run_133 : decode cX4_run 133 = .ok (.aload_n 0, 1) := by decide +kernel
theorem dX4_run_134 : decode cX4_run 134 = .ok (.aload_n 0, 1) := by decide +kernel
theorem dX4_run_135 : decode cX4_run 135 = .ok (.getfield 41, 3) := by decide +kernel
theorem dX4_run_138 : decode cX4_run 138 = .ok (.invokevirtual 77, 3) := by decide +kernel
theorem dX4_run_141 : decode cX4_run 141 = .ok (.putfield 38, 3) := by decide +kernel
theorem dX4_run_144 : decode cX4_run 144 = .ok (.aload_n 0, 1) := by decide +kernel
theorem dX4_run_145 : decode cX4_run 145 = .ok (.getfield 41, 3) := by decide +kernel
theorem dX4_run_148 : decode cX4_run 148 = .ok (.ifCond .ge 7, 3) := by decide +kernel
theorem dX4_run_151 : decode cX4_run 151 = .ok (.iconst (-1), 1) := by decide +kernel
theorem dX4_run_152 : decode cX4_run 152 = .ok (.goto 7, 3) := by decide +kernel
theorem dX4_run_155 : decode cX4_run 155 = .ok (.aload_n 0, 1) := by decide +kernel
theorem dX4_run_156 : decode cX4_run 156 = .ok (.getfield 38, 3) := by decide +kernel
theorem dX4_run_159 : decode cX4_run 159 = .ok (.ireturn, 1) := by decide +kernel
theorem dX4_pushAt_0 : decode cX4_pushAt 0 = .ok (.aload_n 0, 1) := by decide +kernel
theorem dX4_pushAt_1 : decode cX4_pushAt 1 = .ok (.getfield 41, 3) := by decide +kernel
theorem dX4_pushAt_4 : decode cX4_pushAt 4 = .ok (.istore_n 2, 1) := by decide +kernel
theorem dX4_pushAt_5 : decode cX4_pushAt 5 = .ok (.aload_n 0, 1) := by decide +kernel
theorem dX4_pushAt_6 : decode cX4_pushAt 6 = .ok (.getfield 38, 3) := by decide +kernel
theorem dX4_pushAt_9 : decode cX4_pushAt 9 = .ok (.iconst 1, 1) := by decide +kernel
theorem dX4_pushAt_10 : decode cX4_pushAt 10 = .ok (.isub, 1) := by decide +kernel
theorem dX4_pushAt_11 : decode cX4_pushAt 11 = .ok (.istore_n 3, 1) := by decide +kernel
theorem dX4_pushAt_12 : decode cX4_pushAt 12 = .ok (.iload_n 3, 1) := by decide +kernel
theorem dX4_pushAt_13 : decode cX4_pushAt 13 = .ok (.iload_n 1, 1) := by decide +kernel
theorem dX4_pushAt_14 : decode cX4_pushAt 14 = .ok (.if_icmp .le 16, 3) := by decide +kernel
theorem dX4_pushAt_17 : decode cX4_pushAt 17 = .ok (.aload_n 0, 1) := by decide +kernel
theorem dX4_pushAt_18 : decode cX4_pushAt 18 = .ok (.getfield 19, 3) := by decide +kernel
theorem dX4_pushAt_21 : decode cX4_pushAt 21 = .ok (.iload_n 2, 1) := by decide +kernel
theorem dX4_pushAt_22 : decode cX4_pushAt 22 = .ok (.iaload, 1) := by decide +kernel
theorem dX4_pushAt_23 : decode cX4_pushAt 23 = .ok (.istore_n 2, 1) := by decide +kernel
theorem dX4_pushAt_24 : decode cX4_pushAt 24 = .ok (.iinc 3 (-1), 3) := by decide +kernel
theorem dX4_pushAt_27 : decode cX4_pushAt 27 = .ok (.goto (-15), 3) := by decide +kernel
theorem dX4_pushAt_30 : decode cX4_pushAt 30 = .ok (.aload_n 0, 1) := by decide +kernel
theorem dX4_pushAt_31 : decode cX4_pushAt 31 = .ok (.getfield 22, 3) := by decide +kernel
theorem dX4_pushAt_34 : decode cX4_pushAt 34 = .ok (.iload_n 2, 1) := by decide +kernel
theorem dX4_pushAt_35 : decode cX4_pushAt 35 = .ok (.iaload, 1) := by decide +kernel
theorem dX4_pushAt_36 : decode cX4_pushAt 36 = .ok (.ireturn, 1) := by decide +kernel
theorem dX4_pushesTo_0 : decode cX4_pushesTo 0 = .ok (.iconst 0, 1) := by decide +kernel
theorem dX4_pushesTo_1 : decode cX4_pushesTo 1 = .ok (.istore_n 2, 1) := by decide +kernel
theorem dX4_pushesTo_2 : decode cX4_pushesTo 2 = .ok (.iload_n 1, 1) := by decide +kernel
theorem dX4_pushesTo_3 : decode cX4_pushesTo 3 = .ok (.istore_n 3, 1) := by decide +kernel
theorem dX4_pushesTo_4 : decode cX4_pushesTo 4 = .ok (.iconst 0, 1) := by decide +kernel
theorem dX4_pushesTo_5 : decode cX4_pushesTo 5 = .ok (.istore 4, 2) := by decide +kernel
theorem dX4_pushesTo_7 : decode cX4_pushesTo 7 = .ok (.iload 4, 2) := by decide +kernel
theorem dX4_pushesTo_9 : decode cX4_pushesTo 9 = .ok (.aload_n 0, 1) := by decide +kernel
theorem dX4_pushesTo_10 : decode cX4_pushesTo 10 = .ok (.getfield 34, 3) := by decide +kernel
theorem dX4_pushesTo_13 : decode cX4_pushesTo 13 = .ok (.if_icmp .ge 23, 3) := by decide +kernel
theorem dX4_pushesTo_16 : decode cX4_pushesTo 16 = .ok (.iload_n 3, 1) := by decide +kernel
theorem dX4_pushesTo_17 : decode cX4_pushesTo 17 = .ok (.ifCond .le 19, 3) := by decide +kernel
theorem dX4_pushesTo_20 : decode cX4_pushesTo 20 = .ok (.aload_n 0, 1) := by decide +kernel
theorem dX4_pushesTo_21 : decode cX4_pushesTo 21 = .ok (.getfield 19, 3) := by decide +kernel
theorem dX4_pushesTo_24 : decode cX4_pushesTo 24 = .ok (.iload_n 3, 1) := by decide +kernel
theorem dX4_pushesTo_25 : decode cX4_pushesTo 25 = .ok (.iaload, 1) := by decide +kernel
theorem dX4_pushesTo_26 : decode cX4_pushesTo 26 = .ok (.istore_n 3, 1) := by decide +kernel
theorem dX4_pushesTo_27 : decode cX4_pushesTo 27 = .ok (.iinc 2 1, 3) := by decide +kernel
theorem dX4_pushesTo_30 : decode cX4_pushesTo 30 = .ok (.iinc 4 1, 3) := by decide +kernel
theorem dX4_pushesTo_33 : decode cX4_pushesTo 33 = .ok (.goto (-26), 3) := by decide +kernel
theorem dX4_pushesTo_36 : decode cX4_pushesTo 36 = .ok (.iload_n 2, 1) := by decide +kernel
theorem dX4_pushesTo_37 : decode cX4_pushesTo 37 = .ok (.ireturn, 1) := by decide +kernel
theorem dX4_pushFrom_0 : decode cX4_pushFrom 0 = .ok (.aload_n 0, 1) := by decide +kernel
theorem dX4_pushFrom_1 : decode cX4_pushFrom 1 = .ok (.getfield 11, 3) := by decide +kernel
theorem dX4_pushFrom_4 : decode cX4_pushFrom 4 = .ok (.iload_n 2, 1) := by decide +kernel
theorem dX4_pushFrom_5 : decode cX4_pushFrom 5 = .ok (.laload, 1) := by decide +kernel
theorem dX4_pushFrom_6 : decode cX4_pushFrom 6 = .ok (.lstore 4, 2) := by decide +kernel
theorem dX4_pushFrom_8 : decode cX4_pushFrom 8 = .ok (.aload_n 1, 1) := by decide +kernel
theorem dX4_pushFrom_9 : decode cX4_pushFrom 9 = .ok (.lconst 1, 1) := by decide +kernel
theorem dX4_pushFrom_10 : decode cX4_pushFrom 10 = .ok (.aload_n 0, 1) := by decide +kernel
theorem dX4_pushFrom_11 : decode cX4_pushFrom 11 = .ok (.getfield 15, 3) := by decide +kernel
theorem dX4_pushFrom_14 : decode cX4_pushFrom 14 = .ok (.iload_n 2, 1) := by decide +kernel
theorem dX4_pushFrom_15 : decode cX4_pushFrom 15 = .ok (.iaload, 1) := by decide +kernel
theorem dX4_pushFrom_16 : decode cX4_pushFrom 16 = .ok (.lshl, 1) := by decide +kernel
theorem dX4_pushFrom_17 : decode cX4_pushFrom 17 = .ok (.lload 4, 2) := by decide +kernel
theorem dX4_pushFrom_19 : decode cX4_pushFrom 19 = .ok (.invokevirtual 57, 3) := by decide +kernel
theorem dX4_pushFrom_22 : decode cX4_pushFrom 22 = .ok (.lstore 6, 2) := by decide +kernel
theorem dX4_pushFrom_24 : decode cX4_pushFrom 24 = .ok (.aload_n 1, 1) := by decide +kernel
theorem dX4_pushFrom_25 : decode cX4_pushFrom 25 = .ok (.getfield 81, 3) := by decide +kernel
theorem dX4_pushFrom_28 : decode cX4_pushFrom 28 = .ok (.lload 4, 2) := by decide +kernel
theorem dX4_pushFrom_30 : decode cX4_pushFrom 30 = .ok (.ldc2_w 84, 3) := by decide +kernel
theorem dX4_pushFrom_33 : decode cX4_pushFrom 33 = .ok (.lxor, 1) := by decide +kernel
theorem dX4_pushFrom_34 : decode cX4_pushFrom 34 = .ok (.land, 1) := by decide +kernel
theorem dX4_pushFrom_35 : decode cX4_pushFrom 35 = .ok (.lstore 8, 2) := by decide +kernel
theorem dX4_pushFrom_37 : decode cX4_pushFrom 37 = .ok (.iconst 0, 1) := by decide +kernel
theorem dX4_pushFrom_38 : decode cX4_pushFrom 38 = .ok (.istore 10, 2) := by decide +kernel
theorem dX4_pushFrom_40 : decode cX4_pushFrom 40 = .ok (.iload 10, 2) := by decide +kernel
theorem dX4_pushFrom_42 : decode cX4_pushFrom 42 = .ok (.bipush 64, 2) := by decide +kernel
theorem dX4_pushFrom_44 : decode cX4_pushFrom 44 = .ok (.if_icmp .ge 126, 3) := by decide +kernel
theorem dX4_pushFrom_47 : decode cX4_pushFrom 47 = .ok (.lload 4, 2) := by decide +kernel
theorem dX4_pushFrom_49 : decode cX4_pushFrom 49 = .ok (.iload 10, 2) := by decide +kernel
theorem dX4_pushFrom_51 : decode cX4_pushFrom 51 = .ok (.invokestatic 86, 3) := by decide +kernel
theorem dX4_pushFrom_54 : decode cX4_pushFrom 54 = .ok (.ifCond .ne 6, 3) := by decide +kernel
theorem dX4_pushFrom_57 : decode cX4_pushFrom 57 = .ok (.goto 107, 3) := by decide +kernel
theorem dX4_pushFrom_60 : decode cX4_pushFrom 60 = .ok (.lconst 1, 1) := by decide +kernel
theorem dX4_pushFrom_61 : decode cX4_pushFrom 61 = .ok (.iload 10, 2) := by decide +kernel
theorem dX4_pushFrom_63 : decode cX4_pushFrom 63 = .ok (.lshl, 1) := by decide +kernel
theorem dX4_pushFrom_64 : decode cX4_pushFrom 64 = .ok (.lstore 11, 2) := by decide +kernel
theorem dX4_pushFrom_66 : decode cX4_pushFrom 66 = .ok (.iconst 0, 1) := by decide +kernel
theorem dX4_pushFrom_67 : decode cX4_pushFrom 67 = .ok (.istore 13, 2) := by decide +kernel
theorem dX4_pushFrom_69 : decode cX4_pushFrom 69 = .ok (.iload 13, 2) := by decide +kernel
theorem dX4_pushFrom_71 : decode cX4_pushFrom 71 = .ok (.iconst 4, 1) := by decide +kernel
theorem dX4_pushFrom_72 : decode cX4_pushFrom 72 = .ok (.if_icmp .ge 92, 3) := by decide +kernel
theorem dX4_pushFrom_75 : decode cX4_pushFrom 75 = .ok (.lload 11, 2) := by decide +kernel
theorem dX4_pushFrom_77 : decode cX4_pushFrom 77 = .ok (.iload 13, 2) := by decide +kernel
theorem dX4_pushFrom_79 : decode cX4_pushFrom 79 = .ok (.invokestatic 90, 3) := by decide +kernel
theorem dX4_pushFrom_82 : decode cX4_pushFrom 82 = .ok (.lload 8, 2) := by decide +kernel
theorem dX4_pushFrom_84 : decode cX4_pushFrom 84 = .ok (.land, 1) := by decide +kernel
theorem dX4_pushFrom_85 : decode cX4_pushFrom 85 = .ok (.lstore 14, 2) := by decide +kernel
theorem dX4_pushFrom_87 : decode cX4_pushFrom 87 = .ok (.lload 14, 2) := by decide +kernel
theorem dX4_pushFrom_89 : decode cX4_pushFrom 89 = .ok (.lconst 0, 1) := by decide +kernel
theorem dX4_pushFrom_90 : decode cX4_pushFrom 90 = .ok (.lcmp, 1) := by decide +kernel
theorem dX4_pushFrom_91 : decode cX4_pushFrom 91 = .ok (.ifCond .eq 67, 3) := by decide +kernel
theorem dX4_pushFrom_94 : decode cX4_pushFrom 94 = .ok (.lload 11, 2) := by decide +kernel
theorem dX4_pushFrom_96 : decode cX4_pushFrom 96 = .ok (.iload 13, 2) := by decide +kernel
theorem dX4_pushFrom_98 : decode cX4_pushFrom 98 = .ok (.invokestatic 94, 3) := by decide +kernel
theorem dX4_pushFrom_101 : decode cX4_pushFrom 101 = .ok (.invokestatic 90, 3) := by decide +kernel
theorem dX4_pushFrom_104 : decode cX4_pushFrom 104 = .ok (.lload 6, 2) := by decide +kernel
theorem dX4_pushFrom_106 : decode cX4_pushFrom 106 = .ok (.land, 1) := by decide +kernel
theorem dX4_pushFrom_107 : decode cX4_pushFrom 107 = .ok (.lconst 0, 1) := by decide +kernel
theorem dX4_pushFrom_108 : decode cX4_pushFrom 108 = .ok (.lcmp, 1) := by decide +kernel
theorem dX4_pushFrom_109 : decode cX4_pushFrom 109 = .ok (.ifCond .ne 6, 3) := by decide +kernel
theorem dX4_pushFrom_112 : decode cX4_pushFrom 112 = .ok (.goto 46, 3) := by decide +kernel
theorem dX4_pushFrom_115 : decode cX4_pushFrom 115 = .ok (.aload_n 0, 1) := by decide +kernel
theorem dX4_pushFrom_116 : decode cX4_pushFrom 116 = .ok (.aload_n 1, 1) := by decide +kernel
theorem dX4_pushFrom_117 : decode cX4_pushFrom 117 = .ok (.lload 4, 2) := by decide +kernel
theorem dX4_pushFrom_119 : decode cX4_pushFrom 119 = .ok (.lload 11, 2) := by decide +kernel
theorem dX4_pushFrom_121 : decode cX4_pushFrom 121 = .ok (.lxor, 1) := by decide +kernel
theorem dX4_pushFrom_122 : decode cX4_pushFrom 122 = .ok (.lload 14, 2) := by decide +kernel
theorem dX4_pushFrom_124 : decode cX4_pushFrom 124 = .ok (.lxor, 1) := by decide +kernel
theorem dX4_pushFrom_125 : decode cX4_pushFrom 125 = .ok (.lload 11, 2) := by decide +kernel
theorem dX4_pushFrom_127 : decode cX4_pushFrom 127 = .ok (.iload_n 2, 1) := by decide +kernel
theorem dX4_pushFrom_128 : decode cX4_pushFrom 128 = .ok (.iconst 4, 1) := by decide +kernel
theorem dX4_pushFrom_129 : decode cX4_pushFrom 129 = .ok (.aload_n 1, 1) := by decide +kernel
theorem dX4_pushFrom_130 : decode cX4_pushFrom 130 = .ok (.lload 11, 2) := by decide +kernel
theorem dX4_pushFrom_132 : decode cX4_pushFrom 132 = .ok (.invokevirtual 97, 3) := by decide +kernel
theorem dX4_pushFrom_135 : decode cX4_pushFrom 135 = .ok (.imul, 1) := by decide +kernel
theorem dX4_pushFrom_136 : decode cX4_pushFrom 136 = .ok (.iload 13, 2) := by decide +kernel
theorem dX4_pushFrom_138 : decode cX4_pushFrom 138 = .ok (.iadd, 1) := by decide +kernel
theorem dX4_pushFrom_139 : decode cX4_pushFrom 139 = .ok (.iload_n 3, 1) := by decide +kernel
theorem dX4_pushFrom_140 : decode cX4_pushFrom 140 = .ok (.invokevirtual 100, 3) := by decide +kernel
theorem dX4_pushFrom_143 : decode cX4_pushFrom 143 = .ok (.aload_n 0, 1) := by decide +kernel
theorem dX4_pushFrom_144 : decode cX4_pushFrom 144 = .ok (.getfield 41, 3) := by decide +kernel
theorem dX4_pushFrom_147 : decode cX4_pushFrom 147 = .ok (.ifCond .ge 10, 3) := by decide +kernel
theorem dX4_pushFrom_150 : decode cX4_pushFrom 150 = .ok (.aload_n 0, 1) := by decide +kernel
theorem dX4_pushFrom_151 : decode cX4_pushFrom 151 = .ok (.getfield 44, 3) := by decide +kernel
theorem dX4_pushFrom_154 : decode cX4_pushFrom 154 = .ok (.ifCond .eq 4, 3) := by decide +kernel
theorem dX4_pushFrom_157 : decode cX4_pushFrom 157 = .ok (.return_, 1) := by decide +kernel
theorem dX4_pushFrom_158 : decode cX4_pushFrom 158 = .ok (.iinc 13 1, 3) := by decide +kernel
theorem dX4_pushFrom_161 : decode cX4_pushFrom 161 = .ok (.goto (-92), 3) := by decide +kernel
theorem dX4_pushFrom_164 : decode cX4_pushFrom 164 = .ok (.iinc 10 1, 3) := by decide +kernel
theorem dX4_pushFrom_167 : decode cX4_pushFrom 167 = .ok (.goto (-127), 3) := by decide +kernel
theorem dX4_pushFrom_170 : decode cX4_pushFrom 170 = .ok (.return_, 1) := by decide +kernel
theorem dX4_comeTo_0 : decode cX4_comeTo 0 = .ok (.aload_n 1, 1) := by decide +kernel
theorem dX4_comeTo_1 : decode cX4_comeTo 1 = .ok (.lload_n 2, 1) := by decide +kernel
theorem dX4_comeTo_2 : decode cX4_comeTo 2 = .ok (.invokevirtual 104, 3) := by decide +kernel
theorem dX4_comeTo_5 : decode cX4_comeTo 5 = .ok (.ifCond .eq 4, 3) := by decide +kernel
theorem dX4_comeTo_8 : decode cX4_comeTo 8 = .ok (.return_, 1) := by decide +kernel
theorem dX4_comeTo_9 : decode cX4_comeTo 9 = .ok (.aload_n 1, 1) := by decide +kernel
theorem dX4_comeTo_10 : decode cX4_comeTo 10 = .ok (.lload 4, 2) := by decide +kernel
theorem dX4_comeTo_12 : decode cX4_comeTo 12 = .ok (.lload_n 2, 1) := by decide +kernel
theorem dX4_comeTo_13 : decode cX4_comeTo 13 = .ok (.invokevirtual 57, 3) := by decide +kernel
theorem dX4_comeTo_16 : decode cX4_comeTo 16 = .ok (.invokestatic 61, 3) := by decide +kernel
theorem dX4_comeTo_19 : decode cX4_comeTo 19 = .ok (.istore 9, 2) := by decide +kernel
theorem dX4_comeTo_21 : decode cX4_comeTo 21 = .ok (.aload_n 0, 1) := by decide +kernel
theorem dX4_comeTo_22 : decode cX4_comeTo 22 = .ok (.getfield 25, 3) := by decide +kernel
theorem dX4_comeTo_25 : decode cX4_comeTo 25 = .ok (.aload_n 0, 1) := by decide +kernel
theorem dX4_comeTo_26 : decode cX4_comeTo 26 = .ok (.lload_n 2, 1) := by decide +kernel
theorem dX4_comeTo_27 : decode cX4_comeTo 27 = .ok (.iload 9, 2) := by decide +kernel
theorem dX4_comeTo_29 : decode cX4_comeTo 29 = .ok (.invokevirtual 107, 3) := by decide +kernel
theorem dX4_comeTo_32 : decode cX4_comeTo 32 = .ok (.iaload, 1) := by decide +kernel
theorem dX4_comeTo_33 : decode cX4_comeTo 33 = .ok (.ifCond .eq 4, 3) := by decide +kernel
theorem dX4_comeTo_36 : decode cX4_comeTo 36 = .ok (.return_, 1) := by decide +kernel
theorem dX4_comeTo_37 : decode cX4_comeTo 37 = .ok (.aload_n 0, 1) := by decide +kernel
theorem dX4_comeTo_38 : decode cX4_comeTo 38 = .ok (.getfield 34, 3) := by decide +kernel
theorem dX4_comeTo_41 : decode cX4_comeTo 41 = .ok (.iload 8, 2) := by decide +kernel
theorem dX4_comeTo_43 : decode cX4_comeTo 43 = .ok (.if_icmp .lt 9, 3) := by decide +kernel
theorem dX4_comeTo_46 : decode cX4_comeTo 46 = .ok (.aload_n 0, 1) := by decide +kernel
theorem dX4_comeTo_47 : decode cX4_comeTo 47 = .ok (.iconst 1, 1) := by decide +kernel
theorem dX4_comeTo_48 : decode cX4_comeTo 48 = .ok (.putfield 44, 3) := by decide +kernel
theorem dX4_comeTo_51 : decode cX4_comeTo 51 = .ok (.return_, 1) := by decide +kernel
theorem dX4_comeTo_52 : decode cX4_comeTo 52 = .ok (.aload_n 0, 1) := by decide +kernel
theorem dX4_comeTo_53 : decode cX4_comeTo 53 = .ok (.lload_n 2, 1) := by decide +kernel
theorem dX4_comeTo_54 : decode cX4_comeTo 54 = .ok (.iload 9, 2) := by decide +kernel
theorem dX4_comeTo_56 : decode cX4_comeTo 56 = .ok (.iload 6, 2) := by decide +kernel
theorem dX4_comeTo_58 : decode cX4_comeTo 58 = .ok (.iload 7, 2) := by decide +kernel
theorem dX4_comeTo_60 : decode cX4_comeTo 60 = .ok (.invokevirtual 65, 3) := by decide +kernel
theorem dX4_comeTo_63 : decode cX4_comeTo 63 = .ok (.aload_n 1, 1) := by decide +kernel
theorem dX4_comeTo_64 : decode cX4_comeTo 64 = .ok (.lload_n 2, 1) := by decide +kernel
theorem dX4_comeTo_65 : decode cX4_comeTo 65 = .ok (.invokevirtual 69, 3) := by decide +kernel
theorem dX4_comeTo_68 : decode cX4_comeTo 68 = .ok (.ifCond .eq 13, 3) := by decide +kernel
theorem dX4_comeTo_71 : decode cX4_comeTo 71 = .ok (.aload_n 0, 1) := by decide +kernel
theorem dX4_comeTo_72 : decode cX4_comeTo 72 = .ok (.aload_n 0, 1) := by decide +kernel
theorem dX4_comeTo_73 : decode cX4_comeTo 73 = .ok (.getfield 34, 3) := by decide +kernel
theorem dX4_comeTo_76 : decode cX4_comeTo 76 = .ok (.iconst 1, 1) := by decide +kernel
theorem dX4_comeTo_77 : decode cX4_comeTo 77 = .ok (.isub, 1) := by decide +kernel
theorem dX4_comeTo_78 : decode cX4_comeTo 78 = .ok (.putfield 41, 3) := by decide +kernel
theorem dX4_comeTo_81 : decode cX4_comeTo 81 = .ok (.return_, 1) := by decide +kernel
theorem dX4_takeIn_0 : decode cX4_takeIn 0 = .ok (.aload_n 0, 1) := by decide +kernel
theorem dX4_takeIn_1 : decode cX4_takeIn 1 = .ok (.getfield 34, 3) := by decide +kernel
theorem dX4_takeIn_4 : decode cX4_takeIn 4 = .ok (.aload_n 0, 1) := by decide +kernel
theorem dX4_takeIn_5 : decode cX4_takeIn 5 = .ok (.getfield 11, 3) := by decide +kernel
theorem dX4_takeIn_8 : decode cX4_takeIn 8 = .ok (.arraylength, 1) := by decide +kernel
theorem dX4_takeIn_9 : decode cX4_takeIn 9 = .ok (.if_icmp .lt 7, 3) := by decide +kernel
theorem dX4_takeIn_12 : decode cX4_takeIn 12 = .ok (.aload_n 0, 1) := by decide +kernel
theorem dX4_takeIn_13 : decode cX4_takeIn 13 = .ok (.invokevirtual 111, 3) := by decide +kernel
theorem dX4_takeIn_16 : decode cX4_takeIn 16 = .ok (.aload_n 0, 1) := by decide +kernel
theorem dX4_takeIn_17 : decode cX4_takeIn 17 = .ok (.getfield 11, 3) := by decide +kernel
theorem dX4_takeIn_20 : decode cX4_takeIn 20 = .ok (.aload_n 0, 1) := by decide +kernel
theorem dX4_takeIn_21 : decode cX4_takeIn 21 = .ok (.getfield 34, 3) := by decide +kernel
theorem dX4_takeIn_24 : decode cX4_takeIn 24 = .ok (.lload_n 1, 1) := by decide +kernel
theorem dX4_takeIn_25 : decode cX4_takeIn 25 = .ok (.lastore, 1) := by decide +kernel
theorem dX4_takeIn_26 : decode cX4_takeIn 26 = .ok (.aload_n 0, 1) := by decide +kernel
theorem dX4_takeIn_27 : decode cX4_takeIn 27 = .ok (.getfield 15, 3) := by decide +kernel
theorem dX4_takeIn_30 : decode cX4_takeIn 30 = .ok (.aload_n 0, 1) := by decide +kernel
theorem dX4_takeIn_31 : decode cX4_takeIn 31 = .ok (.getfield 34, 3) := by decide +kernel
theorem dX4_takeIn_34 : decode cX4_takeIn 34 = .ok (.iload_n 3, 1) := by decide +kernel
theorem dX4_takeIn_35 : decode cX4_takeIn 35 = .ok (.iastore, 1) := by decide +kernel
theorem dX4_takeIn_36 : decode cX4_takeIn 36 = .ok (.aload_n 0, 1) := by decide +kernel
theorem dX4_takeIn_37 : decode cX4_takeIn 37 = .ok (.getfield 19, 3) := by decide +kernel
theorem dX4_takeIn_40 : decode cX4_takeIn 40 = .ok (.aload_n 0, 1) := by decide +kernel
theorem dX4_takeIn_41 : decode cX4_takeIn 41 = .ok (.getfield 34, 3) := by decide +kernel
theorem dX4_takeIn_44 : decode cX4_takeIn 44 = .ok (.iload 4, 2) := by decide +kernel
theorem dX4_takeIn_46 : decode cX4_takeIn 46 = .ok (.iastore, 1) := by decide +kernel
theorem dX4_takeIn_47 : decode cX4_takeIn 47 = .ok (.aload_n 0, 1) := by decide +kernel
theorem dX4_takeIn_48 : decode cX4_takeIn 48 = .ok (.getfield 22, 3) := by decide +kernel
theorem dX4_takeIn_51 : decode cX4_takeIn 51 = .ok (.aload_n 0, 1) := by decide +kernel
theorem dX4_takeIn_52 : decode cX4_takeIn 52 = .ok (.getfield 34, 3) := by decide +kernel
theorem dX4_takeIn_55 : decode cX4_takeIn 55 = .ok (.iload 5, 2) := by decide +kernel
theorem dX4_takeIn_57 : decode cX4_takeIn 57 = .ok (.iastore, 1) := by decide +kernel
theorem dX4_takeIn_58 : decode cX4_takeIn 58 = .ok (.aload_n 0, 1) := by decide +kernel
theorem dX4_takeIn_59 : decode cX4_takeIn 59 = .ok (.dup, 1) := by decide +kernel
theorem dX4_takeIn_60 : decode cX4_takeIn 60 = .ok (.getfield 34, 3) := by decide +kernel
theorem dX4_takeIn_63 : decode cX4_takeIn 63 = .ok (.iconst 1, 1) := by decide +kernel
theorem dX4_takeIn_64 : decode cX4_takeIn 64 = .ok (.iadd, 1) := by decide +kernel
theorem dX4_takeIn_65 : decode cX4_takeIn 65 = .ok (.putfield 34, 3) := by decide +kernel
theorem dX4_takeIn_68 : decode cX4_takeIn 68 = .ok (.aload_n 0, 1) := by decide +kernel
theorem dX4_takeIn_69 : decode cX4_takeIn 69 = .ok (.getfield 25, 3) := by decide +kernel
theorem dX4_takeIn_72 : decode cX4_takeIn 72 = .ok (.aload_n 0, 1) := by decide +kernel
theorem dX4_takeIn_73 : decode cX4_takeIn 73 = .ok (.lload_n 1, 1) := by decide +kernel
theorem dX4_takeIn_74 : decode cX4_takeIn 74 = .ok (.iload_n 3, 1) := by decide +kernel
theorem dX4_takeIn_75 : decode cX4_takeIn 75 = .ok (.invokevirtual 107, 3) := by decide +kernel
theorem dX4_takeIn_78 : decode cX4_takeIn 78 = .ok (.aload_n 0, 1) := by decide +kernel
theorem dX4_takeIn_79 : decode cX4_takeIn 79 = .ok (.getfield 34, 3) := by decide +kernel
theorem dX4_takeIn_82 : decode cX4_takeIn 82 = .ok (.iastore, 1) := by decide +kernel
theorem dX4_takeIn_83 : decode cX4_takeIn 83 = .ok (.return_, 1) := by decide +kernel
theorem dX4_makeRoom_0 : decode cX4_makeRoom 0 = .ok (.aload_n 0, 1) := by decide +kernel
theorem dX4_makeRoom_1 : decode cX4_makeRoom 1 = .ok (.aload_n 0, 1) := by decide +kernel
theorem dX4_makeRoom_2 : decode cX4_makeRoom 2 = .ok (.getfield 11, 3) := by decide +kernel
theorem dX4_makeRoom_5 : decode cX4_makeRoom 5 = .ok (.sipush 10000, 3) := by decide +kernel
theorem dX4_makeRoom_8 : decode cX4_makeRoom 8 = .ok (.invokestatic 114, 3) := by decide +kernel
theorem dX4_makeRoom_11 : decode cX4_makeRoom 11 = .ok (.putfield 11, 3) := by decide +kernel
theorem dX4_makeRoom_14 : decode cX4_makeRoom 14 = .ok (.aload_n 0, 1) := by decide +kernel
theorem dX4_makeRoom_15 : decode cX4_makeRoom 15 = .ok (.aload_n 0, 1) := by decide +kernel
theorem dX4_makeRoom_16 : decode cX4_makeRoom 16 = .ok (.getfield 15, 3) := by decide +kernel
theorem dX4_makeRoom_19 : decode cX4_makeRoom 19 = .ok (.sipush 10000, 3) := by decide +kernel
theorem dX4_makeRoom_22 : decode cX4_makeRoom 22 = .ok (.invokestatic 118, 3) := by decide +kernel
theorem dX4_makeRoom_25 : decode cX4_makeRoom 25 = .ok (.putfield 15, 3) := by decide +kernel
theorem dX4_makeRoom_28 : decode cX4_makeRoom 28 = .ok (.aload_n 0, 1) := by decide +kernel
theorem dX4_makeRoom_29 : decode cX4_makeRoom 29 = .ok (.aload_n 0, 1) := by decide +kernel
theorem dX4_makeRoom_30 : decode cX4_makeRoom 30 = .ok (.getfield 19, 3) := by decide +kernel
theorem dX4_makeRoom_33 : decode cX4_makeRoom 33 = .ok (.sipush 10000, 3) := by decide +kernel
theorem dX4_makeRoom_36 : decode cX4_makeRoom 36 = .ok (.invokestatic 118, 3) := by decide +kernel
theorem dX4_makeRoom_39 : decode cX4_makeRoom 39 = .ok (.putfield 19, 3) := by decide +kernel
theorem dX4_makeRoom_42 : decode cX4_makeRoom 42 = .ok (.aload_n 0, 1) := by decide +kernel
theorem dX4_makeRoom_43 : decode cX4_makeRoom 43 = .ok (.aload_n 0, 1) := by decide +kernel
theorem dX4_makeRoom_44 : decode cX4_makeRoom 44 = .ok (.getfield 22, 3) := by decide +kernel
theorem dX4_makeRoom_47 : decode cX4_makeRoom 47 = .ok (.sipush 10000, 3) := by decide +kernel
theorem dX4_makeRoom_50 : decode cX4_makeRoom 50 = .ok (.invokestatic 118, 3) := by decide +kernel
theorem dX4_makeRoom_53 : decode cX4_makeRoom 53 = .ok (.putfield 22, 3) := by decide +kernel
theorem dX4_makeRoom_56 : decode cX4_makeRoom 56 = .ok (.aload_n 0, 1) := by decide +kernel
theorem dX4_makeRoom_57 : decode cX4_makeRoom 57 = .ok (.sipush 16384, 3) := by decide +kernel
theorem dX4_makeRoom_60 : decode cX4_makeRoom 60 = .ok (.newarray .int, 2) := by decide +kernel
theorem dX4_makeRoom_62 : decode cX4_makeRoom 62 = .ok (.putfield 25, 3) := by decide +kernel
theorem dX4_makeRoom_65 : decode cX4_makeRoom 65 = .ok (.iconst 0, 1) := by decide +kernel
theorem dX4_makeRoom_66 : decode cX4_makeRoom 66 = .ok (.istore_n 1, 1) := by decide +kernel
theorem dX4_makeRoom_67 : decode cX4_makeRoom 67 = .ok (.iload_n 1, 1) := by decide +kernel
theorem dX4_makeRoom_68 : decode cX4_makeRoom 68 = .ok (.aload_n 0, 1) := by decide +kernel
theorem dX4_makeRoom_69 : decode cX4_makeRoom 69 = .ok (.getfield 34, 3) := by decide +kernel
theorem dX4_makeRoom_72 : decode cX4_makeRoom 72 = .ok (.if_icmp .ge 33, 3) := by decide +kernel
