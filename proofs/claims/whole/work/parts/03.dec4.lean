theorem dX6_told_6 : decode cX6_told 6 = .ok (.tableswitch 143 0 8 #[50, 55, 60, 68, 76, 89, 94, 99, 119], 50) := by decide +kernel
theorem dX6_told_56 : decode cX6_told 56 = .ok (.aload_n 0, 1) := by decide +kernel
theorem dX6_told_57 : decode cX6_told 57 = .ok (.getfield 46, 3) := by decide +kernel
theorem dX6_told_60 : decode cX6_told 60 = .ok (.ireturn, 1) := by decide +kernel
theorem dX6_told_61 : decode cX6_told 61 = .ok (.aload_n 0, 1) := by decide +kernel
theorem dX6_told_62 : decode cX6_told 62 = .ok (.getfield 49, 3) := by decide +kernel
theorem dX6_told_65 : decode cX6_told 65 = .ok (.ireturn, 1) := by decide +kernel
theorem dX6_told_66 : decode cX6_told 66 = .ok (.aload_n 0, 1) := by decide +kernel
theorem dX6_told_67 : decode cX6_told 67 = .ok (.getfield 97, 3) := by decide +kernel
theorem dX6_told_70 : decode cX6_told 70 = .ok (.invokestatic 75, 3) := by decide +kernel
theorem dX6_told_73 : decode cX6_told 73 = .ok (.ireturn, 1) := by decide +kernel
theorem dX6_told_74 : decode cX6_told 74 = .ok (.aload_n 0, 1) := by decide +kernel
theorem dX6_told_75 : decode cX6_told 75 = .ok (.getfield 94, 3) := by decide +kernel
theorem dX6_told_78 : decode cX6_told 78 = .ok (.invokestatic 75, 3) := by decide +kernel
theorem dX6_told_81 : decode cX6_told 81 = .ok (.ireturn, 1) := by decide +kernel
theorem dX6_told_82 : decode cX6_told 82 = .ok (.aload_n 0, 1) := by decide +kernel
theorem dX6_told_83 : decode cX6_told 83 = .ok (.getfield 97, 3) := by decide +kernel
theorem dX6_told_86 : decode cX6_told 86 = .ok (.aload_n 0, 1) := by decide +kernel
theorem dX6_told_87 : decode cX6_told 87 = .ok (.getfield 94, 3) := by decide +kernel
theorem dX6_told_90 : decode cX6_told 90 = .ok (.land, 1) := by decide +kernel
theorem dX6_told_91 : decode cX6_told 91 = .ok (.invokestatic 75, 3) := by decide +kernel
theorem dX6_told_94 : decode cX6_told 94 = .ok (.ireturn, 1) := by decide +kernel
theorem dX6_told_95 : decode cX6_told 95 = .ok (.aload_n 0, 1) := by decide +kernel
theorem dX6_told_96 : decode cX6_told 96 = .ok (.getfield 103, 3) := by decide +kernel
theorem dX6_told_99 : decode cX6_told 99 = .ok (.ireturn, 1) := by decide +kernel
theorem dX6_told_100 : decode cX6_told 100 = .ok (.aload_n 0, 1) := by decide +kernel
theorem dX6_told_101 : decode cX6_told 101 = .ok (.getfield 106, 3) := by decide +kernel
theorem dX6_told_104 : decode cX6_told 104 = .ok (.ireturn, 1) := by decide +kernel
theorem dX6_told_105 : decode cX6_told 105 = .ok (.aload_n 0, 1) := by decide +kernel
theorem dX6_told_106 : decode cX6_told 106 = .ok (.getfield 83, 3) := by decide +kernel
theorem dX6_told_109 : decode cX6_told 109 = .ok (.ifCond .eq 14, 3) := by decide +kernel
theorem dX6_told_112 : decode cX6_told 112 = .ok (.aload_n 0, 1) := by decide +kernel
theorem dX6_told_113 : decode cX6_told 113 = .ok (.aload_n 0, 1) := by decide +kernel
theorem dX6_told_114 : decode cX6_told 114 = .ok (.getfield 100, 3) := by decide +kernel
theorem dX6_told_117 : decode cX6_told 117 = .ok (.invokevirtual 132, 3) := by decide +kernel
theorem dX6_told_120 : decode cX6_told 120 = .ok (.goto 4, 3) := by decide +kernel
theorem dX6_told_123 : decode cX6_told 123 = .ok (.iconst (-1), 1) := by decide +kernel
theorem dX6_told_124 : decode cX6_told 124 = .ok (.ireturn, 1) := by decide +kernel
theorem dX6_told_125 : decode cX6_told 125 = .ok (.aload_n 0, 1) := by decide +kernel
theorem dX6_told_126 : decode cX6_told 126 = .ok (.getfield 83, 3) := by decide +kernel
theorem dX6_told_129 : decode cX6_told 129 = .ok (.ifCond .eq 18, 3) := by decide +kernel
theorem dX6_told_132 : decode cX6_told 132 = .ok (.aload_n 0, 1) := by decide +kernel
theorem dX6_told_133 : decode cX6_told 133 = .ok (.aload_n 0, 1) := by decide +kernel
theorem dX6_told_134 : decode cX6_told 134 = .ok (.getfield 97, 3) := by decide +kernel
theorem dX6_told_137 : decode cX6_told 137 = .ok (.invokevirtual 135, 3) := by decide +kernel
theorem dX6_told_140 : decode cX6_told 140 = .ok (.ifCond .eq 7, 3) := by decide +kernel
theorem dX6_told_143 : decode cX6_told 143 = .ok (.iconst 1, 1) := by decide +kernel
theorem dX6_told_144 : decode cX6_told 144 = .ok (.goto 4, 3) := by decide +kernel
theorem dX6_told_147 : decode cX6_told 147 = .ok (.iconst 0, 1) := by decide +kernel
theorem dX6_told_148 : decode cX6_told 148 = .ok (.ireturn, 1) := by decide +kernel
theorem dX6_told_149 : decode cX6_told 149 = .ok (.iconst (-1), 1) := by decide +kernel
theorem dX6_told_150 : decode cX6_told 150 = .ok (.ireturn, 1) := by decide +kernel
theorem dX6_picture_0 : decode cX6_picture 0 = .ok (.aload_n 0, 1) := by decide +kernel
theorem dX6_picture_1 : decode cX6_picture 1 = .ok (.iconst 0, 1) := by decide +kernel
theorem dX6_picture_2 : decode cX6_picture 2 = .ok (.putfield 42, 3) := by decide +kernel
theorem dX6_picture_5 : decode cX6_picture 5 = .ok (.iload_n 1, 1) := by decide +kernel
theorem dX6_picture_6 : decode cX6_picture 6 = .ok (.ifCond .lt 18, 3) := by decide +kernel
theorem dX6_picture_9 : decode cX6_picture 9 = .ok (.iload_n 1, 1) := by decide +kernel
theorem dX6_picture_10 : decode cX6_picture 10 = .ok (.aload_n 0, 1) := by decide +kernel
theorem dX6_picture_11 : decode cX6_picture 11 = .ok (.getfield 46, 3) := by decide +kernel
theorem dX6_picture_14 : decode cX6_picture 14 = .ok (.iconst 1, 1) := by decide +kernel
theorem dX6_picture_15 : decode cX6_picture 15 = .ok (.iadd, 1) := by decide +kernel
theorem dX6_picture_16 : decode cX6_picture 16 = .ok (.aload_n 0, 1) := by decide +kernel
theorem dX6_picture_17 : decode cX6_picture 17 = .ok (.getfield 49, 3) := by decide +kernel
theorem dX6_picture_20 : decode cX6_picture 20 = .ok (.imul, 1) := by decide +kernel
theorem dX6_picture_21 : decode cX6_picture 21 = .ok (.if_icmp .lt 5, 3) := by decide +kernel
theorem dX6_picture_24 : decode cX6_picture 24 = .ok (.iconst (-1), 1) := by decide +kernel
theorem dX6_picture_25 : decode cX6_picture 25 = .ok (.ireturn, 1) := by decide +kernel
theorem dX6_picture_26 : decode cX6_picture 26 = .ok (.iload_n 1, 1) := by decide +kernel
theorem dX6_picture_27 : decode cX6_picture 27 = .ok (.aload_n 0, 1) := by decide +kernel
theorem dX6_picture_28 : decode cX6_picture 28 = .ok (.getfield 46, 3) := by decide +kernel
theorem dX6_picture_31 : decode cX6_picture 31 = .ok (.iconst 1, 1) := by decide +kernel
theorem dX6_picture_32 : decode cX6_picture 32 = .ok (.iadd, 1) := by decide +kernel
theorem dX6_picture_33 : decode cX6_picture 33 = .ok (.irem, 1) := by decide +kernel
theorem dX6_picture_34 : decode cX6_picture 34 = .ok (.istore_n 2, 1) := by decide +kernel
theorem dX6_picture_35 : decode cX6_picture 35 = .ok (.iload_n 2, 1) := by decide +kernel
theorem dX6_picture_36 : decode cX6_picture 36 = .ok (.aload_n 0, 1) := by decide +kernel
theorem dX6_picture_37 : decode cX6_picture 37 = .ok (.getfield 46, 3) := by decide +kernel
theorem dX6_picture_40 : decode cX6_picture 40 = .ok (.if_icmp .ne 6, 3) := by decide +kernel
theorem dX6_picture_43 : decode cX6_picture 43 = .ok (.bipush 10, 2) := by decide +kernel
theorem dX6_picture_45 : decode cX6_picture 45 = .ok (.ireturn, 1) := by decide +kernel
theorem dX6_picture_46 : decode cX6_picture 46 = .ok (.bipush 8, 2) := by decide +kernel
theorem dX6_picture_48 : decode cX6_picture 48 = .ok (.iload_n 1, 1) := by decide +kernel
theorem dX6_picture_49 : decode cX6_picture 49 = .ok (.aload_n 0, 1) := by decide +kernel
theorem dX6_picture_50 : decode cX6_picture 50 = .ok (.getfield 46, 3) := by decide +kernel
theorem dX6_picture_53 : decode cX6_picture 53 = .ok (.iconst 1, 1) := by decide +kernel
theorem dX6_picture_54 : decode cX6_picture 54 = .ok (.iadd, 1) := by decide +kernel
theorem dX6_picture_55 : decode cX6_picture 55 = .ok (.idiv, 1) := by decide +kernel
theorem dX6_picture_56 : decode cX6_picture 56 = .ok (.imul, 1) := by decide +kernel
theorem dX6_picture_57 : decode cX6_picture 57 = .ok (.iload_n 2, 1) := by decide +kernel
theorem dX6_picture_58 : decode cX6_picture 58 = .ok (.iadd, 1) := by decide +kernel
theorem dX6_picture_59 : decode cX6_picture 59 = .ok (.istore_n 3, 1) := by decide +kernel
theorem dX6_picture_60 : decode cX6_picture 60 = .ok (.aload_n 0, 1) := by decide +kernel
theorem dX6_picture_61 : decode cX6_picture 61 = .ok (.getfield 87, 3) := by decide +kernel
theorem dX6_picture_64 : decode cX6_picture 64 = .ok (.iload_n 3, 1) := by decide +kernel
theorem dX6_picture_65 : decode cX6_picture 65 = .ok (.invokestatic 90, 3) := by decide +kernel
theorem dX6_picture_68 : decode cX6_picture 68 = .ok (.ifCond .ne 6, 3) := by decide +kernel
theorem dX6_picture_71 : decode cX6_picture 71 = .ok (.bipush 35, 2) := by decide +kernel
theorem dX6_picture_73 : decode cX6_picture 73 = .ok (.ireturn, 1) := by decide +kernel
theorem dX6_picture_74 : decode cX6_picture 74 = .ok (.aload_n 0, 1) := by decide +kernel
theorem dX6_picture_75 : decode cX6_picture 75 = .ok (.getfield 97, 3) := by decide +kernel
theorem dX6_picture_78 : decode cX6_picture 78 = .ok (.iload_n 3, 1) := by decide +kernel
theorem dX6_picture_79 : decode cX6_picture 79 = .ok (.invokestatic 90, 3) := by decide +kernel
theorem dX6_picture_82 : decode cX6_picture 82 = .ok (.ifCond .eq 22, 3) := by decide +kernel
theorem dX6_picture_85 : decode cX6_picture 85 = .ok (.aload_n 0, 1) := by decide +kernel
theorem dX6_picture_86 : decode cX6_picture 86 = .ok (.getfield 94, 3) := by decide +kernel
theorem dX6_picture_89 : decode cX6_picture 89 = .ok (.iload_n 3, 1) := by decide +kernel
theorem dX6_picture_90 : decode cX6_picture 90 = .ok (.invokestatic 90, 3) := by decide +kernel
theorem dX6_picture_93 : decode cX6_picture 93 = .ok (.ifCond .eq 8, 3) := by decide +kernel
theorem dX6_picture_96 : decode cX6_picture 96 = .ok (.bipush 42, 2) := by decide +kernel
theorem dX6_picture_98 : decode cX6_picture 98 = .ok (.goto 5, 3) := by decide +kernel
theorem dX6_picture_101 : decode cX6_picture 101 = .ok (.bipush 36, 2) := by decide +kernel
theorem dX6_picture_103 : decode cX6_picture 103 = .ok (.ireturn, 1) := by decide +kernel
theorem dX6_picture_104 : decode cX6_picture 104 = .ok (.iload_n 3, 1) := by decide +kernel
theorem dX6_picture_105 : decode cX6_picture 105 = .ok (.aload_n 0, 1) := by decide +kernel
theorem dX6_picture_106 : decode cX6_picture 106 = .ok (.getfield 100, 3) := by decide +kernel
theorem dX6_picture_109 : decode cX6_picture 109 = .ok (.if_icmp .ne 22, 3) := by decide +kernel
theorem dX6_picture_112 : decode cX6_picture 112 = .ok (.aload_n 0, 1) := by decide +kernel
theorem dX6_picture_113 : decode cX6_picture 113 = .ok (.getfield 94, 3) := by decide +kernel
theorem dX6_picture_116 : decode cX6_picture 116 = .ok (.iload_n 3, 1) := by decide +kernel
theorem dX6_picture_117 : decode cX6_picture 117 = .ok (.invokestatic 90, 3) := by decide +kernel
theorem dX6_picture_120 : decode cX6_picture 120 = .ok (.ifCond .eq 8, 3) := by decide +kernel
theorem dX6_picture_123 : decode cX6_picture 123 = .ok (.bipush 43, 2) := by decide +kernel
theorem dX6_picture_125 : decode cX6_picture 125 = .ok (.goto 5, 3) := by decide +kernel
theorem dX6_picture_128 : decode cX6_picture 128 = .ok (.bipush 64, 2) := by decide +kernel
theorem dX6_picture_130 : decode cX6_picture 130 = .ok (.ireturn, 1) := by decide +kernel
theorem dX6_picture_131 : decode cX6_picture 131 = .ok (.aload_n 0, 1) := by decide +kernel
theorem dX6_picture_132 : decode cX6_picture 132 = .ok (.getfield 94, 3) := by decide +kernel
theorem dX6_picture_135 : decode cX6_picture 135 = .ok (.iload_n 3, 1) := by decide +kernel
theorem dX6_picture_136 : decode cX6_picture 136 = .ok (.invokestatic 90, 3) := by decide +kernel
theorem dX6_picture_139 : decode cX6_picture 139 = .ok (.ifCond .eq 8, 3) := by decide +kernel
theorem dX6_picture_142 : decode cX6_picture 142 = .ok (.bipush 46, 2) := by decide +kernel
theorem dX6_picture_144 : decode cX6_picture 144 = .ok (.goto 5, 3) := by decide +kernel
theorem dX6_picture_147 : decode cX6_picture 147 = .ok (.bipush 32, 2) := by decide +kernel
theorem dX6_picture_149 : decode cX6_picture 149 = .ok (.ireturn, 1) := by decide +kernel
theorem dX6_letter_0 : decode cX6_letter 0 = .ok (.aload_n 0, 1) := by decide +kernel
theorem dX6_letter_1 : decode cX6_letter 1 = .ok (.iconst 0, 1) := by decide +kernel
theorem dX6_letter_2 : decode cX6_letter 2 = .ok (.putfield 42, 3) := by decide +kernel
theorem dX6_letter_5 : decode cX6_letter 5 = .ok (.iload_n 1, 1) := by decide +kernel
theorem dX6_letter_6 : decode cX6_letter 6 = .ok (.ifCond .lt 11, 3) := by decide +kernel
theorem dX6_letter_9 : decode cX6_letter 9 = .ok (.iload_n 1, 1) := by decide +kernel
theorem dX6_letter_10 : decode cX6_letter 10 = .ok (.aload_n 0, 1) := by decide +kernel
theorem dX6_letter_11 : decode cX6_letter 11 = .ok (.getfield 109, 3) := by decide +kernel
theorem dX6_letter_14 : decode cX6_letter 14 = .ok (.if_icmp .lt 5, 3) := by decide +kernel
theorem dX6_letter_17 : decode cX6_letter 17 = .ok (.iconst (-1), 1) := by decide +kernel
theorem dX6_letter_18 : decode cX6_letter 18 = .ok (.ireturn, 1) := by decide +kernel
theorem dX6_letter_19 : decode cX6_letter 19 = .ok (.aload_n 0, 1) := by decide +kernel
theorem dX6_letter_20 : decode cX6_letter 20 = .ok (.getfield 13, 3) := by decide +kernel
theorem dX6_letter_23 : decode cX6_letter 23 = .ok (.iload_n 1, 1) := by decide +kernel
theorem dX6_letter_24 : decode cX6_letter 24 = .ok (.iaload, 1) := by decide +kernel
theorem dX6_letter_25 : decode cX6_letter 25 = .ok (.iconst 4, 1) := by decide +kernel
theorem dX6_letter_26 : decode cX6_letter 26 = .ok (.irem, 1) := by decide +kernel
theorem dX6_letter_27 : decode cX6_letter 27 = .ok (.istore_n 2, 1) := by decide +kernel
theorem dX6_letter_28 : decode cX6_letter 28 = .ok (.iload_n 2, 1) := by decide +kernel
theorem dX6_letter_29 : decode cX6_letter 29 = .ok (.ifCond .ne 8, 3) := by decide +kernel
theorem dX6_letter_32 : decode cX6_letter 32 = .ok (.bipush 114, 2) := by decide +kernel
theorem dX6_letter_34 : decode cX6_letter 34 = .ok (.goto 25, 3) := by decide +kernel
theorem dX6_letter_37 : decode cX6_letter 37 = .ok (.iload_n 2, 1) := by decide +kernel
theorem dX6_letter_38 : decode cX6_letter 38 = .ok (.iconst 1, 1) := by decide +kernel
theorem dX6_letter_39 : decode cX6_letter 39 = .ok (.if_icmp .ne 8, 3) := by decide +kernel
theorem dX6_letter_42 : decode cX6_letter 42 = .ok (.bipush 100, 2) := by decide +kernel
theorem dX6_letter_44 : decode cX6_letter 44 = .ok (.goto 15, 3) := by decide +kernel
theorem dX6_letter_47 : decode cX6_letter 47 = .ok (.iload_n 2, 1) := by decide +kernel
theorem dX6_letter_48 : decode cX6_letter 48 = .ok (.iconst 2, 1) := by decide +kernel
theorem dX6_letter_49 : decode cX6_letter 49 = .ok (.if_icmp .ne 8, 3) := by decide +kernel
theorem dX6_letter_52 : decode cX6_letter 52 = .ok (.bipush 108, 2) := by decide +kernel
theorem dX6_letter_54 : decode cX6_letter 54 = .ok (.goto 5, 3) := by decide +kernel
theorem dX6_letter_57 : decode cX6_letter 57 = .ok (.bipush 117, 2) := by decide +kernel
theorem dX6_letter_59 : decode cX6_letter 59 = .ok (.istore_n 3, 1) := by decide +kernel
theorem dX6_letter_60 : decode cX6_letter 60 = .ok (.aload_n 0, 1) := by decide +kernel
theorem dX6_letter_61 : decode cX6_letter 61 = .ok (.getfield 13, 3) := by decide +kernel
theorem dX6_letter_64 : decode cX6_letter 64 = .ok (.iload_n 1, 1) := by decide +kernel
theorem dX6_letter_65 : decode cX6_letter 65 = .ok (.iaload, 1) := by decide +kernel
theorem dX6_letter_66 : decode cX6_letter 66 = .ok (.iconst 3, 1) := by decide +kernel
theorem dX6_letter_67 : decode cX6_letter 67 = .ok (.if_icmp .le 10, 3) := by decide +kernel
theorem dX6_letter_70 : decode cX6_letter 70 = .ok (.iload_n 3, 1) := by decide +kernel
theorem dX6_letter_71 : decode cX6_letter 71 = .ok (.bipush 32, 2) := by decide +kernel
theorem dX6_letter_73 : decode cX6_letter 73 = .ok (.isub, 1) := by decide +kernel
theorem dX6_letter_74 : decode cX6_letter 74 = .ok (.goto 4, 3) := by decide +kernel
theorem dX6_letter_77 : decode cX6_letter 77 = .ok (.iload_n 3, 1) := by decide +kernel
theorem dX6_letter_78 : decode cX6_letter 78 = .ok (.ireturn, 1) := by decide +kernel
theorem dX6_reachOf_0 : decode cX6_reachOf 0 = .ok (.lconst 1, 1) := by decide +kernel
theorem dX6_reachOf_1 : decode cX6_reachOf 1 = .ok (.iload_n 1, 1) := by decide +kernel
theorem dX6_reachOf_2 : decode cX6_reachOf 2 = .ok (.lshl, 1) := by decide +kernel
theorem dX6_reachOf_3 : decode cX6_reachOf 3 = .ok (.lstore 4, 2) := by decide +kernel
theorem dX6_reachOf_5 : decode cX6_reachOf 5 = .ok (.lconst 0, 1) := by decide +kernel
theorem dX6_reachOf_6 : decode cX6_reachOf 6 = .ok (.lstore 6, 2) := by decide +kernel
theorem dX6_reachOf_8 : decode cX6_reachOf 8 = .ok (.lload 4, 2) := by decide +kernel
theorem dX6_reachOf_10 : decode cX6_reachOf 10 = .ok (.lload 6, 2) := by decide +kernel
theorem dX6_reachOf_12 : decode cX6_reachOf 12 = .ok (.lcmp, 1) := by decide +kernel
theorem dX6_reachOf_13 : decode cX6_reachOf 13 = .ok (.ifCond .eq 100, 3) := by decide +kernel
theorem dX6_reachOf_16 : decode cX6_reachOf 16 = .ok (.lload 4, 2) := by decide +kernel
theorem dX6_reachOf_18 : decode cX6_reachOf 18 = .ok (.lstore 6, 2) := by decide +kernel
theorem dX6_reachOf_20 : decode cX6_reachOf 20 = .ok (.iconst 0, 1) := by decide +kernel
theorem dX6_reachOf_21 : decode cX6_reachOf 21 = .ok (.istore 8, 2) := by decide +kernel
theorem dX6_reachOf_23 : decode cX6_reachOf 23 = .ok (.iload 8, 2) := by decide +kernel
theorem dX6_reachOf_25 : decode cX6_reachOf 25 = .ok (.bipush 64, 2) := by decide +kernel
theorem dX6_reachOf_27 : decode cX6_reachOf 27 = .ok (.if_icmp .ge 83, 3) := by decide +kernel
theorem dX6_reachOf_30 : decode cX6_reachOf 30 = .ok (.aload_n 0, 1) := by decide +kernel
theorem dX6_reachOf_31 : decode cX6_reachOf 31 = .ok (.getfield 87, 3) := by decide +kernel
theorem dX6_reachOf_34 : decode cX6_reachOf 34 = .ok (.iload 8, 2) := by decide +kernel
theorem dX6_reachOf_36 : decode cX6_reachOf 36 = .ok (.invokestatic 90, 3) := by decide +kernel
theorem dX6_reachOf_39 : decode cX6_reachOf 39 = .ok (.ifCond .eq 65, 3) := by decide +kernel
theorem dX6_reachOf_42 : decode cX6_reachOf 42 = .ok (.lload_n 2, 1) := by decide +kernel
theorem dX6_reachOf_43 : decode cX6_reachOf 43 = .ok (.iload 8, 2) := by decide +kernel
theorem dX6_reachOf_45 : decode cX6_reachOf 45 = .ok (.invokestatic 90, 3) := by decide +kernel
theorem dX6_reachOf_48 : decode cX6_reachOf 48 = .ok (.ifCond .ne 56, 3) := by decide +kernel
theorem dX6_reachOf_51 : decode cX6_reachOf 51 = .ok (.lload 4, 2) := by decide +kernel
theorem dX6_reachOf_53 : decode cX6_reachOf 53 = .ok (.iload 8, 2) := by decide +kernel
theorem dX6_reachOf_55 : decode cX6_reachOf 55 = .ok (.invokestatic 90, 3) := by decide +kernel
theorem dX6_reachOf_58 : decode cX6_reachOf 58 = .ok (.ifCond .eq 6, 3) := by decide +kernel
theorem dX6_reachOf_61 : decode cX6_reachOf 61 = .ok (.goto 43, 3) := by decide +kernel
theorem dX6_reachOf_64 : decode cX6_reachOf 64 = .ok (.iconst 0, 1) := by decide +kernel
theorem dX6_reachOf_65 : decode cX6_reachOf 65 = .ok (.istore 9, 2) := by decide +kernel
theorem dX6_reachOf_67 : decode cX6_reachOf 67 = .ok (.iload 9, 2) := by decide +kernel
theorem dX6_reachOf_69 : decode cX6_reachOf 69 = .ok (.iconst 4, 1) := by decide +kernel
theorem dX6_reachOf_70 : decode cX6_reachOf 70 = .ok (.if_icmp .ge 34, 3) := by decide +kernel
theorem dX6_reachOf_73 : decode cX6_reachOf 73 = .ok (.lload 4, 2) := by decide +kernel
theorem dX6_reachOf_75 : decode cX6_reachOf 75 = .ok (.aload_n 0, 1) := by decide +kernel
theorem dX6_reachOf_76 : decode cX6_reachOf 76 = .ok (.iload 8, 2) := by decide +kernel
theorem dX6_reachOf_78 : decode cX6_reachOf 78 = .ok (.iload 9, 2) := by decide +kernel
theorem dX6_reachOf_80 : decode cX6_reachOf 80 = .ok (.invokevirtual 112, 3) := by decide +kernel
theorem dX6_reachOf_83 : decode cX6_reachOf 83 = .ok (.invokestatic 90, 3) := by decide +kernel
theorem dX6_reachOf_86 : decode cX6_reachOf 86 = .ok (.ifCond .eq 12, 3) := by decide +kernel
theorem dX6_reachOf_89 : decode cX6_reachOf 89 = .ok (.lload 4, 2) := by decide +kernel
theorem dX6_reachOf_91 : decode cX6_reachOf 91 = .ok (.lconst 1, 1) := by decide +kernel
theorem dX6_reachOf_92 : decode cX6_reachOf 92 = .ok (.iload 8, 2) := by decide +kernel
theorem dX6_reachOf_94 : decode cX6_reachOf 94 = .ok (.lshl, 1) := by decide +kernel
theorem dX6_reachOf_95 : decode cX6_reachOf 95 = .ok (.lor, 1) := by decide +kernel
theorem dX6_reachOf_96 : decode cX6_reachOf 96 = .ok (.lstore 4, 2) := by decide +kernel
theorem dX6_reachOf_98 : decode cX6_reachOf 98 = .ok (.iinc 9 1, 3) := by decide +kernel
theorem dX6_reachOf_101 : decode cX6_reachOf 101 = .ok (.goto (-34), 3) := by decide +kernel
theorem dX6_reachOf_104 : decode cX6_reachOf 104 = .ok (.iinc 8 1, 3) := by decide +kernel
theorem dX6_reachOf_107 : decode cX6_reachOf 107 = .ok (.goto (-84), 3) := by decide +kernel
theorem dX6_reachOf_110 : decode cX6_reachOf 110 = .ok (.goto (-102), 3) := by decide +kernel
theorem dX6_reachOf_113 : decode cX6_reachOf 113 = .ok (.lload 4, 2) := by decide +kernel
theorem dX6_reachOf_115 : decode cX6_reachOf 115 = .ok (.lreturn, 1) := by decide +kernel
theorem dX6_reach_0 : decode cX6_reach 0 = .ok (.aload_n 0, 1) := by decide +kernel
theorem dX6_reach_1 : decode cX6_reach 1 = .ok (.iconst 0, 1) := by decide +kernel
theorem dX6_reach_2 : decode cX6_reach 2 = .ok (.putfield 42, 3) := by decide +kernel
theorem dX6_reach_5 : decode cX6_reach 5 = .ok (.aload_n 0, 1) := by decide +kernel
theorem dX6_reach_6 : decode cX6_reach 6 = .ok (.getfield 83, 3) := by decide +kernel
theorem dX6_reach_9 : decode cX6_reach 9 = .ok (.ifCond .eq 21, 3) := by decide +kernel
theorem dX6_reach_12 : decode cX6_reach 12 = .ok (.aload_n 0, 1) := by decide +kernel
theorem dX6_reach_13 : decode cX6_reach 13 = .ok (.aload_n 0, 1) := by decide +kernel
theorem dX6_reach_14 : decode cX6_reach 14 = .ok (.getfield 100, 3) := by decide +kernel
theorem dX6_reach_17 : decode cX6_reach 17 = .ok (.aload_n 0, 1) := by decide +kernel
theorem dX6_reach_18 : decode cX6_reach 18 = .ok (.getfield 97, 3) := by decide +kernel
theorem dX6_reach_21 : decode cX6_reach 21 = .ok (.invokevirtual 139, 3) := by decide +kernel
theorem dX6_reach_24 : decode cX6_reach 24 = .ok (.invokestatic 75, 3) := by decide +kernel
theorem dX6_reach_27 : decode cX6_reach 27 = .ok (.goto 4, 3) := by decide +kernel
theorem dX6_reach_30 : decode cX6_reach 30 = .ok (.iconst 0, 1) := by decide +kernel
theorem dX6_reach_31 : decode cX6_reach 31 = .ok (.ireturn, 1) := by decide +kernel
theorem dX6_way_0 : decode cX6_way 0 = .ok (.aload_n 0, 1) := by decide +kernel
theorem dX6_way_1 : decode cX6_way 1 = .ok (.iconst 1, 1) := by decide +kernel
theorem dX6_way_2 : decode cX6_way 2 = .ok (.aload_n 0, 1) := by decide +kernel
theorem dX6_way_3 : decode cX6_way 3 = .ok (.iload_n 1, 1) := by decide +kernel
theorem dX6_way_4 : decode cX6_way 4 = .ok (.iload_n 2, 1) := by decide +kernel
theorem dX6_way_5 : decode cX6_way 5 = .ok (.invokevirtual 52, 3) := by decide +kernel
theorem dX6_way_8 : decode cX6_way 8 = .ok (.ifCond .ne 7, 3) := by decide +kernel
theorem dX6_way_11 : decode cX6_way 11 = .ok (.iconst 1, 1) := by decide +kernel
theorem dX6_way_12 : decode cX6_way 12 = .ok (.goto 4, 3) := by decide +kernel
theorem dX6_way_15 : decode cX6_way 15 = .ok (.iconst 0, 1) := by decide +kernel
theorem dX6_way_16 : decode cX6_way 16 = .ok (.invokevirtual 118, 3) := by decide +kernel
theorem dX6_way_19 : decode cX6_way 19 = .ok (.ifCond .eq 5, 3) := by decide +kernel
theorem dX6_way_22 : decode cX6_way 22 = .ok (.iconst 0, 1) := by decide +kernel
theorem dX6_way_23 : decode cX6_way 23 = .ok (.ireturn, 1) := by decide +kernel
theorem dX6_way_24 : decode cX6_way 24 = .ok (.iconst 0, 1) := by decide +kernel
theorem dX6_way_25 : decode cX6_way 25 = .ok (.istore_n 3, 1) := by decide +kernel
theorem dX6_way_26 : decode cX6_way 26 = .ok (.iload_n 3, 1) := by decide +kernel
theorem dX6_way_27 : decode cX6_way 27 = .ok (.bipush 64, 2) := by decide +kernel
theorem dX6_way_29 : decode cX6_way 29 = .ok (.if_icmp .ge 28, 3) := by decide +kernel
theorem dX6_way_32 : decode cX6_way 32 = .ok (.aload_n 0, 1) := by decide +kernel
theorem dX6_way_33 : decode cX6_way 33 = .ok (.getfield 36, 3) := by decide +kernel
theorem dX6_way_36 : decode cX6_way 36 = .ok (.iload_n 3, 1) := by decide +kernel
theorem dX6_way_37 : decode cX6_way 37 = .ok (.iload_n 3, 1) := by decide +kernel
theorem dX6_way_38 : decode cX6_way 38 = .ok (.aload_n 0, 1) := by decide +kernel
theorem dX6_way_39 : decode cX6_way 39 = .ok (.getfield 100, 3) := by decide +kernel
theorem dX6_way_42 : decode cX6_way 42 = .ok (.if_icmp .ne 7, 3) := by decide +kernel
theorem dX6_way_45 : decode cX6_way 45 = .ok (.iconst 0, 1) := by decide +kernel
theorem dX6_way_46 : decode cX6_way 46 = .ok (.goto 4, 3) := by decide +kernel
theorem dX6_way_49 : decode cX6_way 49 = .ok (.iconst (-1), 1) := by decide +kernel
theorem dX6_way_50 : decode cX6_way 50 = .ok (.iastore, 1) := by decide +kernel
theorem dX6_way_51 : decode cX6_way 51 = .ok (.iinc 3 1, 3) := by decide +kernel
theorem dX6_way_54 : decode cX6_way 54 = .ok (.goto (-28), 3) := by decide +kernel
theorem dX6_way_57 : decode cX6_way 57 = .ok (.iconst 0, 1) := by decide +kernel
theorem dX6_way_58 : decode cX6_way 58 = .ok (.istore_n 3, 1) := by decide +kernel
theorem dX6_way_59 : decode cX6_way 59 = .ok (.iload_n 3, 1) := by decide +kernel
theorem dX6_way_60 : decode cX6_way 60 = .ok (.bipush 64, 2) := by decide +kernel
theorem dX6_way_62 : decode cX6_way 62 = .ok (.if_icmp .ge 115, 3) := by decide +kernel
theorem dX6_way_65 : decode cX6_way 65 = .ok (.iconst 0, 1) := by decide +kernel
theorem dX6_way_66 : decode cX6_way 66 = .ok (.istore 4, 2) := by decide +kernel
theorem dX6_way_68 : decode cX6_way 68 = .ok (.iload 4, 2) := by decide +kernel
theorem dX6_way_70 : decode cX6_way 70 = .ok (.bipush 64, 2) := by decide +kernel
theorem dX6_way_72 : decode cX6_way 72 = .ok (.if_icmp .ge 99, 3) := by decide +kernel
theorem dX6_way_75 : decode cX6_way 75 = .ok (.aload_n 0, 1) := by decide +kernel
theorem dX6_way_76 : decode cX6_way 76 = .ok (.getfield 87, 3) := by decide +kernel
theorem dX6_way_79 : decode cX6_way 79 = .ok (.iload 4, 2) := by decide +kernel
theorem dX6_way_81 : decode cX6_way 81 = .ok (.invokestatic 90, 3) := by decide +kernel
theorem dX6_way_84 : decode cX6_way 84 = .ok (.ifCond .eq 81, 3) := by decide +kernel
theorem dX6_way_87 : decode cX6_way 87 = .ok (.aload_n 0, 1) := by decide +kernel
theorem dX6_way_88 : decode cX6_way 88 = .ok (.getfield 97, 3) := by decide +kernel
theorem dX6_way_91 : decode cX6_way 91 = .ok (.iload 4, 2) := by decide +kernel
theorem dX6_way_93 : decode cX6_way 93 = .ok (.invokestatic 90, 3) := by decide +kernel
theorem dX6_way_96 : decode cX6_way 96 = .ok (.ifCond .ne 69, 3) := by decide +kernel
theorem dX6_way_99 : decode cX6_way 99 = .ok (.aload_n 0, 1) := by decide +kernel
theorem dX6_way_100 : decode cX6_way 100 = .ok (.getfield 36, 3) := by decide +kernel
theorem dX6_way_103 : decode cX6_way 103 = .ok (.iload 4, 2) := by decide +kernel
theorem dX6_way_105 : decode cX6_way 105 = .ok (.iaload, 1) := by decide +kernel
theorem dX6_way_106 : decode cX6_way 106 = .ok (.ifCond .lt 6, 3) := by decide +kernel
theorem dX6_way_109 : decode cX6_way 109 = .ok (.goto 56, 3) := by decide +kernel
theorem dX6_way_112 : decode cX6_way 112 = .ok (.iconst 0, 1) := by decide +kernel
theorem dX6_way_113 : decode cX6_way 113 = .ok (.istore 5, 2) := by decide +kernel
theorem dX6_way_115 : decode cX6_way 115 = .ok (.iload 5, 2) := by decide +kernel
theorem dX6_way_117 : decode cX6_way 117 = .ok (.iconst 4, 1) := by decide +kernel
theorem dX6_way_118 : decode cX6_way 118 = .ok (.if_icmp .ge 47, 3) := by decide +kernel
theorem dX6_way_121 : decode cX6_way 121 = .ok (.aload_n 0, 1) := by decide +kernel
theorem dX6_way_122 : decode cX6_way 122 = .ok (.iload 4, 2) := by decide +kernel
theorem dX6_way_124 : decode cX6_way 124 = .ok (.iload 5, 2) := by decide +kernel
theorem dX6_way_126 : decode cX6_way 126 = .ok (.invokevirtual 112, 3) := by decide +kernel
theorem dX6_way_129 : decode cX6_way 129 = .ok (.ifCond .lt 30, 3) := by decide +kernel
theorem dX6_way_132 : decode cX6_way 132 = .ok (.aload_n 0, 1) := by decide +kernel
theorem dX6_way_133 : decode cX6_way 133 = .ok (.getfield 36, 3) := by decide +kernel
theorem dX6_way_136 : decode cX6_way 136 = .ok (.aload_n 0, 1) := by decide +kernel
theorem dX6_way_137 : decode cX6_way 137 = .ok (.iload 4, 2) := by decide +kernel
theorem dX6_way_139 : decode cX6_way 139 = .ok (.iload 5, 2) := by decide +kernel
theorem dX6_way_141 : decode cX6_way 141 = .ok (.invokevirtual 112, 3) := by decide +kernel
theorem dX6_way_144 : decode cX6_way 144 = .ok (.iaload, 1) := by decide +kernel
theorem dX6_way_145 : decode cX6_way 145 = .ok (.iload_n 3, 1) := by decide +kernel
theorem dX6_way_146 : decode cX6_way 146 = .ok (.if_icmp .ne 13, 3) := by decide +kernel
theorem dX6_way_149 : decode cX6_way 149 = .ok (.aload_n 0, 1) := by decide +kernel
theorem dX6_way_150 : decode cX6_way 150 = .ok (.getfield 36, 3) := by decide +kernel
theorem dX6_way_153 : decode cX6_way 153 = .ok (.iload 4, 2) := by decide +kernel
theorem dX6_way_155 : decode cX6_way 155 = .ok (.iload_n 3, 1) := by decide +kernel
theorem dX6_way_156 : decode cX6_way 156 = .ok (.iconst 1, 1) := by decide +kernel
theorem dX6_way_157 : decode cX6_way 157 = .ok (.iadd, 1) := by decide +kernel
theorem dX6_way_158 : decode cX6_way 158 = .ok (.iastore, 1) := by decide +kernel
theorem dX6_way_159 : decode cX6_way 159 = .ok (.iinc 5 1, 3) := by decide +kernel
theorem dX6_way_162 : decode cX6_way 162 = .ok (.goto (-47), 3) := by decide +kernel
theorem dX6_way_165 : decode cX6_way 165 = .ok (.iinc 4 1, 3) := by decide +kernel
theorem dX6_way_168 : decode cX6_way 168 = .ok (.goto (-100), 3) := by decide +kernel
theorem dX6_way_171 : decode cX6_way 171 = .ok (.iinc 3 1, 3) := by decide +kernel
theorem dX6_way_174 : decode cX6_way 174 = .ok (.goto (-115), 3) := by decide +kernel
theorem dX6_way_177 : decode cX6_way 177 = .ok (.aload_n 0, 1) := by decide +kernel
theorem dX6_way_178 : decode cX6_way 178 = .ok (.getfield 36, 3) := by decide +kernel
theorem dX6_way_181 : decode cX6_way 181 = .ok (.bipush 8, 2) := by decide +kernel
theorem dX6_way_183 : decode cX6_way 183 = .ok (.iload_n 2, 1) := by decide +kernel
theorem dX6_way_184 : decode cX6_way 184 = .ok (.imul, 1) := by decide +kernel
theorem dX6_way_185 : decode cX6_way 185 = .ok (.iload_n 1, 1) := by decide +kernel
theorem dX6_way_186 : decode cX6_way 186 = .ok (.iadd, 1) := by decide +kernel
theorem dX6_way_187 : decode cX6_way 187 = .ok (.iaload, 1) := by decide +kernel
theorem dX6_way_188 : decode cX6_way 188 = .ok (.ireturn, 1) := by decide +kernel
theorem dX6_live_0 : decode cX6_live 0 = .ok (.aload_n 0, 1) := by decide +kernel
theorem dX6_live_1 : decode cX6_live 1 = .ok (.getfield 94, 3) := by decide +kernel
theorem dX6_live_4 : decode cX6_live 4 = .ok (.lstore_n 1, 1) := by decide +kernel
theorem dX6_live_5 : decode cX6_live 5 = .ok (.lconst 0, 1) := by decide +kernel
theorem dX6_live_6 : decode cX6_live 6 = .ok (.lstore_n 3, 1) := by decide +kernel
theorem dX6_live_7 : decode cX6_live 7 = .ok (.lload_n 1, 1) := by decide +kernel
theorem dX6_live_8 : decode cX6_live 8 = .ok (.lload_n 3, 1) := by decide +kernel
theorem dX6_live_9 : decode cX6_live 9 = .ok (.lcmp, 1) := by decide +kernel
theorem dX6_live_10 : decode cX6_live 10 = .ok (.ifCond .eq 107, 3) := by decide +kernel
theorem dX6_live_13 : decode cX6_live 13 = .ok (.lload_n 1, 1) := by decide +kernel
theorem dX6_live_14 : decode cX6_live 14 = .ok (.lstore_n 3, 1) := by decide +kernel
theorem dX6_live_15 : decode cX6_live 15 = .ok (.iconst 0, 1) := by decide +kernel
theorem dX6_live_16 : decode cX6_live 16 = .ok (.istore 5, 2) := by decide +kernel
theorem dX6_live_18 : decode cX6_live 18 = .ok (.iload 5, 2) := by decide +kernel
theorem dX6_live_20 : decode cX6_live 20 = .ok (.bipush 64, 2) := by decide +kernel
theorem dX6_live_22 : decode cX6_live 22 = .ok (.if_icmp .ge 92, 3) := by decide +kernel
theorem dX6_live_25 : decode cX6_live 25 = .ok (.aload_n 0, 1) := by decide +kernel
theorem dX6_live_26 : decode cX6_live 26 = .ok (.getfield 87, 3) := by decide +kernel
theorem dX6_live_29 : decode cX6_live 29 = .ok (.iload 5, 2) := by decide +kernel
theorem dX6_live_31 : decode cX6_live 31 = .ok (.invokestatic 90, 3) := by decide +kernel
theorem dX6_live_34 : decode cX6_live 34 = .ok (.ifCond .eq 74, 3) := by decide +kernel
theorem dX6_live_37 : decode cX6_live 37 = .ok (.lload_n 1, 1) := by decide +kernel
theorem dX6_live_38 : decode cX6_live 38 = .ok (.iload 5, 2) := by decide +kernel
theorem dX6_live_40 : decode cX6_live 40 = .ok (.invokestatic 90, 3) := by decide +kernel
theorem dX6_live_43 : decode cX6_live 43 = .ok (.ifCond .eq 6, 3) := by decide +kernel
theorem dX6_live_46 : decode cX6_live 46 = .ok (.goto 62, 3) := by decide +kernel
theorem dX6_live_49 : decode cX6_live 49 = .ok (.iconst 0, 1) := by decide +kernel
theorem dX6_live_50 : decode cX6_live 50 = .ok (.istore 6, 2) := by decide +kernel
theorem dX6_live_52 : decode cX6_live 52 = .ok (.iload 6, 2) := by decide +kernel
theorem dX6_live_54 : decode cX6_live 54 = .ok (.iconst 4, 1) := by decide +kernel
theorem dX6_live_55 : decode cX6_live 55 = .ok (.if_icmp .ge 53, 3) := by decide +kernel
theorem dX6_live_58 : decode cX6_live 58 = .ok (.lload_n 1, 1) := by decide +kernel
theorem dX6_live_59 : decode cX6_live 59 = .ok (.aload_n 0, 1) := by decide +kernel
theorem dX6_live_60 : decode cX6_live 60 = .ok (.iload 5, 2) := by decide +kernel
theorem dX6_live_62 : decode cX6_live 62 = .ok (.iload 6, 2) := by decide +kernel
theorem dX6_live_64 : decode cX6_live 64 = .ok (.invokevirtual 112, 3) := by decide +kernel
theorem dX6_live_67 : decode cX6_live 67 = .ok (.invokestatic 90, 3) := by decide +kernel
theorem dX6_live_70 : decode cX6_live 70 = .ok (.ifCond .eq 32, 3) := by decide +kernel
theorem dX6_live_73 : decode cX6_live 73 = .ok (.aload_n 0, 1) := by decide +kernel
theorem dX6_live_74 : decode cX6_live 74 = .ok (.getfield 87, 3) := by decide +kernel
theorem dX6_live_77 : decode cX6_live 77 = .ok (.aload_n 0, 1) := by decide +kernel
theorem dX6_live_78 : decode cX6_live 78 = .ok (.iload 5, 2) := by decide +kernel
theorem dX6_live_80 : decode cX6_live 80 = .ok (.aload_n 0, 1) := by decide +kernel
theorem dX6_live_81 : decode cX6_live 81 = .ok (.iload 6, 2) := by decide +kernel
theorem dX6_live_83 : decode cX6_live 83 = .ok (.invokevirtual 126, 3) := by decide +kernel
theorem dX6_live_86 : decode cX6_live 86 = .ok (.invokevirtual 112, 3) := by decide +kernel
theorem dX6_live_89 : decode cX6_live 89 = .ok (.invokestatic 90, 3) := by decide +kernel
theorem dX6_live_92 : decode cX6_live 92 = .ok (.ifCond .eq 10, 3) := by decide +kernel
theorem dX6_live_95 : decode cX6_live 95 = .ok (.lload_n 1, 1) := by decide +kernel
theorem dX6_live_96 : decode cX6_live 96 = .ok (.lconst 1, 1) := by decide +kernel
theorem dX6_live_97 : decode cX6_live 97 = .ok (.iload 5, 2) := by decide +kernel
theorem dX6_live_99 : decode cX6_live 99 = .ok (.lshl, 1) := by decide +kernel
theorem dX6_live_100 : decode cX6_live 100 = .ok (.lor, 1) := by decide +kernel
theorem dX6_live_101 : decode cX6_live 101 = .ok (.lstore_n 1, 1) := by decide +kernel
theorem dX6_live_102 : decode cX6_live 102 = .ok (.iinc 6 1, 3) := by decide +kernel
theorem dX6_live_105 : decode cX6_live 105 = .ok (.goto (-53), 3) := by decide +kernel
theorem dX6_live_108 : decode cX6_live 108 = .ok (.iinc 5 1, 3) := by decide +kernel
theorem dX6_live_111 : decode cX6_live 111 = .ok (.goto (-93), 3) := by decide +kernel
theorem dX6_live_114 : decode cX6_live 114 = .ok (.goto (-107), 3) := by decide +kernel
theorem dX6_live_117 : decode cX6_live 117 = .ok (.lload_n 1, 1) := by decide +kernel
theorem dX6_live_118 : decode cX6_live 118 = .ok (.lreturn, 1) := by decide +kernel
theorem dX6_dead_0 : decode cX6_dead 0 = .ok (.aload_n 0, 1) := by decide +kernel
theorem dX6_dead_1 : decode cX6_dead 1 = .ok (.iconst 1, 1) := by decide +kernel
theorem dX6_dead_2 : decode cX6_dead 2 = .ok (.aload_n 0, 1) := by decide +kernel
theorem dX6_dead_3 : decode cX6_dead 3 = .ok (.iload_n 1, 1) := by decide +kernel
theorem dX6_dead_4 : decode cX6_dead 4 = .ok (.iload_n 2, 1) := by decide +kernel
theorem dX6_dead_5 : decode cX6_dead 5 = .ok (.invokevirtual 52, 3) := by decide +kernel
theorem dX6_dead_8 : decode cX6_dead 8 = .ok (.ifCond .ne 7, 3) := by decide +kernel
theorem dX6_dead_11 : decode cX6_dead 11 = .ok (.iconst 1, 1) := by decide +kernel
theorem dX6_dead_12 : decode cX6_dead 12 = .ok (.goto 4, 3) := by decide +kernel
theorem dX6_dead_15 : decode cX6_dead 15 = .ok (.iconst 0, 1) := by decide +kernel
theorem dX6_dead_16 : decode cX6_dead 16 = .ok (.invokevirtual 118, 3) := by decide +kernel
theorem dX6_dead_19 : decode cX6_dead 19 = .ok (.ifCond .eq 5, 3) := by decide +kernel
theorem dX6_dead_22 : decode cX6_dead 22 = .ok (.iconst 0, 1) := by decide +kernel
theorem dX6_dead_23 : decode cX6_dead 23 = .ok (.ireturn, 1) := by decide +kernel
theorem dX6_dead_24 : decode cX6_dead 24 = .ok (.aload_n 0, 1) := by decide +kernel
theorem dX6_dead_25 : decode cX6_dead 25 = .ok (.getfield 87, 3) := by decide +kernel
theorem dX6_dead_28 : decode cX6_dead 28 = .ok (.aload_n 0, 1) := by decide +kernel
theorem dX6_dead_29 : decode cX6_dead 29 = .ok (.invokevirtual 143, 3) := by decide +kernel
theorem dX6_dead_32 : decode cX6_dead 32 = .ok (.ldc2_w 116, 3) := by decide +kernel
theorem dX6_dead_35 : decode cX6_dead 35 = .ok (.lxor, 1) := by decide +kernel
theorem dX6_dead_36 : decode cX6_dead 36 = .ok (.land, 1) := by decide +kernel
theorem dX6_dead_37 : decode cX6_dead 37 = .ok (.bipush 8, 2) := by decide +kernel
theorem dX6_dead_39 : decode cX6_dead 39 = .ok (.iload_n 2, 1) := by decide +kernel
theorem dX6_dead_40 : decode cX6_dead 40 = .ok (.imul, 1) := by decide +kernel
theorem dX6_dead_41 : decode cX6_dead 41 = .ok (.iload_n 1, 1) := by decide +kernel
theorem dX6_dead_42 : decode cX6_dead 42 = .ok (.iadd, 1) := by decide +kernel
theorem dX6_dead_43 : decode cX6_dead 43 = .ok (.invokestatic 90, 3) := by decide +kernel
theorem dX6_dead_46 : decode cX6_dead 46 = .ok (.ireturn, 1) := by decide +kernel
theorem dX6_canGo_0 : decode cX6_canGo 0 = .ok (.aload_n 0, 1) := by decide +kernel
theorem dX6_canGo_1 : decode cX6_canGo 1 = .ok (.iload_n 1, 1) := by decide +kernel
theorem dX6_canGo_2 : decode cX6_canGo 2 = .ok (.iload_n 2, 1) := by decide +kernel
theorem dX6_canGo_3 : decode cX6_canGo 3 = .ok (.invokevirtual 112, 3) := by decide +kernel
theorem dX6_canGo_6 : decode cX6_canGo 6 = .ok (.istore 7, 2) := by decide +kernel
theorem dX6_canGo_8 : decode cX6_canGo 8 = .ok (.aload_n 0, 1) := by decide +kernel
theorem dX6_canGo_9 : decode cX6_canGo 9 = .ok (.iload_n 1, 1) := by decide +kernel
theorem dX6_canGo_10 : decode cX6_canGo 10 = .ok (.aload_n 0, 1) := by decide +kernel
theorem dX6_canGo_11 : decode cX6_canGo 11 = .ok (.iload_n 2, 1) := by decide +kernel
theorem dX6_canGo_12 : decode cX6_canGo 12 = .ok (.invokevirtual 126, 3) := by decide +kernel
theorem dX6_canGo_15 : decode cX6_canGo 15 = .ok (.invokevirtual 112, 3) := by decide +kernel
theorem dX6_canGo_18 : decode cX6_canGo 18 = .ok (.istore 8, 2) := by decide +kernel
theorem dX6_canGo_20 : decode cX6_canGo 20 = .ok (.aload_n 0, 1) := by decide +kernel
theorem dX6_canGo_21 : decode cX6_canGo 21 = .ok (.getfield 87, 3) := by decide +kernel
theorem dX6_canGo_24 : decode cX6_canGo 24 = .ok (.iload 7, 2) := by decide +kernel
theorem dX6_canGo_26 : decode cX6_canGo 26 = .ok (.invokestatic 90, 3) := by decide +kernel
theorem dX6_canGo_29 : decode cX6_canGo 29 = .ok (.ifCond .eq 33, 3) := by decide +kernel
theorem dX6_canGo_32 : decode cX6_canGo 32 = .ok (.aload_n 0, 1) := by decide +kernel
theorem dX6_canGo_33 : decode cX6_canGo 33 = .ok (.getfield 87, 3) := by decide +kernel
theorem dX6_canGo_36 : decode cX6_canGo 36 = .ok (.iload 8, 2) := by decide +kernel
theorem dX6_canGo_38 : decode cX6_canGo 38 = .ok (.invokestatic 90, 3) := by decide +kernel
theorem dX6_canGo_41 : decode cX6_canGo 41 = .ok (.ifCond .eq 21, 3) := by decide +kernel
theorem dX6_canGo_44 : decode cX6_canGo 44 = .ok (.lload_n 3, 1) := by decide +kernel
theorem dX6_canGo_45 : decode cX6_canGo 45 = .ok (.iload 7, 2) := by decide +kernel
theorem dX6_canGo_47 : decode cX6_canGo 47 = .ok (.invokestatic 90, 3) := by decide +kernel
theorem dX6_canGo_50 : decode cX6_canGo 50 = .ok (.ifCond .ne 12, 3) := by decide +kernel
theorem dX6_canGo_53 : decode cX6_canGo 53 = .ok (.lload_n 3, 1) := by decide +kernel
theorem dX6_canGo_54 : decode cX6_canGo 54 = .ok (.iload 8, 2) := by decide +kernel
theorem dX6_canGo_56 : decode cX6_canGo 56 = .ok (.invokestatic 90, 3) := by decide +kernel
theorem dX6_canGo_59 : decode cX6_canGo 59 = .ok (.ifCond .eq 5, 3) := by decide +kernel
theorem dX6_canGo_62 : decode cX6_canGo 62 = .ok (.iconst 0, 1) := by decide +kernel
theorem dX6_canGo_63 : decode cX6_canGo 63 = .ok (.ireturn, 1) := by decide +kernel
theorem dX6_canGo_64 : decode cX6_canGo 64 = .ok (.lload 5, 2) := by decide +kernel
theorem dX6_canGo_66 : decode cX6_canGo 66 = .ok (.iload 7, 2) := by decide +kernel
theorem dX6_canGo_68 : decode cX6_canGo 68 = .ok (.invokestatic 90, 3) := by decide +kernel
theorem dX6_canGo_71 : decode cX6_canGo 71 = .ok (.ifCond .ne 13, 3) := by decide +kernel
theorem dX6_canGo_74 : decode cX6_canGo 74 = .ok (.lload 5, 2) := by decide +kernel
theorem dX6_canGo_76 : decode cX6_canGo 76 = .ok (.iload 8, 2) := by decide +kernel
theorem dX6_canGo_78 : decode cX6_canGo 78 = .ok (.invokestatic 90, 3) := by decide +kernel
theorem dX6_canGo_81 : decode cX6_canGo 81 = .ok (.ifCond .eq 7, 3) := by decide +kernel
theorem dX6_canGo_84 : decode cX6_canGo 84 = .ok (.iconst 1, 1) := by decide +kernel
theorem dX6_canGo_85 : decode cX6_canGo 85 = .ok (.goto 4, 3) := by decide +kernel
theorem dX6_canGo_88 : decode cX6_canGo 88 = .ok (.iconst 0, 1) := by decide +kernel
theorem dX6_canGo_89 : decode cX6_canGo 89 = .ok (.ireturn, 1) := by decide +kernel
theorem dX6_fastOf_0 : decode cX6_fastOf 0 = .ok (.lload_n 1, 1) := by decide +kernel
theorem dX6_fastOf_1 : decode cX6_fastOf 1 = .ok (.lstore 5, 2) := by decide +kernel
theorem dX6_fastOf_3 : decode cX6_fastOf 3 = .ok (.lconst 0, 1) := by decide +kernel
theorem dX6_fastOf_4 : decode cX6_fastOf 4 = .ok (.lstore 7, 2) := by decide +kernel
theorem dX6_fastOf_6 : decode cX6_fastOf 6 = .ok (.lload 5, 2) := by decide +kernel
theorem dX6_fastOf_8 : decode cX6_fastOf 8 = .ok (.lload 7, 2) := by decide +kernel
theorem dX6_fastOf_10 : decode cX6_fastOf 10 = .ok (.lcmp, 1) := by decide +kernel
theorem dX6_fastOf_11 : decode cX6_fastOf 11 = .ok (.ifCond .eq 75, 3) := by decide +kernel
theorem dX6_fastOf_14 : decode cX6_fastOf 14 = .ok (.lload 5, 2) := by decide +kernel
theorem dX6_fastOf_16 : decode cX6_fastOf 16 = .ok (.lstore 7, 2) := by decide +kernel
theorem dX6_fastOf_18 : decode cX6_fastOf 18 = .ok (.iconst 0, 1) := by decide +kernel
theorem dX6_fastOf_19 : decode cX6_fastOf 19 = .ok (.istore 9, 2) := by decide +kernel
theorem dX6_fastOf_21 : decode cX6_fastOf 21 = .ok (.iload 9, 2) := by decide +kernel
theorem dX6_fastOf_23 : decode cX6_fastOf 23 = .ok (.bipush 64, 2) := by decide +kernel
theorem dX6_fastOf_25 : decode cX6_fastOf 25 = .ok (.if_icmp .ge 58, 3) := by decide +kernel
theorem dX6_fastOf_28 : decode cX6_fastOf 28 = .ok (.lload 5, 2) := by decide +kernel
theorem dX6_fastOf_30 : decode cX6_fastOf 30 = .ok (.iload 9, 2) := by decide +kernel
theorem dX6_fastOf_32 : decode cX6_fastOf 32 = .ok (.invokestatic 90, 3) := by decide +kernel
theorem dX6_fastOf_35 : decode cX6_fastOf 35 = .ok (.ifCond .eq 42, 3) := by decide +kernel
theorem dX6_fastOf_38 : decode cX6_fastOf 38 = .ok (.aload_n 0, 1) := by decide +kernel
theorem dX6_fastOf_39 : decode cX6_fastOf 39 = .ok (.iload 9, 2) := by decide +kernel
theorem dX6_fastOf_41 : decode cX6_fastOf 41 = .ok (.iconst 0, 1) := by decide +kernel
theorem dX6_fastOf_42 : decode cX6_fastOf 42 = .ok (.lload 5, 2) := by decide +kernel
theorem dX6_fastOf_44 : decode cX6_fastOf 44 = .ok (.lload_n 3, 1) := by decide +kernel
theorem dX6_fastOf_45 : decode cX6_fastOf 45 = .ok (.invokevirtual 147, 3) := by decide +kernel
theorem dX6_fastOf_48 : decode cX6_fastOf 48 = .ok (.ifCond .ne 16, 3) := by decide +kernel
theorem dX6_fastOf_51 : decode cX6_fastOf 51 = .ok (.aload_n 0, 1) := by decide +kernel
theorem dX6_fastOf_52 : decode cX6_fastOf 52 = .ok (.iload 9, 2) := by decide +kernel
theorem dX6_fastOf_54 : decode cX6_fastOf 54 = .ok (.iconst 1, 1) := by decide +kernel
theorem dX6_fastOf_55 : decode cX6_fastOf 55 = .ok (.lload 5, 2) := by decide +kernel
theorem dX6_fastOf_57 : decode cX6_fastOf 57 = .ok (.lload_n 3, 1) := by decide +kernel
theorem dX6_fastOf_58 : decode cX6_fastOf 58 = .ok (.invokevirtual 147, 3) := by decide +kernel
theorem dX6_fastOf_61 : decode cX6_fastOf 61 = .ok (.ifCond .eq 16, 3) := by decide +kernel
theorem dX6_fastOf_64 : decode cX6_fastOf 64 = .ok (.lload 5, 2) := by decide +kernel
theorem dX6_fastOf_66 : decode cX6_fastOf 66 = .ok (.lconst 1, 1) := by decide +kernel
theorem dX6_fastOf_67 : decode cX6_fastOf 67 = .ok (.iload 9, 2) := by decide +kernel
theorem dX6_fastOf_69 : decode cX6_fastOf 69 = .ok (.lshl, 1) := by decide +kernel
theorem dX6_fastOf_70 : decode cX6_fastOf 70 = .ok (.ldc2_w 116, 3) := by decide +kernel
theorem dX6_fastOf_73 : decode cX6_fastOf 73 = .ok (.lxor, 1) := by decide +kernel
theorem dX6_fastOf_74 : decode cX6_fastOf 74 = .ok (.land, 1) := by decide +kernel
theorem dX6_fastOf_75 : decode cX6_fastOf 75 = .ok (.lstore 5, 2) := by decide +kernel
theorem dX6_fastOf_77 : decode cX6_fastOf 77 = .ok (.iinc 9 1, 3) := by decide +kernel
theorem dX6_fastOf_80 : decode cX6_fastOf 80 = .ok (.goto (-59), 3) := by decide +kernel
theorem dX6_fastOf_83 : decode cX6_fastOf 83 = .ok (.goto (-77), 3) := by decide +kernel
theorem dX6_fastOf_86 : decode cX6_fastOf 86 = .ok (.lload 5, 2) := by decide +kernel
theorem dX6_fastOf_88 : decode cX6_fastOf 88 = .ok (.lreturn, 1) := by decide +kernel
theorem dX6_fast_0 : decode cX6_fast 0 = .ok (.aload_n 0, 1) := by decide +kernel
theorem dX6_fast_1 : decode cX6_fast 1 = .ok (.iconst 0, 1) := by decide +kernel
theorem dX6_fast_2 : decode cX6_fast 2 = .ok (.putfield 42, 3) := by decide +kernel
theorem dX6_fast_5 : decode cX6_fast 5 = .ok (.aload_n 0, 1) := by decide +kernel
theorem dX6_fast_6 : decode cX6_fast 6 = .ok (.aload_n 0, 1) := by decide +kernel
theorem dX6_fast_7 : decode cX6_fast 7 = .ok (.getfield 97, 3) := by decide +kernel
theorem dX6_fast_10 : decode cX6_fast 10 = .ok (.aload_n 0, 1) := by decide +kernel
theorem dX6_fast_11 : decode cX6_fast 11 = .ok (.invokevirtual 143, 3) := by decide +kernel
theorem dX6_fast_14 : decode cX6_fast 14 = .ok (.invokevirtual 151, 3) := by decide +kernel
theorem dX6_fast_17 : decode cX6_fast 17 = .ok (.invokestatic 75, 3) := by decide +kernel
theorem dX6_fast_20 : decode cX6_fast 20 = .ok (.ireturn, 1) := by decide +kernel
theorem dX6_stuck_0 : decode cX6_stuck 0 = .ok (.aload_n 0, 1) := by decide +kernel
theorem dX6_stuck_1 : decode cX6_stuck 1 = .ok (.iconst 0, 1) := by decide +kernel
theorem dX6_stuck_2 : decode cX6_stuck 2 = .ok (.putfield 42, 3) := by decide +kernel
theorem dX6_stuck_5 : decode cX6_stuck 5 = .ok (.aload_n 0, 1) := by decide +kernel
theorem dX6_stuck_6 : decode cX6_stuck 6 = .ok (.aload_n 0, 1) := by decide +kernel
theorem dX6_stuck_7 : decode cX6_stuck 7 = .ok (.getfield 97, 3) := by decide +kernel
theorem dX6_stuck_10 : decode cX6_stuck 10 = .ok (.aload_n 0, 1) := by decide +kernel
theorem dX6_stuck_11 : decode cX6_stuck 11 = .ok (.invokevirtual 143, 3) := by decide +kernel
theorem dX6_stuck_14 : decode cX6_stuck 14 = .ok (.invokevirtual 151, 3) := by decide +kernel
theorem dX6_stuck_17 : decode cX6_stuck 17 = .ok (.aload_n 0, 1) := by decide +kernel
theorem dX6_stuck_18 : decode cX6_stuck 18 = .ok (.getfield 94, 3) := by decide +kernel
theorem dX6_stuck_21 : decode cX6_stuck 21 = .ok (.ldc2_w 116, 3) := by decide +kernel
theorem dX6_stuck_24 : decode cX6_stuck 24 = .ok (.lxor, 1) := by decide +kernel
theorem dX6_stuck_25 : decode cX6_stuck 25 = .ok (.land, 1) := by decide +kernel
theorem dX6_stuck_26 : decode cX6_stuck 26 = .ok (.lconst 0, 1) := by decide +kernel
theorem dX6_stuck_27 : decode cX6_stuck 27 = .ok (.lcmp, 1) := by decide +kernel
theorem dX6_stuck_28 : decode cX6_stuck 28 = .ok (.ifCond .eq 7, 3) := by decide +kernel
theorem dX6_stuck_31 : decode cX6_stuck 31 = .ok (.iconst 1, 1) := by decide +kernel
theorem dX6_stuck_32 : decode cX6_stuck 32 = .ok (.goto 4, 3) := by decide +kernel
theorem dX6_stuck_35 : decode cX6_stuck 35 = .ok (.iconst 0, 1) := by decide +kernel
theorem dX6_stuck_36 : decode cX6_stuck 36 = .ok (.ireturn, 1) := by decide +kernel
theorem dX6_measure_0 : decode cX6_measure 0 = .ok (.iconst 0, 1) := by decide +kernel
theorem dX6_measure_1 : decode cX6_measure 1 = .ok (.istore_n 2, 1) := by decide +kernel
theorem dX6_measure_2 : decode cX6_measure 2 = .ok (.iload_n 2, 1) := by decide +kernel
theorem dX6_measure_3 : decode cX6_measure 3 = .ok (.bipush 64, 2) := by decide +kernel
theorem dX6_measure_5 : decode cX6_measure 5 = .ok (.if_icmp .ge 36, 3) := by decide +kernel
theorem dX6_measure_8 : decode cX6_measure 8 = .ok (.aload_n 0, 1) := by decide +kernel
theorem dX6_measure_9 : decode cX6_measure 9 = .ok (.getfield 36, 3) := by decide +kernel
theorem dX6_measure_12 : decode cX6_measure 12 = .ok (.iload_n 2, 1) := by decide +kernel
theorem dX6_measure_13 : decode cX6_measure 13 = .ok (.iload_n 2, 1) := by decide +kernel
theorem dX6_measure_14 : decode cX6_measure 14 = .ok (.iload_n 1, 1) := by decide +kernel
theorem dX6_measure_15 : decode cX6_measure 15 = .ok (.if_icmp .ne 18, 3) := by decide +kernel
theorem dX6_measure_18 : decode cX6_measure 18 = .ok (.aload_n 0, 1) := by decide +kernel
theorem dX6_measure_19 : decode cX6_measure 19 = .ok (.getfield 87, 3) := by decide +kernel
theorem dX6_measure_22 : decode cX6_measure 22 = .ok (.iload_n 2, 1) := by decide +kernel
theorem dX6_measure_23 : decode cX6_measure 23 = .ok (.invokestatic 90, 3) := by decide +kernel
theorem dX6_measure_26 : decode cX6_measure 26 = .ok (.ifCond .eq 7, 3) := by decide +kernel
theorem dX6_measure_29 : decode cX6_measure 29 = .ok (.iconst 0, 1) := by decide +kernel
theorem dX6_measure_30 : decode cX6_measure 30 = .ok (.goto 4, 3) := by decide +kernel
theorem dX6_measure_33 : decode cX6_measure 33 = .ok (.iconst (-1), 1) := by decide +kernel
theorem dX6_measure_34 : decode cX6_measure 34 = .ok (.iastore, 1) := by decide +kernel
theorem dX6_measure_35 : decode cX6_measure 35 = .ok (.iinc 2 1, 3) := by decide +kernel
theorem dX6_measure_38 : decode cX6_measure 38 = .ok (.goto (-36), 3) := by decide +kernel
theorem dX6_measure_41 : decode cX6_measure 41 = .ok (.iconst 0, 1) := by decide +kernel
theorem dX6_measure_42 : decode cX6_measure 42 = .ok (.istore_n 2, 1) := by decide +kernel
theorem dX6_measure_43 : decode cX6_measure 43 = .ok (.iload_n 2, 1) := by decide +kernel
theorem dX6_measure_44 : decode cX6_measure 44 = .ok (.bipush 64, 2) := by decide +kernel
theorem dX6_measure_46 : decode cX6_measure 46 = .ok (.if_icmp .ge 113, 3) := by decide +kernel
theorem dX6_measure_49 : decode cX6_measure 49 = .ok (.iconst 0, 1) := by decide +kernel
theorem dX6_measure_50 : decode cX6_measure 50 = .ok (.istore_n 3, 1) := by decide +kernel
theorem dX6_measure_51 : decode cX6_measure 51 = .ok (.iload_n 3, 1) := by decide +kernel
theorem dX6_measure_52 : decode cX6_measure 52 = .ok (.bipush 64, 2) := by decide +kernel
theorem dX6_measure_54 : decode cX6_measure 54 = .ok (.if_icmp .ge 99, 3) := by decide +kernel
theorem dX6_measure_57 : decode cX6_measure 57 = .ok (.aload_n 0, 1) := by decide +kernel
theorem dX6_measure_58 : decode cX6_measure 58 = .ok (.getfield 36, 3) := by decide +kernel
theorem dX6_measure_61 : decode cX6_measure 61 = .ok (.iload_n 3, 1) := by decide +kernel
theorem dX6_measure_62 : decode cX6_measure 62 = .ok (.iaload, 1) := by decide +kernel
theorem dX6_measure_63 : decode cX6_measure 63 = .ok (.iload_n 2, 1) := by decide +kernel
theorem dX6_measure_64 : decode cX6_measure 64 = .ok (.if_icmp .eq 6, 3) := by decide +kernel
theorem dX6_measure_67 : decode cX6_measure 67 = .ok (.goto 80, 3) := by decide +kernel
theorem dX6_measure_70 : decode cX6_measure 70 = .ok (.iconst 0, 1) := by decide +kernel
theorem dX6_measure_71 : decode cX6_measure 71 = .ok (.istore 4, 2) := by decide +kernel
theorem dX6_measure_73 : decode cX6_measure 73 = .ok (.iload 4, 2) := by decide +kernel
theorem dX6_measure_75 : decode cX6_measure 75 = .ok (.iconst 4, 1) := by decide +kernel
theorem dX6_measure_76 : decode cX6_measure 76 = .ok (.if_icmp .ge 71, 3) := by decide +kernel
theorem dX6_measure_79 : decode cX6_measure 79 = .ok (.aload_n 0, 1) := by decide +kernel
theorem dX6_measure_80 : decode cX6_measure 80 = .ok (.iload_n 3, 1) := by decide +kernel
theorem dX6_measure_81 : decode cX6_measure 81 = .ok (.iload 4, 2) := by decide +kernel
theorem dX6_measure_83 : decode cX6_measure 83 = .ok (.invokevirtual 112, 3) := by decide +kernel
theorem dX6_measure_86 : decode cX6_measure 86 = .ok (.istore 5, 2) := by decide +kernel
theorem dX6_measure_88 : decode cX6_measure 88 = .ok (.aload_n 0, 1) := by decide +kernel
theorem dX6_measure_89 : decode cX6_measure 89 = .ok (.getfield 87, 3) := by decide +kernel
theorem dX6_measure_92 : decode cX6_measure 92 = .ok (.iload 5, 2) := by decide +kernel
theorem dX6_measure_94 : decode cX6_measure 94 = .ok (.invokestatic 90, 3) := by decide +kernel
theorem dX6_measure_97 : decode cX6_measure 97 = .ok (.ifCond .eq 44, 3) := by decide +kernel
theorem dX6_measure_100 : decode cX6_measure 100 = .ok (.aload_n 0, 1) := by decide +kernel
theorem dX6_measure_101 : decode cX6_measure 101 = .ok (.getfield 36, 3) := by decide +kernel
theorem dX6_measure_104 : decode cX6_measure 104 = .ok (.iload 5, 2) := by decide +kernel
theorem dX6_measure_106 : decode cX6_measure 106 = .ok (.iaload, 1) := by decide +kernel
theorem dX6_measure_107 : decode cX6_measure 107 = .ok (.ifCond .ge 34, 3) := by decide +kernel
theorem dX6_measure_110 : decode cX6_measure 110 = .ok (.aload_n 0, 1) := by decide +kernel
theorem dX6_measure_111 : decode cX6_measure 111 = .ok (.getfield 87, 3) := by decide +kernel
theorem dX6_measure_114 : decode cX6_measure 114 = .ok (.aload_n 0, 1) := by decide +kernel
theorem dX6_measure_115 : decode cX6_measure 115 = .ok (.iload_n 3, 1) := by decide +kernel
theorem dX6_measure_116 : decode cX6_measure 116 = .ok (.aload_n 0, 1) := by decide +kernel
theorem dX6_measure_117 : decode cX6_measure 117 = .ok (.iload 4, 2) := by decide +kernel
theorem dX6_measure_119 : decode cX6_measure 119 = .ok (.invokevirtual 126, 3) := by decide +kernel
theorem dX6_measure_122 : decode cX6_measure 122 = .ok (.invokevirtual 112, 3) := by decide +kernel
theorem dX6_measure_125 : decode cX6_measure 125 = .ok (.invokestatic 90, 3) := by decide +kernel
theorem dX6_measure_128 : decode cX6_measure 128 = .ok (.ifCond .eq 13, 3) := by decide +kernel
theorem dX6_measure_131 : decode cX6_measure 131 = .ok (.aload_n 0, 1) := by decide +kernel
theorem dX6_measure_132 : decode cX6_measure 132 = .ok (.getfield 36, 3) := by decide +kernel
theorem dX6_measure_135 : decode cX6_measure 135 = .ok (.iload 5, 2) := by decide +kernel
theorem dX6_measure_137 : decode cX6_measure 137 = .ok (.iload_n 2, 1) := by decide +kernel
theorem dX6_measure_138 : decode cX6_measure 138 = .ok (.iconst 1, 1) := by decide +kernel
theorem dX6_measure_139 : decode cX6_measure 139 = .ok (.iadd, 1) := by decide +kernel
theorem dX6_measure_140 : decode cX6_measure 140 = .ok (.iastore, 1) := by decide +kernel
theorem dX6_measure_141 : decode cX6_measure 141 = .ok (.iinc 4 1, 3) := by decide +kernel
theorem dX6_measure_144 : decode cX6_measure 144 = .ok (.goto (-71), 3) := by decide +kernel
theorem dX6_measure_147 : decode cX6_measure 147 = .ok (.iinc 3 1, 3) := by decide +kernel
theorem dX6_measure_150 : decode cX6_measure 150 = .ok (.goto (-99), 3) := by decide +kernel
theorem dX6_measure_153 : decode cX6_measure 153 = .ok (.iinc 2 1, 3) := by decide +kernel
theorem dX6_measure_156 : decode cX6_measure 156 = .ok (.goto (-113), 3) := by decide +kernel
theorem dX6_measure_159 : decode cX6_measure 159 = .ok (.return_, 1) := by decide +kernel
theorem dX6_pushes_0 : decode cX6_pushes 0 = .ok (.aload_n 0, 1) := by decide +kernel
theorem dX6_pushes_1 : decode cX6_pushes 1 = .ok (.iconst 1, 1) := by decide +kernel
theorem dX6_pushes_2 : decode cX6_pushes 2 = .ok (.aload_n 0, 1) := by decide +kernel
theorem dX6_pushes_3 : decode cX6_pushes 3 = .ok (.iload_n 1, 1) := by decide +kernel
theorem dX6_pushes_4 : decode cX6_pushes 4 = .ok (.iload_n 2, 1) := by decide +kernel
theorem dX6_pushes_5 : decode cX6_pushes 5 = .ok (.invokevirtual 52, 3) := by decide +kernel
theorem dX6_pushes_8 : decode cX6_pushes 8 = .ok (.ifCond .eq 13, 3) := by decide +kernel
theorem dX6_pushes_11 : decode cX6_pushes 11 = .ok (.aload_n 0, 1) := by decide +kernel
theorem dX6_pushes_12 : decode cX6_pushes 12 = .ok (.iload_n 3, 1) := by decide +kernel
theorem dX6_pushes_13 : decode cX6_pushes 13 = .ok (.iload 4, 2) := by decide +kernel
theorem dX6_pushes_15 : decode cX6_pushes 15 = .ok (.invokevirtual 52, 3) := by decide +kernel
theorem dX6_pushes_18 : decode cX6_pushes 18 = .ok (.ifCond .ne 7, 3) := by decide +kernel
theorem dX6_pushes_21 : decode cX6_pushes 21 = .ok (.iconst 1, 1) := by decide +kernel
theorem dX6_pushes_22 : decode cX6_pushes 22 = .ok (.goto 4, 3) := by decide +kernel
theorem dX6_pushes_25 : decode cX6_pushes 25 = .ok (.iconst 0, 1) := by decide +kernel
theorem dX6_pushes_26 : decode cX6_pushes 26 = .ok (.invokevirtual 118, 3) := by decide +kernel
theorem dX6_pushes_29 : decode cX6_pushes 29 = .ok (.ifCond .eq 5, 3) := by decide +kernel
theorem dX6_pushes_32 : decode cX6_pushes 32 = .ok (.iconst 0, 1) := by decide +kernel
theorem dX6_pushes_33 : decode cX6_pushes 33 = .ok (.ireturn, 1) := by decide +kernel
theorem dX6_pushes_34 : decode cX6_pushes 34 = .ok (.aload_n 0, 1) := by decide +kernel
theorem dX6_pushes_35 : decode cX6_pushes 35 = .ok (.bipush 8, 2) := by decide +kernel
theorem dX6_pushes_37 : decode cX6_pushes 37 = .ok (.iload_n 2, 1) := by decide +kernel
theorem dX6_pushes_38 : decode cX6_pushes 38 = .ok (.imul, 1) := by decide +kernel
theorem dX6_pushes_39 : decode cX6_pushes 39 = .ok (.iload_n 1, 1) := by decide +kernel
theorem dX6_pushes_40 : decode cX6_pushes 40 = .ok (.iadd, 1) := by decide +kernel
theorem dX6_pushes_41 : decode cX6_pushes 41 = .ok (.invokevirtual 155, 3) := by decide +kernel
theorem dX6_pushes_44 : decode cX6_pushes 44 = .ok (.aload_n 0, 1) := by decide +kernel
theorem dX6_pushes_45 : decode cX6_pushes 45 = .ok (.getfield 36, 3) := by decide +kernel
theorem dX6_pushes_48 : decode cX6_pushes 48 = .ok (.bipush 8, 2) := by decide +kernel
theorem dX6_pushes_50 : decode cX6_pushes 50 = .ok (.iload 4, 2) := by decide +kernel
theorem dX6_pushes_52 : decode cX6_pushes 52 = .ok (.imul, 1) := by decide +kernel
theorem dX6_pushes_53 : decode cX6_pushes 53 = .ok (.iload_n 3, 1) := by decide +kernel
theorem dX6_pushes_54 : decode cX6_pushes 54 = .ok (.iadd, 1) := by decide +kernel
theorem dX6_pushes_55 : decode cX6_pushes 55 = .ok (.iaload, 1) := by decide +kernel
theorem dX6_pushes_56 : decode cX6_pushes 56 = .ok (.ireturn, 1) := by decide +kernel
theorem dX6_goalAt_0 : decode cX6_goalAt 0 = .ok (.iconst 0, 1) := by decide +kernel
theorem dX6_goalAt_1 : decode cX6_goalAt 1 = .ok (.istore_n 2, 1) := by decide +kernel
theorem dX6_goalAt_2 : decode cX6_goalAt 2 = .ok (.iconst 0, 1) := by decide +kernel
theorem dX6_goalAt_3 : decode cX6_goalAt 3 = .ok (.istore_n 3, 1) := by decide +kernel
theorem dX6_goalAt_4 : decode cX6_goalAt 4 = .ok (.iload_n 3, 1) := by decide +kernel
theorem dX6_goalAt_5 : decode cX6_goalAt 5 = .ok (.bipush 64, 2) := by decide +kernel
theorem dX6_goalAt_7 : decode cX6_goalAt 7 = .ok (.if_icmp .ge 33, 3) := by decide +kernel
theorem dX6_goalAt_10 : decode cX6_goalAt 10 = .ok (.aload_n 0, 1) := by decide +kernel
theorem dX6_goalAt_11 : decode cX6_goalAt 11 = .ok (.getfield 94, 3) := by decide +kernel
theorem dX6_goalAt_14 : decode cX6_goalAt 14 = .ok (.iload_n 3, 1) := by decide +kernel
theorem dX6_goalAt_15 : decode cX6_goalAt 15 = .ok (.invokestatic 90, 3) := by decide +kernel
theorem dX6_goalAt_18 : decode cX6_goalAt 18 = .ok (.ifCond .ne 6, 3) := by decide +kernel
theorem dX6_goalAt_21 : decode cX6_goalAt 21 = .ok (.goto 13, 3) := by decide +kernel
theorem dX6_goalAt_24 : decode cX6_goalAt 24 = .ok (.iload_n 2, 1) := by decide +kernel
theorem dX6_goalAt_25 : decode cX6_goalAt 25 = .ok (.iload_n 1, 1) := by decide +kernel
theorem dX6_goalAt_26 : decode cX6_goalAt 26 = .ok (.if_icmp .ne 5, 3) := by decide +kernel
theorem dX6_goalAt_29 : decode cX6_goalAt 29 = .ok (.iload_n 3, 1) := by decide +kernel
theorem dX6_goalAt_30 : decode cX6_goalAt 30 = .ok (.ireturn, 1) := by decide +kernel
theorem dX6_goalAt_31 : decode cX6_goalAt 31 = .ok (.iinc 2 1, 3) := by decide +kernel
theorem dX6_goalAt_34 : decode cX6_goalAt 34 = .ok (.iinc 3 1, 3) := by decide +kernel
theorem dX6_goalAt_37 : decode cX6_goalAt 37 = .ok (.goto (-33), 3) := by decide +kernel
theorem dX6_goalAt_40 : decode cX6_goalAt 40 = .ok (.iconst (-1), 1) := by decide +kernel
theorem dX6_goalAt_41 : decode cX6_goalAt 41 = .ok (.ireturn, 1) := by decide +kernel
theorem dX6_bound_0 : decode cX6_bound 0 = .ok (.aload_n 0, 1) := by decide +kernel
theorem dX6_bound_1 : decode cX6_bound 1 = .ok (.iconst 0, 1) := by decide +kernel
theorem dX6_bound_2 : decode cX6_bound 2 = .ok (.putfield 42, 3) := by decide +kernel
theorem dX6_bound_5 : decode cX6_bound 5 = .ok (.aload_n 0, 1) := by decide +kernel
theorem dX6_bound_6 : decode cX6_bound 6 = .ok (.getfield 94, 3) := by decide +kernel
theorem dX6_bound_9 : decode cX6_bound 9 = .ok (.invokestatic 75, 3) := by decide +kernel
theorem dX6_bound_12 : decode cX6_bound 12 = .ok (.istore_n 1, 1) := by decide +kernel
theorem dX6_bound_13 : decode cX6_bound 13 = .ok (.iconst 0, 1) := by decide +kernel
theorem dX6_bound_14 : decode cX6_bound 14 = .ok (.istore_n 2, 1) := by decide +kernel
theorem dX6_bound_15 : decode cX6_bound 15 = .ok (.iload_n 2, 1) := by decide +kernel
theorem dX6_bound_16 : decode cX6_bound 16 = .ok (.iconst 1, 1) := by decide +kernel
theorem dX6_bound_17 : decode cX6_bound 17 = .ok (.iload_n 1, 1) := by decide +kernel
theorem dX6_bound_18 : decode cX6_bound 18 = .ok (.ishl, 1) := by decide +kernel
theorem dX6_bound_19 : decode cX6_bound 19 = .ok (.if_icmp .ge 24, 3) := by decide +kernel
theorem dX6_bound_22 : decode cX6_bound 22 = .ok (.aload_n 0, 1) := by decide +kernel
theorem dX6_bound_23 : decode cX6_bound 23 = .ok (.getfield 39, 3) := by decide +kernel
theorem dX6_bound_26 : decode cX6_bound 26 = .ok (.iload_n 2, 1) := by decide +kernel
theorem dX6_bound_27 : decode cX6_bound 27 = .ok (.iload_n 2, 1) := by decide +kernel
theorem dX6_bound_28 : decode cX6_bound 28 = .ok (.ifCond .ne 7, 3) := by decide +kernel
theorem dX6_bound_31 : decode cX6_bound 31 = .ok (.iconst 0, 1) := by decide +kernel
theorem dX6_bound_32 : decode cX6_bound 32 = .ok (.goto 4, 3) := by decide +kernel
theorem dX6_bound_35 : decode cX6_bound 35 = .ok (.iconst (-1), 1) := by decide +kernel
theorem dX6_bound_36 : decode cX6_bound 36 = .ok (.iastore, 1) := by decide +kernel
theorem dX6_bound_37 : decode cX6_bound 37 = .ok (.iinc 2 1, 3) := by decide +kernel
theorem dX6_bound_40 : decode cX6_bound 40 = .ok (.goto (-25), 3) := by decide +kernel
theorem dX6_bound_43 : decode cX6_bound 43 = .ok (.iconst 0, 1) := by decide +kernel
theorem dX6_bound_44 : decode cX6_bound 44 = .ok (.istore_n 2, 1) := by decide +kernel
theorem dX6_bound_45 : decode cX6_bound 45 = .ok (.iload_n 2, 1) := by decide +kernel
theorem dX6_bound_46 : decode cX6_bound 46 = .ok (.bipush 64, 2) := by decide +kernel
theorem dX6_bound_48 : decode cX6_bound 48 = .ok (.if_icmp .ge 159, 3) := by decide +kernel
theorem dX6_bound_51 : decode cX6_bound 51 = .ok (.aload_n 0, 1) := by decide +kernel
theorem dX6_bound_52 : decode cX6_bound 52 = .ok (.getfield 97, 3) := by decide +kernel
theorem dX6_bound_55 : decode cX6_bound 55 = .ok (.iload_n 2, 1) := by decide +kernel
theorem dX6_bound_56 : decode cX6_bound 56 = .ok (.invokestatic 90, 3) := by decide +kernel
theorem dX6_bound_59 : decode cX6_bound 59 = .ok (.ifCond .ne 6, 3) := by decide +kernel
theorem dX6_bound_62 : decode cX6_bound 62 = .ok (.goto 139, 3) := by decide +kernel
theorem dX6_bound_65 : decode cX6_bound 65 = .ok (.aload_n 0, 1) := by decide +kernel
theorem dX6_bound_66 : decode cX6_bound 66 = .ok (.iload_n 2, 1) := by decide +kernel
theorem dX6_bound_67 : decode cX6_bound 67 = .ok (.invokevirtual 155, 3) := by decide +kernel
theorem dX6_bound_70 : decode cX6_bound 70 = .ok (.iconst 1, 1) := by decide +kernel
theorem dX6_bound_71 : decode cX6_bound 71 = .ok (.iload_n 1, 1) := by decide +kernel
theorem dX6_bound_72 : decode cX6_bound 72 = .ok (.ishl, 1) := by decide +kernel
theorem dX6_bound_73 : decode cX6_bound 73 = .ok (.iconst 1, 1) := by decide +kernel
theorem dX6_bound_74 : decode cX6_bound 74 = .ok (.isub, 1) := by decide +kernel
theorem dX6_bound_75 : decode cX6_bound 75 = .ok (.istore_n 3, 1) := by decide +kernel
theorem dX6_bound_76 : decode cX6_bound 76 = .ok (.iload_n 3, 1) := by decide +kernel
theorem dX6_bound_77 : decode cX6_bound 77 = .ok (.ifCond .le 124, 3) := by decide +kernel
theorem dX6_bound_80 : decode cX6_bound 80 = .ok (.iconst 0, 1) := by decide +kernel
theorem dX6_bound_81 : decode cX6_bound 81 = .ok (.istore 4, 2) := by decide +kernel
theorem dX6_bound_83 : decode cX6_bound 83 = .ok (.iload 4, 2) := by decide +kernel
theorem dX6_bound_85 : decode cX6_bound 85 = .ok (.iload_n 1, 1) := by decide +kernel
theorem dX6_bound_86 : decode cX6_bound 86 = .ok (.if_icmp .ge 109, 3) := by decide +kernel
theorem dX6_bound_89 : decode cX6_bound 89 = .ok (.iload_n 3, 1) := by decide +kernel
theorem dX6_bound_90 : decode cX6_bound 90 = .ok (.iload 4, 2) := by decide +kernel
theorem dX6_bound_92 : decode cX6_bound 92 = .ok (.ishr, 1) := by decide +kernel
theorem dX6_bound_93 : decode cX6_bound 93 = .ok (.iconst 1, 1) := by decide +kernel
theorem dX6_bound_94 : decode cX6_bound 94 = .ok (.iand, 1) := by decide +kernel
theorem dX6_bound_95 : decode cX6_bound 95 = .ok (.ifCond .eq 94, 3) := by decide +kernel
theorem dX6_bound_98 : decode cX6_bound 98 = .ok (.aload_n 0, 1) := by decide +kernel
theorem dX6_bound_99 : decode cX6_bound 99 = .ok (.getfield 39, 3) := by decide +kernel
theorem dX6_bound_102 : decode cX6_bound 102 = .ok (.iload_n 3, 1) := by decide +kernel
theorem dX6_bound_103 : decode cX6_bound 103 = .ok (.iconst 1, 1) := by decide +kernel
theorem dX6_bound_104 : decode cX6_bound 104 = .ok (.iload 4, 2) := by decide +kernel
theorem dX6_bound_106 : decode cX6_bound 106 = .ok (.ishl, 1) := by decide +kernel
theorem dX6_bound_107 : decode cX6_bound 107 = .ok (.ixor, 1) := by decide +kernel
theorem dX6_bound_108 : decode cX6_bound 108 = .ok (.iaload, 1) := by decide +kernel
theorem dX6_bound_109 : decode cX6_bound 109 = .ok (.ifCond .ge 6, 3) := by decide +kernel
theorem dX6_bound_112 : decode cX6_bound 112 = .ok (.goto 77, 3) := by decide +kernel
theorem dX6_bound_115 : decode cX6_bound 115 = .ok (.aload_n 0, 1) := by decide +kernel
theorem dX6_bound_116 : decode cX6_bound 116 = .ok (.getfield 36, 3) := by decide +kernel
theorem dX6_bound_119 : decode cX6_bound 119 = .ok (.aload_n 0, 1) := by decide +kernel
theorem dX6_bound_120 : decode cX6_bound 120 = .ok (.iload 4, 2) := by decide +kernel
theorem dX6_bound_122 : decode cX6_bound 122 = .ok (.invokevirtual 159, 3) := by decide +kernel
theorem dX6_bound_125 : decode cX6_bound 125 = .ok (.iaload, 1) := by decide +kernel
theorem dX6_bound_126 : decode cX6_bound 126 = .ok (.istore 5, 2) := by decide +kernel
theorem dX6_bound_128 : decode cX6_bound 128 = .ok (.iload 5, 2) := by decide +kernel
theorem dX6_bound_130 : decode cX6_bound 130 = .ok (.ifCond .ge 6, 3) := by decide +kernel
theorem dX6_bound_133 : decode cX6_bound 133 = .ok (.goto 56, 3) := by decide +kernel
theorem dX6_bound_136 : decode cX6_bound 136 = .ok (.aload_n 0, 1) := by decide +kernel
theorem dX6_bound_137 : decode cX6_bound 137 = .ok (.getfield 39, 3) := by decide +kernel
theorem dX6_bound_140 : decode cX6_bound 140 = .ok (.iload_n 3, 1) := by decide +kernel
theorem dX6_bound_141 : decode cX6_bound 141 = .ok (.iconst 1, 1) := by decide +kernel
theorem dX6_bound_142 : decode cX6_bound 142 = .ok (.iload 4, 2) := by decide +kernel
theorem dX6_bound_144 : decode cX6_bound 144 = .ok (.ishl, 1) := by decide +kernel
theorem dX6_bound_145 : decode cX6_bound 145 = .ok (.ixor, 1) := by decide +kernel
theorem dX6_bound_146 : decode cX6_bound 146 = .ok (.iaload, 1) := by decide +kernel
theorem dX6_bound_147 : decode cX6_bound 147 = .ok (.iload 5, 2) := by decide +kernel
theorem dX6_bound_149 : decode cX6_bound 149 = .ok (.iadd, 1) := by decide +kernel
theorem dX6_bound_150 : decode cX6_bound 150 = .ok (.istore 6, 2) := by decide +kernel
theorem dX6_bound_152 : decode cX6_bound 152 = .ok (.aload_n 0, 1) := by decide +kernel
theorem dX6_bound_153 : decode cX6_bound 153 = .ok (.getfield 39, 3) := by decide +kernel
theorem dX6_bound_156 : decode cX6_bound 156 = .ok (.iload_n 3, 1) := by decide +kernel
theorem dX6_bound_157 : decode cX6_bound 157 = .ok (.aload_n 0, 1) := by decide +kernel
theorem dX6_bound_158 : decode cX6_bound 158 = .ok (.getfield 39, 3) := by decide +kernel
theorem dX6_bound_161 : decode cX6_bound 161 = .ok (.iload_n 3, 1) := by decide +kernel
theorem dX6_bound_162 : decode cX6_bound 162 = .ok (.iaload, 1) := by decide +kernel
theorem dX6_bound_163 : decode cX6_bound 163 = .ok (.ifCond .lt 14, 3) := by decide +kernel
theorem dX6_bound_166 : decode cX6_bound 166 = .ok (.iload 6, 2) := by decide +kernel
theorem dX6_bound_168 : decode cX6_bound 168 = .ok (.aload_n 0, 1) := by decide +kernel
theorem dX6_bound_169 : decode cX6_bound 169 = .ok (.getfield 39, 3) := by decide +kernel
theorem dX6_bound_172 : decode cX6_bound 172 = .ok (.iload_n 3, 1) := by decide +kernel
theorem dX6_bound_173 : decode cX6_bound 173 = .ok (.iaload, 1) := by decide +kernel
theorem dX6_bound_174 : decode cX6_bound 174 = .ok (.if_icmp .ge 8, 3) := by decide +kernel
theorem dX6_bound_177 : decode cX6_bound 177 = .ok (.iload 6, 2) := by decide +kernel
theorem dX6_bound_179 : decode cX6_bound 179 = .ok (.goto 9, 3) := by decide +kernel
theorem dX6_bound_182 : decode cX6_bound 182 = .ok (.aload_n 0, 1) := by decide +kernel
theorem dX6_bound_183 : decode cX6_bound 183 = .ok (.getfield 39, 3) := by decide +kernel
theorem dX6_bound_186 : decode cX6_bound 186 = .ok (.iload_n 3, 1) := by decide +kernel
theorem dX6_bound_187 : decode cX6_bound 187 = .ok (.iaload, 1) := by decide +kernel
theorem dX6_bound_188 : decode cX6_bound 188 = .ok (.iastore, 1) := by decide +kernel
theorem dX6_bound_189 : decode cX6_bound 189 = .ok (.iinc 4 1, 3) := by decide +kernel
theorem dX6_bound_192 : decode cX6_bound 192 = .ok (.goto (-109), 3) := by decide +kernel
theorem dX6_bound_195 : decode cX6_bound 195 = .ok (.iinc 3 (-1), 3) := by decide +kernel
theorem dX6_bound_198 : decode cX6_bound 198 = .ok (.goto (-122), 3) := by decide +kernel
theorem dX6_bound_201 : decode cX6_bound 201 = .ok (.iinc 2 1, 3) := by decide +kernel
theorem dX6_bound_204 : decode cX6_bound 204 = .ok (.goto (-159), 3) := by decide +kernel
theorem dX6_bound_207 : decode cX6_bound 207 = .ok (.aload_n 0, 1) := by decide +kernel
theorem dX6_bound_208 : decode cX6_bound 208 = .ok (.getfield 39, 3) := by decide +kernel
theorem dX6_bound_211 : decode cX6_bound 211 = .ok (.iconst 1, 1) := by decide +kernel
theorem dX6_bound_212 : decode cX6_bound 212 = .ok (.iload_n 1, 1) := by decide +kernel
theorem dX6_bound_213 : decode cX6_bound 213 = .ok (.ishl, 1) := by decide +kernel
theorem dX6_bound_214 : decode cX6_bound 214 = .ok (.iconst 1, 1) := by decide +kernel
theorem dX6_bound_215 : decode cX6_bound 215 = .ok (.isub, 1) := by decide +kernel
theorem dX6_bound_216 : decode cX6_bound 216 = .ok (.iaload, 1) := by decide +kernel
theorem dX6_bound_217 : decode cX6_bound 217 = .ok (.ireturn, 1) := by decide +kernel
theorem dX6_leastOf_0 : decode cX6_leastOf 0 = .ok (.iconst 0, 1) := by decide +kernel
theorem dX6_leastOf_1 : decode cX6_leastOf 1 = .ok (.istore_n 2, 1) := by decide +kernel
theorem dX6_leastOf_2 : decode cX6_leastOf 2 = .ok (.lload_n 0, 1) := by decide +kernel
theorem dX6_leastOf_3 : decode cX6_leastOf 3 = .ok (.iload_n 2, 1) := by decide +kernel
theorem dX6_leastOf_4 : decode cX6_leastOf 4 = .ok (.lshr, 1) := by decide +kernel
theorem dX6_leastOf_5 : decode cX6_leastOf 5 = .ok (.lconst 1, 1) := by decide +kernel
theorem dX6_leastOf_6 : decode cX6_leastOf 6 = .ok (.land, 1) := by decide +kernel
theorem dX6_leastOf_7 : decode cX6_leastOf 7 = .ok (.lconst 0, 1) := by decide +kernel
theorem dX6_leastOf_8 : decode cX6_leastOf 8 = .ok (.lcmp, 1) := by decide +kernel
theorem dX6_leastOf_9 : decode cX6_leastOf 9 = .ok (.ifCond .ne 9, 3) := by decide +kernel
theorem dX6_leastOf_12 : decode cX6_leastOf 12 = .ok (.iinc 2 1, 3) := by decide +kernel
theorem dX6_leastOf_15 : decode cX6_leastOf 15 = .ok (.goto (-13), 3) := by decide +kernel
theorem dX6_leastOf_18 : decode cX6_leastOf 18 = .ok (.iload_n 2, 1) := by decide +kernel
theorem dX6_leastOf_19 : decode cX6_leastOf 19 = .ok (.ireturn, 1) := by decide +kernel
theorem dX6_seatOf_0 : decode cX6_seatOf 0 = .ok (.lload_n 1, 1) := by decide +kernel
theorem dX6_seatOf_1 : decode cX6_seatOf 1 = .ok (.ldc2_w 162, 3) := by decide +kernel
theorem dX6_seatOf_4 : decode cX6_seatOf 4 = .ok (.lmul, 1) := by decide +kernel
theorem dX6_seatOf_5 : decode cX6_seatOf 5 = .ok (.iload_n 3, 1) := by decide +kernel
theorem dX6_seatOf_6 : decode cX6_seatOf 6 = .ok (.i2l, 1) := by decide +kernel
theorem dX6_seatOf_7 : decode cX6_seatOf 7 = .ok (.ladd, 1) := by decide +kernel
theorem dX6_seatOf_8 : decode cX6_seatOf 8 = .ok (.lstore 4, 2) := by decide +kernel
theorem dX6_seatOf_10 : decode cX6_seatOf 10 = .ok (.lload 4, 2) := by decide +kernel
theorem dX6_seatOf_12 : decode cX6_seatOf 12 = .ok (.lload 4, 2) := by decide +kernel
theorem dX6_seatOf_14 : decode cX6_seatOf 14 = .ok (.bipush 29, 2) := by decide +kernel
theorem dX6_seatOf_16 : decode cX6_seatOf 16 = .ok (.lushr, 1) := by decide +kernel
theorem dX6_seatOf_17 : decode cX6_seatOf 17 = .ok (.lxor, 1) := by decide +kernel
theorem dX6_seatOf_18 : decode cX6_seatOf 18 = .ok (.lload 4, 2) := by decide +kernel
theorem dX6_seatOf_20 : decode cX6_seatOf 20 = .ok (.bipush 47, 2) := by decide +kernel
theorem dX6_seatOf_22 : decode cX6_seatOf 22 = .ok (.lushr, 1) := by decide +kernel
theorem dX6_seatOf_23 : decode cX6_seatOf 23 = .ok (.lxor, 1) := by decide +kernel
theorem dX6_seatOf_24 : decode cX6_seatOf 24 = .ok (.lstore 4, 2) := by decide +kernel
theorem dX6_seatOf_26 : decode cX6_seatOf 26 = .ok (.lload 4, 2) := by decide +kernel
theorem dX6_seatOf_28 : decode cX6_seatOf 28 = .ok (.ldc2_w 164, 3) := by decide +kernel
theorem dX6_seatOf_31 : decode cX6_seatOf 31 = .ok (.land, 1) := by decide +kernel
theorem dX6_seatOf_32 : decode cX6_seatOf 32 = .ok (.l2i, 1) := by decide +kernel
theorem dX6_seatOf_33 : decode cX6_seatOf 33 = .ok (.istore 6, 2) := by decide +kernel
theorem dX6_seatOf_35 : decode cX6_seatOf 35 = .ok (.aload_n 0, 1) := by decide +kernel
theorem dX6_seatOf_36 : decode cX6_seatOf 36 = .ok (.getfield 30, 3) := by decide +kernel
theorem dX6_seatOf_39 : decode cX6_seatOf 39 = .ok (.iload 6, 2) := by decide +kernel
theorem dX6_seatOf_41 : decode cX6_seatOf 41 = .ok (.iaload, 1) := by decide +kernel
theorem dX6_seatOf_42 : decode cX6_seatOf 42 = .ok (.ifCond .lt 48, 3) := by decide +kernel
theorem dX6_seatOf_45 : decode cX6_seatOf 45 = .ok (.aload_n 0, 1) := by decide +kernel
theorem dX6_seatOf_46 : decode cX6_seatOf 46 = .ok (.getfield 16, 3) := by decide +kernel
theorem dX6_seatOf_49 : decode cX6_seatOf 49 = .ok (.aload_n 0, 1) := by decide +kernel
theorem dX6_seatOf_50 : decode cX6_seatOf 50 = .ok (.getfield 30, 3) := by decide +kernel
theorem dX6_seatOf_53 : decode cX6_seatOf 53 = .ok (.iload 6, 2) := by decide +kernel
theorem dX6_seatOf_55 : decode cX6_seatOf 55 = .ok (.iaload, 1) := by decide +kernel
theorem dX6_seatOf_56 : decode cX6_seatOf 56 = .ok (.laload, 1) := by decide +kernel
theorem dX6_seatOf_57 : decode cX6_seatOf 57 = .ok (.lload_n 1, 1) := by decide +kernel
theorem dX6_seatOf_58 : decode cX6_seatOf 58 = .ok (.lcmp, 1) := by decide +kernel
theorem dX6_seatOf_59 : decode cX6_seatOf 59 = .ok (.ifCond .ne 19, 3) := by decide +kernel
theorem dX6_seatOf_62 : decode cX6_seatOf 62 = .ok (.aload_n 0, 1) := by decide +kernel
theorem dX6_seatOf_63 : decode cX6_seatOf 63 = .ok (.getfield 20, 3) := by decide +kernel
theorem dX6_seatOf_66 : decode cX6_seatOf 66 = .ok (.aload_n 0, 1) := by decide +kernel
theorem dX6_seatOf_67 : decode cX6_seatOf 67 = .ok (.getfield 30, 3) := by decide +kernel
theorem dX6_seatOf_70 : decode cX6_seatOf 70 = .ok (.iload 6, 2) := by decide +kernel
theorem dX6_seatOf_72 : decode cX6_seatOf 72 = .ok (.iaload, 1) := by decide +kernel
theorem dX6_seatOf_73 : decode cX6_seatOf 73 = .ok (.iaload, 1) := by decide +kernel
theorem dX6_seatOf_74 : decode cX6_seatOf 74 = .ok (.iload_n 3, 1) := by decide +kernel
theorem dX6_seatOf_75 : decode cX6_seatOf 75 = .ok (.if_icmp .eq 15, 3) := by decide +kernel
theorem dX6_seatOf_78 : decode cX6_seatOf 78 = .ok (.iload 6, 2) := by decide +kernel
theorem dX6_seatOf_80 : decode cX6_seatOf 80 = .ok (.iconst 1, 1) := by decide +kernel
theorem dX6_seatOf_81 : decode cX6_seatOf 81 = .ok (.iadd, 1) := by decide +kernel
theorem dX6_seatOf_82 : decode cX6_seatOf 82 = .ok (.ldc 29, 2) := by decide +kernel
theorem dX6_seatOf_84 : decode cX6_seatOf 84 = .ok (.irem, 1) := by decide +kernel
theorem dX6_seatOf_85 : decode cX6_seatOf 85 = .ok (.istore 6, 2) := by decide +kernel
theorem dX6_seatOf_87 : decode cX6_seatOf 87 = .ok (.goto (-52), 3) := by decide +kernel
theorem dX6_seatOf_90 : decode cX6_seatOf 90 = .ok (.iload 6, 2) := by decide +kernel
theorem dX6_seatOf_92 : decode cX6_seatOf 92 = .ok (.ireturn, 1) := by decide +kernel
theorem dX6_isNew_0 : decode cX6_isNew 0 = .ok (.aload_n 0, 1) := by decide +kernel
theorem dX6_isNew_1 : decode cX6_isNew 1 = .ok (.iload_n 3, 1) := by decide +kernel
theorem dX6_isNew_2 : decode cX6_isNew 2 = .ok (.lload_n 1, 1) := by decide +kernel
theorem dX6_isNew_3 : decode cX6_isNew 3 = .ok (.invokevirtual 139, 3) := by decide +kernel
theorem dX6_isNew_6 : decode cX6_isNew 6 = .ok (.invokestatic 166, 3) := by decide +kernel
theorem dX6_isNew_9 : decode cX6_isNew 9 = .ok (.istore 6, 2) := by decide +kernel
theorem dX6_isNew_11 : decode cX6_isNew 11 = .ok (.aload_n 0, 1) := by decide +kernel
theorem dX6_isNew_12 : decode cX6_isNew 12 = .ok (.lload_n 1, 1) := by decide +kernel
theorem dX6_isNew_13 : decode cX6_isNew 13 = .ok (.iload 6, 2) := by decide +kernel
theorem dX6_isNew_15 : decode cX6_isNew 15 = .ok (.invokevirtual 169, 3) := by decide +kernel
theorem dX6_isNew_18 : decode cX6_isNew 18 = .ok (.istore 7, 2) := by decide +kernel
theorem dX6_isNew_20 : decode cX6_isNew 20 = .ok (.aload_n 0, 1) := by decide +kernel
theorem dX6_isNew_21 : decode cX6_isNew 21 = .ok (.getfield 30, 3) := by decide +kernel
theorem dX6_isNew_24 : decode cX6_isNew 24 = .ok (.iload 7, 2) := by decide +kernel
theorem dX6_isNew_26 : decode cX6_isNew 26 = .ok (.iaload, 1) := by decide +kernel
theorem dX6_isNew_27 : decode cX6_isNew 27 = .ok (.ifCond .lt 5, 3) := by decide +kernel
theorem dX6_isNew_30 : decode cX6_isNew 30 = .ok (.iconst 0, 1) := by decide +kernel
theorem dX6_isNew_31 : decode cX6_isNew 31 = .ok (.ireturn, 1) := by decide +kernel
theorem dX6_isNew_32 : decode cX6_isNew 32 = .ok (.aload_n 0, 1) := by decide +kernel
theorem dX6_isNew_33 : decode cX6_isNew 33 = .ok (.getfield 30, 3) := by decide +kernel
theorem dX6_isNew_36 : decode cX6_isNew 36 = .ok (.iload 7, 2) := by decide +kernel
theorem dX6_isNew_38 : decode cX6_isNew 38 = .ok (.aload_n 0, 1) := by decide +kernel
theorem dX6_isNew_39 : decode cX6_isNew 39 = .ok (.getfield 173, 3) := by decide +kernel
theorem dX6_isNew_42 : decode cX6_isNew 42 = .ok (.iastore, 1) := by decide +kernel
theorem dX6_isNew_43 : decode cX6_isNew 43 = .ok (.aload_n 0, 1) := by decide +kernel
theorem dX6_isNew_44 : decode cX6_isNew 44 = .ok (.getfield 16, 3) := by decide +kernel
theorem dX6_isNew_47 : decode cX6_isNew 47 = .ok (.aload_n 0, 1) := by decide +kernel
theorem dX6_isNew_48 : decode cX6_isNew 48 = .ok (.getfield 173, 3) := by decide +kernel
theorem dX6_isNew_51 : decode cX6_isNew 51 = .ok (.lload_n 1, 1) := by decide +kernel
theorem dX6_isNew_52 : decode cX6_isNew 52 = .ok (.lastore, 1) := by decide +kernel
theorem dX6_isNew_53 : decode cX6_isNew 53 = .ok (.aload_n 0, 1) := by decide +kernel
theorem dX6_isNew_54 : decode cX6_isNew 54 = .ok (.getfield 20, 3) := by decide +kernel
theorem dX6_isNew_57 : decode cX6_isNew 57 = .ok (.aload_n 0, 1) := by decide +kernel
theorem dX6_isNew_58 : decode cX6_isNew 58 = .ok (.getfield 173, 3) := by decide +kernel
theorem dX6_isNew_61 : decode cX6_isNew 61 = .ok (.iload 6, 2) := by decide +kernel
theorem dX6_isNew_63 : decode cX6_isNew 63 = .ok (.iastore, 1) := by decide +kernel
theorem dX6_isNew_64 : decode cX6_isNew 64 = .ok (.aload_n 0, 1) := by decide +kernel
theorem dX6_isNew_65 : decode cX6_isNew 65 = .ok (.getfield 23, 3) := by decide +kernel
theorem dX6_isNew_68 : decode cX6_isNew 68 = .ok (.aload_n 0, 1) := by decide +kernel
theorem dX6_isNew_69 : decode cX6_isNew 69 = .ok (.getfield 173, 3) := by decide +kernel
theorem dX6_isNew_72 : decode cX6_isNew 72 = .ok (.iload 4, 2) := by decide +kernel
theorem dX6_isNew_74 : decode cX6_isNew 74 = .ok (.iastore, 1) := by decide +kernel
theorem dX6_isNew_75 : decode cX6_isNew 75 = .ok (.aload_n 0, 1) := by decide +kernel
theorem dX6_isNew_76 : decode cX6_isNew 76 = .ok (.getfield 26, 3) := by decide +kernel
theorem dX6_isNew_79 : decode cX6_isNew 79 = .ok (.aload_n 0, 1) := by decide +kernel
theorem dX6_isNew_80 : decode cX6_isNew 80 = .ok (.getfield 173, 3) := by decide +kernel
theorem dX6_isNew_83 : decode cX6_isNew 83 = .ok (.iload 5, 2) := by decide +kernel
theorem dX6_isNew_85 : decode cX6_isNew 85 = .ok (.iastore, 1) := by decide +kernel
theorem dX6_isNew_86 : decode cX6_isNew 86 = .ok (.aload_n 0, 1) := by decide +kernel
theorem dX6_isNew_87 : decode cX6_isNew 87 = .ok (.dup, 1) := by decide +kernel
theorem dX6_isNew_88 : decode cX6_isNew 88 = .ok (.getfield 173, 3) := by decide +kernel
theorem dX6_isNew_91 : decode cX6_isNew 91 = .ok (.iconst 1, 1) := by decide +kernel
theorem dX6_isNew_92 : decode cX6_isNew 92 = .ok (.iadd, 1) := by decide +kernel
theorem dX6_isNew_93 : decode cX6_isNew 93 = .ok (.putfield 173, 3) := by decide +kernel
theorem dX6_isNew_96 : decode cX6_isNew 96 = .ok (.iconst 1, 1) := by decide +kernel
theorem dX6_isNew_97 : decode cX6_isNew 97 = .ok (.ireturn, 1) := by decide +kernel
theorem dX6_spread_0 : decode cX6_spread 0 = .ok (.iconst 0, 1) := by decide +kernel
theorem dX6_spread_1 : decode cX6_spread 1 = .ok (.istore_n 2, 1) := by decide +kernel
theorem dX6_spread_2 : decode cX6_spread 2 = .ok (.iload_n 2, 1) := by decide +kernel
theorem dX6_spread_3 : decode cX6_spread 3 = .ok (.ldc 29, 2) := by decide +kernel
theorem dX6_spread_5 : decode cX6_spread 5 = .ok (.if_icmp .ge 16, 3) := by decide +kernel
theorem dX6_spread_8 : decode cX6_spread 8 = .ok (.aload_n 0, 1) := by decide +kernel
theorem dX6_spread_9 : decode cX6_spread 9 = .ok (.getfield 30, 3) := by decide +kernel
theorem dX6_spread_12 : decode cX6_spread 12 = .ok (.iload_n 2, 1) := by decide +kernel
theorem dX6_spread_13 : decode cX6_spread 13 = .ok (.iconst (-1), 1) := by decide +kernel
theorem dX6_spread_14 : decode cX6_spread 14 = .ok (.iastore, 1) := by decide +kernel
theorem dX6_spread_15 : decode cX6_spread 15 = .ok (.iinc 2 1, 3) := by decide +kernel
theorem dX6_spread_18 : decode cX6_spread 18 = .ok (.goto (-16), 3) := by decide +kernel
theorem dX6_spread_21 : decode cX6_spread 21 = .ok (.aload_n 0, 1) := by decide +kernel
theorem dX6_spread_22 : decode cX6_spread 22 = .ok (.iconst 0, 1) := by decide +kernel
theorem dX6_spread_23 : decode cX6_spread 23 = .ok (.putfield 173, 3) := by decide +kernel
theorem dX6_spread_26 : decode cX6_spread 26 = .ok (.aload_n 0, 1) := by decide +kernel
theorem dX6_spread_27 : decode cX6_spread 27 = .ok (.aload_n 0, 1) := by decide +kernel
theorem dX6_spread_28 : decode cX6_spread 28 = .ok (.getfield 97, 3) := by decide +kernel
theorem dX6_spread_31 : decode cX6_spread 31 = .ok (.aload_n 0, 1) := by decide +kernel
theorem dX6_spread_32 : decode cX6_spread 32 = .ok (.getfield 100, 3) := by decide +kernel
theorem dX6_spread_35 : decode cX6_spread 35 = .ok (.iconst (-1), 1) := by decide +kernel
theorem dX6_spread_36 : decode cX6_spread 36 = .ok (.iconst 0, 1) := by decide +kernel
theorem dX6_spread_37 : decode cX6_spread 37 = .ok (.invokevirtual 176, 3) := by decide +kernel
theorem dX6_spread_40 : decode cX6_spread 40 = .ok (.pop, 1) := by decide +kernel
theorem dX6_spread_41 : decode cX6_spread 41 = .ok (.aload_n 0, 1) := by decide +kernel
theorem dX6_spread_42 : decode cX6_spread 42 = .ok (.aload_n 0, 1) := by decide +kernel
theorem dX6_spread_43 : decode cX6_spread 43 = .ok (.getfield 97, 3) := by decide +kernel
theorem dX6_spread_46 : decode cX6_spread 46 = .ok (.invokevirtual 135, 3) := by decide +kernel
theorem dX6_spread_49 : decode cX6_spread 49 = .ok (.ifCond .eq 5, 3) := by decide +kernel
theorem dX6_spread_52 : decode cX6_spread 52 = .ok (.iconst 0, 1) := by decide +kernel
theorem dX6_spread_53 : decode cX6_spread 53 = .ok (.ireturn, 1) := by decide +kernel
theorem dX6_spread_54 : decode cX6_spread 54 = .ok (.aload_n 0, 1) := by decide +kernel
theorem dX6_spread_55 : decode cX6_spread 55 = .ok (.invokevirtual 143, 3) := by decide +kernel
theorem dX6_spread_58 : decode cX6_spread 58 = .ok (.lstore_n 2, 1) := by decide +kernel
theorem dX6_spread_59 : decode cX6_spread 59 = .ok (.iconst 0, 1) := by decide +kernel
theorem dX6_spread_60 : decode cX6_spread 60 = .ok (.istore 4, 2) := by decide +kernel
theorem dX6_spread_62 : decode cX6_spread 62 = .ok (.iload 4, 2) := by decide +kernel
theorem dX6_spread_64 : decode cX6_spread 64 = .ok (.aload_n 0, 1) := by decide +kernel
theorem dX6_spread_65 : decode cX6_spread 65 = .ok (.getfield 173, 3) := by decide +kernel
theorem dX6_spread_68 : decode cX6_spread 68 = .ok (.if_icmp .ge 231, 3) := by decide +kernel
theorem dX6_spread_71 : decode cX6_spread 71 = .ok (.aload_n 0, 1) := by decide +kernel
theorem dX6_spread_72 : decode cX6_spread 72 = .ok (.getfield 16, 3) := by decide +kernel
theorem dX6_spread_75 : decode cX6_spread 75 = .ok (.iload 4, 2) := by decide +kernel
theorem dX6_spread_77 : decode cX6_spread 77 = .ok (.laload, 1) := by decide +kernel
theorem dX6_spread_78 : decode cX6_spread 78 = .ok (.lstore 5, 2) := by decide +kernel
theorem dX6_spread_80 : decode cX6_spread 80 = .ok (.aload_n 0, 1) := by decide +kernel
theorem dX6_spread_81 : decode cX6_spread 81 = .ok (.aload_n 0, 1) := by decide +kernel
theorem dX6_spread_82 : decode cX6_spread 82 = .ok (.getfield 20, 3) := by decide +kernel
theorem dX6_spread_85 : decode cX6_spread 85 = .ok (.iload 4, 2) := by decide +kernel
theorem dX6_spread_87 : decode cX6_spread 87 = .ok (.iaload, 1) := by decide +kernel
theorem dX6_spread_88 : decode cX6_spread 88 = .ok (.lload 5, 2) := by decide +kernel
theorem dX6_spread_90 : decode cX6_spread 90 = .ok (.invokevirtual 139, 3) := by decide +kernel
theorem dX6_spread_93 : decode cX6_spread 93 = .ok (.lstore 7, 2) := by decide +kernel
theorem dX6_spread_95 : decode cX6_spread 95 = .ok (.iconst 0, 1) := by decide +kernel
theorem dX6_spread_96 : decode cX6_spread 96 = .ok (.istore 9, 2) := by decide +kernel
theorem dX6_spread_98 : decode cX6_spread 98 = .ok (.iload 9, 2) := by decide +kernel
theorem dX6_spread_100 : decode cX6_spread 100 = .ok (.bipush 64, 2) := by decide +kernel
theorem dX6_spread_102 : decode cX6_spread 102 = .ok (.if_icmp .ge 191, 3) := by decide +kernel
theorem dX6_spread_105 : decode cX6_spread 105 = .ok (.iconst 0, 1) := by decide +kernel
theorem dX6_spread_106 : decode cX6_spread 106 = .ok (.istore 10, 2) := by decide +kernel
theorem dX6_spread_108 : decode cX6_spread 108 = .ok (.iload 10, 2) := by decide +kernel
theorem dX6_spread_110 : decode cX6_spread 110 = .ok (.iconst 4, 1) := by decide +kernel
theorem dX6_spread_111 : decode cX6_spread 111 = .ok (.if_icmp .ge 176, 3) := by decide +kernel
theorem dX6_spread_114 : decode cX6_spread 114 = .ok (.lload 5, 2) := by decide +kernel
theorem dX6_spread_116 : decode cX6_spread 116 = .ok (.iload 9, 2) := by decide +kernel
theorem dX6_spread_118 : decode cX6_spread 118 = .ok (.invokestatic 90, 3) := by decide +kernel
theorem dX6_spread_121 : decode cX6_spread 121 = .ok (.ifCond .eq 166, 3) := by decide +kernel
theorem dX6_spread_124 : decode cX6_spread 124 = .ok (.aload_n 0, 1) := by decide +kernel
theorem dX6_spread_125 : decode cX6_spread 125 = .ok (.iload 9, 2) := by decide +kernel
theorem dX6_spread_127 : decode cX6_spread 127 = .ok (.iload 10, 2) := by decide +kernel
theorem dX6_spread_129 : decode cX6_spread 129 = .ok (.invokevirtual 112, 3) := by decide +kernel
theorem dX6_spread_132 : decode cX6_spread 132 = .ok (.istore 11, 2) := by decide +kernel
theorem dX6_spread_134 : decode cX6_spread 134 = .ok (.lload 7, 2) := by decide +kernel
theorem dX6_spread_136 : decode cX6_spread 136 = .ok (.aload_n 0, 1) := by decide +kernel
theorem dX6_spread_137 : decode cX6_spread 137 = .ok (.iload 9, 2) := by decide +kernel
theorem dX6_spread_139 : decode cX6_spread 139 = .ok (.aload_n 0, 1) := by decide +kernel
theorem dX6_spread_140 : decode cX6_spread 140 = .ok (.iload 10, 2) := by decide +kernel
theorem dX6_spread_142 : decode cX6_spread 142 = .ok (.invokevirtual 126, 3) := by decide +kernel
theorem dX6_spread_145 : decode cX6_spread 145 = .ok (.invokevirtual 112, 3) := by decide +kernel
theorem dX6_spread_148 : decode cX6_spread 148 = .ok (.invokestatic 90, 3) := by decide +kernel
theorem dX6_spread_151 : decode cX6_spread 151 = .ok (.ifCond .eq 130, 3) := by decide +kernel
theorem dX6_spread_154 : decode cX6_spread 154 = .ok (.aload_n 0, 1) := by decide +kernel
theorem dX6_spread_155 : decode cX6_spread 155 = .ok (.getfield 87, 3) := by decide +kernel
theorem dX6_spread_158 : decode cX6_spread 158 = .ok (.iload 11, 2) := by decide +kernel
theorem dX6_spread_160 : decode cX6_spread 160 = .ok (.invokestatic 90, 3) := by decide +kernel
theorem dX6_spread_163 : decode cX6_spread 163 = .ok (.ifCond .eq 118, 3) := by decide +kernel
theorem dX6_spread_166 : decode cX6_spread 166 = .ok (.lload 5, 2) := by decide +kernel
theorem dX6_spread_168 : decode cX6_spread 168 = .ok (.iload 11, 2) := by decide +kernel
theorem dX6_spread_170 : decode cX6_spread 170 = .ok (.invokestatic 90, 3) := by decide +kernel
theorem dX6_spread_173 : decode cX6_spread 173 = .ok (.ifCond .ne 108, 3) := by decide +kernel
theorem dX6_spread_176 : decode cX6_spread 176 = .ok (.lload_n 2, 1) := by decide +kernel
theorem dX6_spread_177 : decode cX6_spread 177 = .ok (.iload 11, 2) := by decide +kernel
theorem dX6_spread_179 : decode cX6_spread 179 = .ok (.invokestatic 90, 3) := by decide +kernel
theorem dX6_spread_182 : decode cX6_spread 182 = .ok (.ifCond .ne 6, 3) := by decide +kernel
theorem dX6_spread_185 : decode cX6_spread 185 = .ok (.goto 96, 3) := by decide +kernel
theorem dX6_spread_188 : decode cX6_spread 188 = .ok (.lload 5, 2) := by decide +kernel
theorem dX6_spread_190 : decode cX6_spread 190 = .ok (.lconst 1, 1) := by decide +kernel
theorem dX6_spread_191 : decode cX6_spread 191 = .ok (.iload 9, 2) := by decide +kernel
theorem dX6_spread_193 : decode cX6_spread 193 = .ok (.lshl, 1) := by decide +kernel
theorem dX6_spread_194 : decode cX6_spread 194 = .ok (.ldc2_w 116, 3) := by decide +kernel
theorem dX6_spread_197 : decode cX6_spread 197 = .ok (.lxor, 1) := by decide +kernel
theorem dX6_spread_198 : decode cX6_spread 198 = .ok (.land, 1) := by decide +kernel
theorem dX6_spread_199 : decode cX6_spread 199 = .ok (.lconst 1, 1) := by decide +kernel
theorem dX6_spread_200 : decode cX6_spread 200 = .ok (.iload 11, 2) := by decide +kernel
theorem dX6_spread_202 : decode cX6_spread 202 = .ok (.lshl, 1) := by decide +kernel
theorem dX6_spread_203 : decode cX6_spread 203 = .ok (.lor, 1) := by decide +kernel
theorem dX6_spread_204 : decode cX6_spread 204 = .ok (.lstore 12, 2) := by decide +kernel
theorem dX6_spread_206 : decode cX6_spread 206 = .ok (.aload_n 0, 1) := by decide +kernel
theorem dX6_spread_207 : decode cX6_spread 207 = .ok (.lload 12, 2) := by decide +kernel
theorem dX6_spread_209 : decode cX6_spread 209 = .ok (.lload_n 2, 1) := by decide +kernel
theorem dX6_spread_210 : decode cX6_spread 210 = .ok (.invokevirtual 151, 3) := by decide +kernel
theorem dX6_spread_213 : decode cX6_spread 213 = .ok (.aload_n 0, 1) := by decide +kernel
theorem dX6_spread_214 : decode cX6_spread 214 = .ok (.getfield 94, 3) := by decide +kernel
theorem dX6_spread_217 : decode cX6_spread 217 = .ok (.ldc2_w 116, 3) := by decide +kernel
theorem dX6_spread_220 : decode cX6_spread 220 = .ok (.lxor, 1) := by decide +kernel
theorem dX6_spread_221 : decode cX6_spread 221 = .ok (.land, 1) := by decide +kernel
theorem dX6_spread_222 : decode cX6_spread 222 = .ok (.lconst 0, 1) := by decide +kernel
theorem dX6_spread_223 : decode cX6_spread 223 = .ok (.lcmp, 1) := by decide +kernel
theorem dX6_spread_224 : decode cX6_spread 224 = .ok (.ifCond .ne 57, 3) := by decide +kernel
theorem dX6_spread_227 : decode cX6_spread 227 = .ok (.aload_n 0, 1) := by decide +kernel
theorem dX6_spread_228 : decode cX6_spread 228 = .ok (.lload 12, 2) := by decide +kernel
theorem dX6_spread_230 : decode cX6_spread 230 = .ok (.iload 9, 2) := by decide +kernel
theorem dX6_spread_232 : decode cX6_spread 232 = .ok (.iload 4, 2) := by decide +kernel
theorem dX6_spread_234 : decode cX6_spread 234 = .ok (.iconst 4, 1) := by decide +kernel
theorem dX6_spread_235 : decode cX6_spread 235 = .ok (.aload_n 0, 1) := by decide +kernel
theorem dX6_spread_236 : decode cX6_spread 236 = .ok (.iload 9, 2) := by decide +kernel
theorem dX6_spread_238 : decode cX6_spread 238 = .ok (.invokevirtual 132, 3) := by decide +kernel
theorem dX6_spread_241 : decode cX6_spread 241 = .ok (.imul, 1) := by decide +kernel
theorem dX6_spread_242 : decode cX6_spread 242 = .ok (.iload 10, 2) := by decide +kernel
theorem dX6_spread_244 : decode cX6_spread 244 = .ok (.iadd, 1) := by decide +kernel
theorem dX6_spread_245 : decode cX6_spread 245 = .ok (.invokevirtual 176, 3) := by decide +kernel
theorem dX6_spread_248 : decode cX6_spread 248 = .ok (.ifCond .ne 6, 3) := by decide +kernel
theorem dX6_spread_251 : decode cX6_spread 251 = .ok (.goto 30, 3) := by decide +kernel
theorem dX6_spread_254 : decode cX6_spread 254 = .ok (.aload_n 0, 1) := by decide +kernel
theorem dX6_spread_255 : decode cX6_spread 255 = .ok (.getfield 173, 3) := by decide +kernel
theorem dX6_spread_258 : decode cX6_spread 258 = .ok (.iload_n 1, 1) := by decide +kernel
theorem dX6_spread_259 : decode cX6_spread 259 = .ok (.if_icmp .le 6, 3) := by decide +kernel
theorem dX6_spread_262 : decode cX6_spread 262 = .ok (.bipush (-2), 2) := by decide +kernel
theorem dX6_spread_264 : decode cX6_spread 264 = .ok (.ireturn, 1) := by decide +kernel
theorem dX6_spread_265 : decode cX6_spread 265 = .ok (.aload_n 0, 1) := by decide +kernel
theorem dX6_spread_266 : decode cX6_spread 266 = .ok (.lload 12, 2) := by decide +kernel
theorem dX6_spread_268 : decode cX6_spread 268 = .ok (.invokevirtual 135, 3) := by decide +kernel
theorem dX6_spread_271 : decode cX6_spread 271 = .ok (.ifCond .eq 10, 3) := by decide +kernel
theorem dX6_spread_274 : decode cX6_spread 274 = .ok (.aload_n 0, 1) := by decide +kernel
theorem dX6_spread_275 : decode cX6_spread 275 = .ok (.getfield 173, 3) := by decide +kernel
theorem dX6_spread_278 : decode cX6_spread 278 = .ok (.iconst 1, 1) := by decide +kernel
