theorem d_C_covers_47 : decode b_C_covers 47 = .ok (.getfield 26, 3) := by decide +kernel
theorem d_C_covers_50 : decode b_C_covers 50 = .ok (.getfield 105, 3) := by decide +kernel
theorem d_C_covers_53 : decode b_C_covers 53 = .ok (.iload_n 1, 1) := by decide +kernel
theorem d_C_covers_54 : decode b_C_covers 54 = .ok (.iaload, 1) := by decide +kernel
theorem d_C_covers_55 : decode b_C_covers 55 = .ok (.aload_n 0, 1) := by decide +kernel
theorem d_C_covers_56 : decode b_C_covers 56 = .ok (.getfield 26, 3) := by decide +kernel
theorem d_C_covers_59 : decode b_C_covers 59 = .ok (.getfield 111, 3) := by decide +kernel
theorem d_C_covers_62 : decode b_C_covers 62 = .ok (.iload_n 1, 1) := by decide +kernel
theorem d_C_covers_63 : decode b_C_covers 63 = .ok (.iaload, 1) := by decide +kernel
theorem d_C_covers_64 : decode b_C_covers 64 = .ok (.invokestatic 291, 3) := by decide +kernel
theorem d_C_covers_67 : decode b_C_covers 67 = .ok (.iload 5, 2) := by decide +kernel
theorem d_C_covers_69 : decode b_C_covers 69 = .ok (.isub, 1) := by decide +kernel
theorem d_C_covers_70 : decode b_C_covers 70 = .ok (.if_icmp .lt 91, 3) := by decide +kernel
theorem d_C_covers_73 : decode b_C_covers 73 = .ok (.iload_n 2, 1) := by decide +kernel
theorem d_C_covers_74 : decode b_C_covers 74 = .ok (.aload_n 0, 1) := by decide +kernel
theorem d_C_covers_75 : decode b_C_covers 75 = .ok (.getfield 26, 3) := by decide +kernel
theorem d_C_covers_78 : decode b_C_covers 78 = .ok (.getfield 105, 3) := by decide +kernel
theorem d_C_covers_81 : decode b_C_covers 81 = .ok (.iload_n 1, 1) := by decide +kernel
theorem d_C_covers_82 : decode b_C_covers 82 = .ok (.iaload, 1) := by decide +kernel
theorem d_C_covers_83 : decode b_C_covers 83 = .ok (.aload_n 0, 1) := by decide +kernel
theorem d_C_covers_84 : decode b_C_covers 84 = .ok (.getfield 26, 3) := by decide +kernel
theorem d_C_covers_87 : decode b_C_covers 87 = .ok (.getfield 111, 3) := by decide +kernel
theorem d_C_covers_90 : decode b_C_covers 90 = .ok (.iload_n 1, 1) := by decide +kernel
theorem d_C_covers_91 : decode b_C_covers 91 = .ok (.iaload, 1) := by decide +kernel
theorem d_C_covers_92 : decode b_C_covers 92 = .ok (.invokestatic 305, 3) := by decide +kernel
theorem d_C_covers_95 : decode b_C_covers 95 = .ok (.iload 5, 2) := by decide +kernel
theorem d_C_covers_97 : decode b_C_covers 97 = .ok (.iadd, 1) := by decide +kernel
theorem d_C_covers_98 : decode b_C_covers 98 = .ok (.if_icmp .gt 63, 3) := by decide +kernel
theorem d_C_covers_101 : decode b_C_covers 101 = .ok (.iload_n 3, 1) := by decide +kernel
theorem d_C_covers_102 : decode b_C_covers 102 = .ok (.aload_n 0, 1) := by decide +kernel
theorem d_C_covers_103 : decode b_C_covers 103 = .ok (.getfield 26, 3) := by decide +kernel
theorem d_C_covers_106 : decode b_C_covers 106 = .ok (.getfield 108, 3) := by decide +kernel
theorem d_C_covers_109 : decode b_C_covers 109 = .ok (.iload_n 1, 1) := by decide +kernel
theorem d_C_covers_110 : decode b_C_covers 110 = .ok (.iaload, 1) := by decide +kernel
theorem d_C_covers_111 : decode b_C_covers 111 = .ok (.aload_n 0, 1) := by decide +kernel
theorem d_C_covers_112 : decode b_C_covers 112 = .ok (.getfield 26, 3) := by decide +kernel
theorem d_C_covers_115 : decode b_C_covers 115 = .ok (.getfield 114, 3) := by decide +kernel
theorem d_C_covers_118 : decode b_C_covers 118 = .ok (.iload_n 1, 1) := by decide +kernel
theorem d_C_covers_119 : decode b_C_covers 119 = .ok (.iaload, 1) := by decide +kernel
theorem d_C_covers_120 : decode b_C_covers 120 = .ok (.invokestatic 291, 3) := by decide +kernel
theorem d_C_covers_123 : decode b_C_covers 123 = .ok (.iload 6, 2) := by decide +kernel
theorem d_C_covers_125 : decode b_C_covers 125 = .ok (.isub, 1) := by decide +kernel
theorem d_C_covers_126 : decode b_C_covers 126 = .ok (.if_icmp .lt 35, 3) := by decide +kernel
theorem d_C_covers_129 : decode b_C_covers 129 = .ok (.iload_n 3, 1) := by decide +kernel
theorem d_C_covers_130 : decode b_C_covers 130 = .ok (.aload_n 0, 1) := by decide +kernel
theorem d_C_covers_131 : decode b_C_covers 131 = .ok (.getfield 26, 3) := by decide +kernel
theorem d_C_covers_134 : decode b_C_covers 134 = .ok (.getfield 108, 3) := by decide +kernel
theorem d_C_covers_137 : decode b_C_covers 137 = .ok (.iload_n 1, 1) := by decide +kernel
theorem d_C_covers_138 : decode b_C_covers 138 = .ok (.iaload, 1) := by decide +kernel
theorem d_C_covers_139 : decode b_C_covers 139 = .ok (.aload_n 0, 1) := by decide +kernel
theorem d_C_covers_140 : decode b_C_covers 140 = .ok (.getfield 26, 3) := by decide +kernel
theorem d_C_covers_143 : decode b_C_covers 143 = .ok (.getfield 114, 3) := by decide +kernel
theorem d_C_covers_146 : decode b_C_covers 146 = .ok (.iload_n 1, 1) := by decide +kernel
theorem d_C_covers_147 : decode b_C_covers 147 = .ok (.iaload, 1) := by decide +kernel
theorem d_C_covers_148 : decode b_C_covers 148 = .ok (.invokestatic 305, 3) := by decide +kernel
theorem d_C_covers_151 : decode b_C_covers 151 = .ok (.iload 6, 2) := by decide +kernel
theorem d_C_covers_153 : decode b_C_covers 153 = .ok (.iadd, 1) := by decide +kernel
theorem d_C_covers_154 : decode b_C_covers 154 = .ok (.if_icmp .gt 7, 3) := by decide +kernel
theorem d_C_covers_157 : decode b_C_covers 157 = .ok (.iconst 1, 1) := by decide +kernel
theorem d_C_covers_158 : decode b_C_covers 158 = .ok (.goto 4, 3) := by decide +kernel
theorem d_C_covers_161 : decode b_C_covers 161 = .ok (.iconst 0, 1) := by decide +kernel
theorem d_C_covers_162 : decode b_C_covers 162 = .ok (.ireturn, 1) := by decide +kernel
theorem d_M_init_0 : decode b_M_init 0 = .ok (.aload_n 0, 1) := by decide +kernel
theorem d_M_init_1 : decode b_M_init 1 = .ok (.invokespecial 1, 3) := by decide +kernel
theorem d_M_init_4 : decode b_M_init 4 = .ok (.aload_n 0, 1) := by decide +kernel
theorem d_M_init_5 : decode b_M_init 5 = .ok (.sipush 1400, 3) := by decide +kernel
theorem d_M_init_8 : decode b_M_init 8 = .ok (.newarray .int, 2) := by decide +kernel
theorem d_M_init_10 : decode b_M_init 10 = .ok (.putfield 7, 3) := by decide +kernel
theorem d_M_init_13 : decode b_M_init 13 = .ok (.aload_n 0, 1) := by decide +kernel
theorem d_M_init_14 : decode b_M_init 14 = .ok (.bipush 6, 2) := by decide +kernel
theorem d_M_init_16 : decode b_M_init 16 = .ok (.newarray .int, 2) := by decide +kernel
theorem d_M_init_18 : decode b_M_init 18 = .ok (.putfield 13, 3) := by decide +kernel
theorem d_M_init_21 : decode b_M_init 21 = .ok (.aload_n 0, 1) := by decide +kernel
theorem d_M_init_22 : decode b_M_init 22 = .ok (.bipush 8, 2) := by decide +kernel
theorem d_M_init_24 : decode b_M_init 24 = .ok (.newarray .int, 2) := by decide +kernel
theorem d_M_init_26 : decode b_M_init 26 = .ok (.putfield 16, 3) := by decide +kernel
theorem d_M_init_29 : decode b_M_init 29 = .ok (.aload_n 0, 1) := by decide +kernel
theorem d_M_init_30 : decode b_M_init 30 = .ok (.bipush 40, 2) := by decide +kernel
theorem d_M_init_32 : decode b_M_init 32 = .ok (.newarray .int, 2) := by decide +kernel
theorem d_M_init_34 : decode b_M_init 34 = .ok (.putfield 19, 3) := by decide +kernel
theorem d_M_init_37 : decode b_M_init 37 = .ok (.aload_n 0, 1) := by decide +kernel
theorem d_M_init_38 : decode b_M_init 38 = .ok (.bipush 40, 2) := by decide +kernel
theorem d_M_init_40 : decode b_M_init 40 = .ok (.newarray .int, 2) := by decide +kernel
theorem d_M_init_42 : decode b_M_init 42 = .ok (.putfield 22, 3) := by decide +kernel
theorem d_M_init_45 : decode b_M_init 45 = .ok (.aload_n 0, 1) := by decide +kernel
theorem d_M_init_46 : decode b_M_init 46 = .ok (.bipush 40, 2) := by decide +kernel
theorem d_M_init_48 : decode b_M_init 48 = .ok (.newarray .int, 2) := by decide +kernel
theorem d_M_init_50 : decode b_M_init 50 = .ok (.putfield 25, 3) := by decide +kernel
theorem d_M_init_53 : decode b_M_init 53 = .ok (.aload_n 0, 1) := by decide +kernel
theorem d_M_init_54 : decode b_M_init 54 = .ok (.bipush 40, 2) := by decide +kernel
theorem d_M_init_56 : decode b_M_init 56 = .ok (.newarray .int, 2) := by decide +kernel
theorem d_M_init_58 : decode b_M_init 58 = .ok (.putfield 28, 3) := by decide +kernel
theorem d_M_init_61 : decode b_M_init 61 = .ok (.aload_n 0, 1) := by decide +kernel
theorem d_M_init_62 : decode b_M_init 62 = .ok (.bipush 40, 2) := by decide +kernel
theorem d_M_init_64 : decode b_M_init 64 = .ok (.newarray .int, 2) := by decide +kernel
theorem d_M_init_66 : decode b_M_init 66 = .ok (.putfield 31, 3) := by decide +kernel
theorem d_M_init_69 : decode b_M_init 69 = .ok (.aload_n 0, 1) := by decide +kernel
theorem d_M_init_70 : decode b_M_init 70 = .ok (.bipush 40, 2) := by decide +kernel
theorem d_M_init_72 : decode b_M_init 72 = .ok (.newarray .int, 2) := by decide +kernel
theorem d_M_init_74 : decode b_M_init 74 = .ok (.putfield 34, 3) := by decide +kernel
theorem d_M_init_77 : decode b_M_init 77 = .ok (.aload_n 0, 1) := by decide +kernel
theorem d_M_init_78 : decode b_M_init 78 = .ok (.bipush 40, 2) := by decide +kernel
theorem d_M_init_80 : decode b_M_init 80 = .ok (.newarray .boolean, 2) := by decide +kernel
theorem d_M_init_82 : decode b_M_init 82 = .ok (.putfield 37, 3) := by decide +kernel
theorem d_M_init_85 : decode b_M_init 85 = .ok (.aload_n 0, 1) := by decide +kernel
theorem d_M_init_86 : decode b_M_init 86 = .ok (.bipush 60, 2) := by decide +kernel
theorem d_M_init_88 : decode b_M_init 88 = .ok (.newarray .int, 2) := by decide +kernel
theorem d_M_init_90 : decode b_M_init 90 = .ok (.putfield 41, 3) := by decide +kernel
theorem d_M_init_93 : decode b_M_init 93 = .ok (.aload_n 0, 1) := by decide +kernel
theorem d_M_init_94 : decode b_M_init 94 = .ok (.bipush 60, 2) := by decide +kernel
theorem d_M_init_96 : decode b_M_init 96 = .ok (.newarray .int, 2) := by decide +kernel
theorem d_M_init_98 : decode b_M_init 98 = .ok (.putfield 44, 3) := by decide +kernel
theorem d_M_init_101 : decode b_M_init 101 = .ok (.aload_n 0, 1) := by decide +kernel
theorem d_M_init_102 : decode b_M_init 102 = .ok (.bipush 60, 2) := by decide +kernel
theorem d_M_init_104 : decode b_M_init 104 = .ok (.newarray .int, 2) := by decide +kernel
theorem d_M_init_106 : decode b_M_init 106 = .ok (.putfield 47, 3) := by decide +kernel
theorem d_M_init_109 : decode b_M_init 109 = .ok (.return_, 1) := by decide +kernel
theorem d_M_thrown_0 : decode b_M_thrown 0 = .ok (.aload_n 0, 1) := by decide +kernel
theorem d_M_thrown_1 : decode b_M_thrown 1 = .ok (.getfield 50, 3) := by decide +kernel
theorem d_M_thrown_4 : decode b_M_thrown 4 = .ok (.ireturn, 1) := by decide +kernel
theorem d_M_isIn_0 : decode b_M_isIn 0 = .ok (.lload_n 0, 1) := by decide +kernel
theorem d_M_isIn_1 : decode b_M_isIn 1 = .ok (.lload_n 2, 1) := by decide +kernel
theorem d_M_isIn_2 : decode b_M_isIn 2 = .ok (.lcmp, 1) := by decide +kernel
theorem d_M_isIn_3 : decode b_M_isIn 3 = .ok (.ifCond .lt 14, 3) := by decide +kernel
theorem d_M_isIn_6 : decode b_M_isIn 6 = .ok (.lload_n 0, 1) := by decide +kernel
theorem d_M_isIn_7 : decode b_M_isIn 7 = .ok (.lload 4, 2) := by decide +kernel
theorem d_M_isIn_9 : decode b_M_isIn 9 = .ok (.lcmp, 1) := by decide +kernel
theorem d_M_isIn_10 : decode b_M_isIn 10 = .ok (.ifCond .gt 7, 3) := by decide +kernel
theorem d_M_isIn_13 : decode b_M_isIn 13 = .ok (.iconst 1, 1) := by decide +kernel
theorem d_M_isIn_14 : decode b_M_isIn 14 = .ok (.goto 4, 3) := by decide +kernel
theorem d_M_isIn_17 : decode b_M_isIn 17 = .ok (.iconst 0, 1) := by decide +kernel
theorem d_M_isIn_18 : decode b_M_isIn 18 = .ok (.ireturn, 1) := by decide +kernel
theorem d_M_isStorey_0 : decode b_M_isStorey 0 = .ok (.iload_n 1, 1) := by decide +kernel
theorem d_M_isStorey_1 : decode b_M_isStorey 1 = .ok (.ifCond .lt 15, 3) := by decide +kernel
theorem d_M_isStorey_4 : decode b_M_isStorey 4 = .ok (.iload_n 1, 1) := by decide +kernel
theorem d_M_isStorey_5 : decode b_M_isStorey 5 = .ok (.aload_n 0, 1) := by decide +kernel
theorem d_M_isStorey_6 : decode b_M_isStorey 6 = .ok (.getfield 54, 3) := by decide +kernel
theorem d_M_isStorey_9 : decode b_M_isStorey 9 = .ok (.if_icmp .ge 7, 3) := by decide +kernel
theorem d_M_isStorey_12 : decode b_M_isStorey 12 = .ok (.iconst 1, 1) := by decide +kernel
theorem d_M_isStorey_13 : decode b_M_isStorey 13 = .ok (.goto 4, 3) := by decide +kernel
theorem d_M_isStorey_16 : decode b_M_isStorey 16 = .ok (.iconst 0, 1) := by decide +kernel
theorem d_M_isStorey_17 : decode b_M_isStorey 17 = .ok (.ireturn, 1) := by decide +kernel
theorem d_M_isType_0 : decode b_M_isType 0 = .ok (.iload_n 1, 1) := by decide +kernel
theorem d_M_isType_1 : decode b_M_isType 1 = .ok (.ifCond .lt 15, 3) := by decide +kernel
theorem d_M_isType_4 : decode b_M_isType 4 = .ok (.iload_n 1, 1) := by decide +kernel
theorem d_M_isType_5 : decode b_M_isType 5 = .ok (.aload_n 0, 1) := by decide +kernel
theorem d_M_isType_6 : decode b_M_isType 6 = .ok (.getfield 57, 3) := by decide +kernel
theorem d_M_isType_9 : decode b_M_isType 9 = .ok (.if_icmp .ge 7, 3) := by decide +kernel
theorem d_M_isType_12 : decode b_M_isType 12 = .ok (.iconst 1, 1) := by decide +kernel
theorem d_M_isType_13 : decode b_M_isType 13 = .ok (.goto 4, 3) := by decide +kernel
theorem d_M_isType_16 : decode b_M_isType 16 = .ok (.iconst 0, 1) := by decide +kernel
theorem d_M_isType_17 : decode b_M_isType 17 = .ok (.ireturn, 1) := by decide +kernel
theorem d_M_isWall_0 : decode b_M_isWall 0 = .ok (.iload_n 1, 1) := by decide +kernel
theorem d_M_isWall_1 : decode b_M_isWall 1 = .ok (.ifCond .lt 24, 3) := by decide +kernel
theorem d_M_isWall_4 : decode b_M_isWall 4 = .ok (.iload_n 1, 1) := by decide +kernel
theorem d_M_isWall_5 : decode b_M_isWall 5 = .ok (.aload_n 0, 1) := by decide +kernel
theorem d_M_isWall_6 : decode b_M_isWall 6 = .ok (.getfield 60, 3) := by decide +kernel
theorem d_M_isWall_9 : decode b_M_isWall 9 = .ok (.if_icmp .ge 16, 3) := by decide +kernel
theorem d_M_isWall_12 : decode b_M_isWall 12 = .ok (.aload_n 0, 1) := by decide +kernel
theorem d_M_isWall_13 : decode b_M_isWall 13 = .ok (.getfield 37, 3) := by decide +kernel
theorem d_M_isWall_16 : decode b_M_isWall 16 = .ok (.iload_n 1, 1) := by decide +kernel
theorem d_M_isWall_17 : decode b_M_isWall 17 = .ok (.baload, 1) := by decide +kernel
theorem d_M_isWall_18 : decode b_M_isWall 18 = .ok (.ifCond .eq 7, 3) := by decide +kernel
theorem d_M_isWall_21 : decode b_M_isWall 21 = .ok (.iconst 1, 1) := by decide +kernel
theorem d_M_isWall_22 : decode b_M_isWall 22 = .ok (.goto 4, 3) := by decide +kernel
theorem d_M_isWall_25 : decode b_M_isWall 25 = .ok (.iconst 0, 1) := by decide +kernel
theorem d_M_isWall_26 : decode b_M_isWall 26 = .ok (.ireturn, 1) := by decide +kernel
theorem d_M_isThick_0 : decode b_M_isThick 0 = .ok (.iload_n 0, 1) := by decide +kernel
theorem d_M_isThick_1 : decode b_M_isThick 1 = .ok (.iconst 2, 1) := by decide +kernel
theorem d_M_isThick_2 : decode b_M_isThick 2 = .ok (.if_icmp .lt 19, 3) := by decide +kernel
theorem d_M_isThick_5 : decode b_M_isThick 5 = .ok (.iload_n 0, 1) := by decide +kernel
theorem d_M_isThick_6 : decode b_M_isThick 6 = .ok (.bipush 100, 2) := by decide +kernel
theorem d_M_isThick_8 : decode b_M_isThick 8 = .ok (.if_icmp .gt 13, 3) := by decide +kernel
theorem d_M_isThick_11 : decode b_M_isThick 11 = .ok (.iload_n 0, 1) := by decide +kernel
theorem d_M_isThick_12 : decode b_M_isThick 12 = .ok (.iconst 2, 1) := by decide +kernel
theorem d_M_isThick_13 : decode b_M_isThick 13 = .ok (.irem, 1) := by decide +kernel
theorem d_M_isThick_14 : decode b_M_isThick 14 = .ok (.ifCond .ne 7, 3) := by decide +kernel
theorem d_M_isThick_17 : decode b_M_isThick 17 = .ok (.iconst 1, 1) := by decide +kernel
theorem d_M_isThick_18 : decode b_M_isThick 18 = .ok (.goto 4, 3) := by decide +kernel
theorem d_M_isThick_21 : decode b_M_isThick 21 = .ok (.iconst 0, 1) := by decide +kernel
theorem d_M_isThick_22 : decode b_M_isThick 22 = .ok (.ireturn, 1) := by decide +kernel
theorem d_M_isPlace_0 : decode b_M_isPlace 0 = .ok (.lload_n 0, 1) := by decide +kernel
theorem d_M_isPlace_1 : decode b_M_isPlace 1 = .ok (.ldc2_w 63, 3) := by decide +kernel
theorem d_M_isPlace_4 : decode b_M_isPlace 4 = .ok (.ldc2_w 65, 3) := by decide +kernel
theorem d_M_isPlace_7 : decode b_M_isPlace 7 = .ok (.invokestatic 67, 3) := by decide +kernel
theorem d_M_isPlace_10 : decode b_M_isPlace 10 = .ok (.ifCond .eq 20, 3) := by decide +kernel
theorem d_M_isPlace_13 : decode b_M_isPlace 13 = .ok (.lload_n 2, 1) := by decide +kernel
theorem d_M_isPlace_14 : decode b_M_isPlace 14 = .ok (.ldc2_w 63, 3) := by decide +kernel
theorem d_M_isPlace_17 : decode b_M_isPlace 17 = .ok (.ldc2_w 65, 3) := by decide +kernel
theorem d_M_isPlace_20 : decode b_M_isPlace 20 = .ok (.invokestatic 67, 3) := by decide +kernel
theorem d_M_isPlace_23 : decode b_M_isPlace 23 = .ok (.ifCond .eq 7, 3) := by decide +kernel
theorem d_M_isPlace_26 : decode b_M_isPlace 26 = .ok (.iconst 1, 1) := by decide +kernel
theorem d_M_isPlace_27 : decode b_M_isPlace 27 = .ok (.goto 4, 3) := by decide +kernel
theorem d_M_isPlace_30 : decode b_M_isPlace 30 = .ok (.iconst 0, 1) := by decide +kernel
theorem d_M_isPlace_31 : decode b_M_isPlace 31 = .ok (.ireturn, 1) := by decide +kernel
theorem d_M_goes_0 : decode b_M_goes 0 = .ok (.aload_n 0, 1) := by decide +kernel
theorem d_M_goes_1 : decode b_M_goes 1 = .ok (.iload_n 1, 1) := by decide +kernel
theorem d_M_goes_2 : decode b_M_goes 2 = .ok (.ifCond .ne 7, 3) := by decide +kernel
theorem d_M_goes_5 : decode b_M_goes 5 = .ok (.iconst 1, 1) := by decide +kernel
theorem d_M_goes_6 : decode b_M_goes 6 = .ok (.goto 22, 3) := by decide +kernel
theorem d_M_goes_9 : decode b_M_goes 9 = .ok (.iload_n 2, 1) := by decide +kernel
theorem d_M_goes_10 : decode b_M_goes 10 = .ok (.ifCond .eq 13, 3) := by decide +kernel
theorem d_M_goes_13 : decode b_M_goes 13 = .ok (.aload_n 0, 1) := by decide +kernel
theorem d_M_goes_14 : decode b_M_goes 14 = .ok (.getfield 71, 3) := by decide +kernel
theorem d_M_goes_17 : decode b_M_goes 17 = .ok (.sipush 200, 3) := by decide +kernel
theorem d_M_goes_20 : decode b_M_goes 20 = .ok (.if_icmp .ne 7, 3) := by decide +kernel
theorem d_M_goes_23 : decode b_M_goes 23 = .ok (.iconst 2, 1) := by decide +kernel
theorem d_M_goes_24 : decode b_M_goes 24 = .ok (.goto 4, 3) := by decide +kernel
theorem d_M_goes_27 : decode b_M_goes 27 = .ok (.iconst 0, 1) := by decide +kernel
theorem d_M_goes_28 : decode b_M_goes 28 = .ok (.putfield 50, 3) := by decide +kernel
theorem d_M_goes_31 : decode b_M_goes 31 = .ok (.aload_n 0, 1) := by decide +kernel
theorem d_M_goes_32 : decode b_M_goes 32 = .ok (.getfield 50, 3) := by decide +kernel
theorem d_M_goes_35 : decode b_M_goes 35 = .ok (.ifCond .ne 7, 3) := by decide +kernel
theorem d_M_goes_38 : decode b_M_goes 38 = .ok (.iconst 1, 1) := by decide +kernel
theorem d_M_goes_39 : decode b_M_goes 39 = .ok (.goto 4, 3) := by decide +kernel
theorem d_M_goes_42 : decode b_M_goes 42 = .ok (.iconst 0, 1) := by decide +kernel
theorem d_M_goes_43 : decode b_M_goes 43 = .ok (.ireturn, 1) := by decide +kernel
theorem d_M_act_0 : decode b_M_act 0 = .ok (.bipush 7, 2) := by decide +kernel
theorem d_M_act_2 : decode b_M_act 2 = .ok (.aload_n 0, 1) := by decide +kernel
theorem d_M_act_3 : decode b_M_act 3 = .ok (.getfield 71, 3) := by decide +kernel
theorem d_M_act_6 : decode b_M_act 6 = .ok (.imul, 1) := by decide +kernel
theorem d_M_act_7 : decode b_M_act 7 = .ok (.istore 8, 2) := by decide +kernel
theorem d_M_act_9 : decode b_M_act 9 = .ok (.aload_n 0, 1) := by decide +kernel
theorem d_M_act_10 : decode b_M_act 10 = .ok (.getfield 7, 3) := by decide +kernel
theorem d_M_act_13 : decode b_M_act 13 = .ok (.iload 8, 2) := by decide +kernel
theorem d_M_act_15 : decode b_M_act 15 = .ok (.iload_n 1, 1) := by decide +kernel
theorem d_M_act_16 : decode b_M_act 16 = .ok (.iastore, 1) := by decide +kernel
theorem d_M_act_17 : decode b_M_act 17 = .ok (.aload_n 0, 1) := by decide +kernel
theorem d_M_act_18 : decode b_M_act 18 = .ok (.getfield 7, 3) := by decide +kernel
theorem d_M_act_21 : decode b_M_act 21 = .ok (.iload 8, 2) := by decide +kernel
theorem d_M_act_23 : decode b_M_act 23 = .ok (.iconst 1, 1) := by decide +kernel
theorem d_M_act_24 : decode b_M_act 24 = .ok (.iadd, 1) := by decide +kernel
theorem d_M_act_25 : decode b_M_act 25 = .ok (.iload_n 2, 1) := by decide +kernel
theorem d_M_act_26 : decode b_M_act 26 = .ok (.iastore, 1) := by decide +kernel
theorem d_M_act_27 : decode b_M_act 27 = .ok (.aload_n 0, 1) := by decide +kernel
theorem d_M_act_28 : decode b_M_act 28 = .ok (.getfield 7, 3) := by decide +kernel
theorem d_M_act_31 : decode b_M_act 31 = .ok (.iload 8, 2) := by decide +kernel
theorem d_M_act_33 : decode b_M_act 33 = .ok (.iconst 2, 1) := by decide +kernel
theorem d_M_act_34 : decode b_M_act 34 = .ok (.iadd, 1) := by decide +kernel
theorem d_M_act_35 : decode b_M_act 35 = .ok (.iload_n 3, 1) := by decide +kernel
theorem d_M_act_36 : decode b_M_act 36 = .ok (.iastore, 1) := by decide +kernel
theorem d_M_act_37 : decode b_M_act 37 = .ok (.aload_n 0, 1) := by decide +kernel
theorem d_M_act_38 : decode b_M_act 38 = .ok (.getfield 7, 3) := by decide +kernel
theorem d_M_act_41 : decode b_M_act 41 = .ok (.iload 8, 2) := by decide +kernel
theorem d_M_act_43 : decode b_M_act 43 = .ok (.iconst 3, 1) := by decide +kernel
theorem d_M_act_44 : decode b_M_act 44 = .ok (.iadd, 1) := by decide +kernel
theorem d_M_act_45 : decode b_M_act 45 = .ok (.iload 4, 2) := by decide +kernel
theorem d_M_act_47 : decode b_M_act 47 = .ok (.iastore, 1) := by decide +kernel
theorem d_M_act_48 : decode b_M_act 48 = .ok (.aload_n 0, 1) := by decide +kernel
theorem d_M_act_49 : decode b_M_act 49 = .ok (.getfield 7, 3) := by decide +kernel
theorem d_M_act_52 : decode b_M_act 52 = .ok (.iload 8, 2) := by decide +kernel
theorem d_M_act_54 : decode b_M_act 54 = .ok (.iconst 4, 1) := by decide +kernel
theorem d_M_act_55 : decode b_M_act 55 = .ok (.iadd, 1) := by decide +kernel
theorem d_M_act_56 : decode b_M_act 56 = .ok (.iload 5, 2) := by decide +kernel
theorem d_M_act_58 : decode b_M_act 58 = .ok (.iastore, 1) := by decide +kernel
theorem d_M_act_59 : decode b_M_act 59 = .ok (.aload_n 0, 1) := by decide +kernel
theorem d_M_act_60 : decode b_M_act 60 = .ok (.getfield 7, 3) := by decide +kernel
theorem d_M_act_63 : decode b_M_act 63 = .ok (.iload 8, 2) := by decide +kernel
theorem d_M_act_65 : decode b_M_act 65 = .ok (.iconst 5, 1) := by decide +kernel
theorem d_M_act_66 : decode b_M_act 66 = .ok (.iadd, 1) := by decide +kernel
theorem d_M_act_67 : decode b_M_act 67 = .ok (.iload 6, 2) := by decide +kernel
theorem d_M_act_69 : decode b_M_act 69 = .ok (.iastore, 1) := by decide +kernel
theorem d_M_act_70 : decode b_M_act 70 = .ok (.aload_n 0, 1) := by decide +kernel
theorem d_M_act_71 : decode b_M_act 71 = .ok (.getfield 7, 3) := by decide +kernel
theorem d_M_act_74 : decode b_M_act 74 = .ok (.iload 8, 2) := by decide +kernel
theorem d_M_act_76 : decode b_M_act 76 = .ok (.bipush 6, 2) := by decide +kernel
theorem d_M_act_78 : decode b_M_act 78 = .ok (.iadd, 1) := by decide +kernel
theorem d_M_act_79 : decode b_M_act 79 = .ok (.iload 7, 2) := by decide +kernel
theorem d_M_act_81 : decode b_M_act 81 = .ok (.iastore, 1) := by decide +kernel
theorem d_M_act_82 : decode b_M_act 82 = .ok (.aload_n 0, 1) := by decide +kernel
theorem d_M_act_83 : decode b_M_act 83 = .ok (.dup, 1) := by decide +kernel
theorem d_M_act_84 : decode b_M_act 84 = .ok (.getfield 71, 3) := by decide +kernel
theorem d_M_act_87 : decode b_M_act 87 = .ok (.iconst 1, 1) := by decide +kernel
theorem d_M_act_88 : decode b_M_act 88 = .ok (.iadd, 1) := by decide +kernel
theorem d_M_act_89 : decode b_M_act 89 = .ok (.putfield 71, 3) := by decide +kernel
theorem d_M_act_92 : decode b_M_act 92 = .ok (.aload_n 0, 1) := by decide +kernel
theorem d_M_act_93 : decode b_M_act 93 = .ok (.iconst 0, 1) := by decide +kernel
theorem d_M_act_94 : decode b_M_act 94 = .ok (.putfield 74, 3) := by decide +kernel
theorem d_M_act_97 : decode b_M_act 97 = .ok (.aload_n 0, 1) := by decide +kernel
theorem d_M_act_98 : decode b_M_act 98 = .ok (.aload_n 0, 1) := by decide +kernel
theorem d_M_act_99 : decode b_M_act 99 = .ok (.getfield 71, 3) := by decide +kernel
theorem d_M_act_102 : decode b_M_act 102 = .ok (.iconst 1, 1) := by decide +kernel
theorem d_M_act_103 : decode b_M_act 103 = .ok (.isub, 1) := by decide +kernel
theorem d_M_act_104 : decode b_M_act 104 = .ok (.invokevirtual 77, 3) := by decide +kernel
theorem d_M_act_107 : decode b_M_act 107 = .ok (.ireturn, 1) := by decide +kernel
theorem d_M_add_0 : decode b_M_add 0 = .ok (.aload_n 0, 1) := by decide +kernel
theorem d_M_add_1 : decode b_M_add 1 = .ok (.getfield 19, 3) := by decide +kernel
theorem d_M_add_4 : decode b_M_add 4 = .ok (.aload_n 0, 1) := by decide +kernel
theorem d_M_add_5 : decode b_M_add 5 = .ok (.getfield 60, 3) := by decide +kernel
theorem d_M_add_8 : decode b_M_add 8 = .ok (.iload_n 1, 1) := by decide +kernel
theorem d_M_add_9 : decode b_M_add 9 = .ok (.iastore, 1) := by decide +kernel
theorem d_M_add_10 : decode b_M_add 10 = .ok (.aload_n 0, 1) := by decide +kernel
theorem d_M_add_11 : decode b_M_add 11 = .ok (.getfield 22, 3) := by decide +kernel
theorem d_M_add_14 : decode b_M_add 14 = .ok (.aload_n 0, 1) := by decide +kernel
theorem d_M_add_15 : decode b_M_add 15 = .ok (.getfield 60, 3) := by decide +kernel
theorem d_M_add_18 : decode b_M_add 18 = .ok (.iload_n 2, 1) := by decide +kernel
theorem d_M_add_19 : decode b_M_add 19 = .ok (.iastore, 1) := by decide +kernel
theorem d_M_add_20 : decode b_M_add 20 = .ok (.aload_n 0, 1) := by decide +kernel
theorem d_M_add_21 : decode b_M_add 21 = .ok (.getfield 25, 3) := by decide +kernel
theorem d_M_add_24 : decode b_M_add 24 = .ok (.aload_n 0, 1) := by decide +kernel
theorem d_M_add_25 : decode b_M_add 25 = .ok (.getfield 60, 3) := by decide +kernel
theorem d_M_add_28 : decode b_M_add 28 = .ok (.iload_n 3, 1) := by decide +kernel
theorem d_M_add_29 : decode b_M_add 29 = .ok (.iastore, 1) := by decide +kernel
theorem d_M_add_30 : decode b_M_add 30 = .ok (.aload_n 0, 1) := by decide +kernel
theorem d_M_add_31 : decode b_M_add 31 = .ok (.getfield 28, 3) := by decide +kernel
theorem d_M_add_34 : decode b_M_add 34 = .ok (.aload_n 0, 1) := by decide +kernel
theorem d_M_add_35 : decode b_M_add 35 = .ok (.getfield 60, 3) := by decide +kernel
theorem d_M_add_38 : decode b_M_add 38 = .ok (.iload 4, 2) := by decide +kernel
theorem d_M_add_40 : decode b_M_add 40 = .ok (.iastore, 1) := by decide +kernel
theorem d_M_add_41 : decode b_M_add 41 = .ok (.aload_n 0, 1) := by decide +kernel
theorem d_M_add_42 : decode b_M_add 42 = .ok (.getfield 31, 3) := by decide +kernel
theorem d_M_add_45 : decode b_M_add 45 = .ok (.aload_n 0, 1) := by decide +kernel
theorem d_M_add_46 : decode b_M_add 46 = .ok (.getfield 60, 3) := by decide +kernel
theorem d_M_add_49 : decode b_M_add 49 = .ok (.iload 5, 2) := by decide +kernel
theorem d_M_add_51 : decode b_M_add 51 = .ok (.iastore, 1) := by decide +kernel
theorem d_M_add_52 : decode b_M_add 52 = .ok (.aload_n 0, 1) := by decide +kernel
theorem d_M_add_53 : decode b_M_add 53 = .ok (.getfield 34, 3) := by decide +kernel
theorem d_M_add_56 : decode b_M_add 56 = .ok (.aload_n 0, 1) := by decide +kernel
theorem d_M_add_57 : decode b_M_add 57 = .ok (.getfield 60, 3) := by decide +kernel
theorem d_M_add_60 : decode b_M_add 60 = .ok (.iload 6, 2) := by decide +kernel
theorem d_M_add_62 : decode b_M_add 62 = .ok (.iastore, 1) := by decide +kernel
theorem d_M_add_63 : decode b_M_add 63 = .ok (.aload_n 0, 1) := by decide +kernel
theorem d_M_add_64 : decode b_M_add 64 = .ok (.getfield 37, 3) := by decide +kernel
theorem d_M_add_67 : decode b_M_add 67 = .ok (.aload_n 0, 1) := by decide +kernel
theorem d_M_add_68 : decode b_M_add 68 = .ok (.getfield 60, 3) := by decide +kernel
theorem d_M_add_71 : decode b_M_add 71 = .ok (.iconst 1, 1) := by decide +kernel
theorem d_M_add_72 : decode b_M_add 72 = .ok (.bastore, 1) := by decide +kernel
theorem d_M_add_73 : decode b_M_add 73 = .ok (.aload_n 0, 1) := by decide +kernel
theorem d_M_add_74 : decode b_M_add 74 = .ok (.dup, 1) := by decide +kernel
theorem d_M_add_75 : decode b_M_add 75 = .ok (.getfield 60, 3) := by decide +kernel
theorem d_M_add_78 : decode b_M_add 78 = .ok (.iconst 1, 1) := by decide +kernel
theorem d_M_add_79 : decode b_M_add 79 = .ok (.iadd, 1) := by decide +kernel
theorem d_M_add_80 : decode b_M_add 80 = .ok (.putfield 60, 3) := by decide +kernel
theorem d_M_add_83 : decode b_M_add 83 = .ok (.aload_n 0, 1) := by decide +kernel
theorem d_M_add_84 : decode b_M_add 84 = .ok (.getfield 60, 3) := by decide +kernel
theorem d_M_add_87 : decode b_M_add 87 = .ok (.iconst 1, 1) := by decide +kernel
theorem d_M_add_88 : decode b_M_add 88 = .ok (.isub, 1) := by decide +kernel
theorem d_M_add_89 : decode b_M_add 89 = .ok (.ireturn, 1) := by decide +kernel
theorem d_M_cut_0 : decode b_M_cut 0 = .ok (.aload_n 0, 1) := by decide +kernel
theorem d_M_cut_1 : decode b_M_cut 1 = .ok (.getfield 41, 3) := by decide +kernel
theorem d_M_cut_4 : decode b_M_cut 4 = .ok (.aload_n 0, 1) := by decide +kernel
theorem d_M_cut_5 : decode b_M_cut 5 = .ok (.getfield 81, 3) := by decide +kernel
theorem d_M_cut_8 : decode b_M_cut 8 = .ok (.iload_n 1, 1) := by decide +kernel
theorem d_M_cut_9 : decode b_M_cut 9 = .ok (.iastore, 1) := by decide +kernel
theorem d_M_cut_10 : decode b_M_cut 10 = .ok (.aload_n 0, 1) := by decide +kernel
theorem d_M_cut_11 : decode b_M_cut 11 = .ok (.getfield 44, 3) := by decide +kernel
theorem d_M_cut_14 : decode b_M_cut 14 = .ok (.aload_n 0, 1) := by decide +kernel
theorem d_M_cut_15 : decode b_M_cut 15 = .ok (.getfield 81, 3) := by decide +kernel
theorem d_M_cut_18 : decode b_M_cut 18 = .ok (.iload_n 2, 1) := by decide +kernel
theorem d_M_cut_19 : decode b_M_cut 19 = .ok (.iastore, 1) := by decide +kernel
theorem d_M_cut_20 : decode b_M_cut 20 = .ok (.aload_n 0, 1) := by decide +kernel
theorem d_M_cut_21 : decode b_M_cut 21 = .ok (.getfield 47, 3) := by decide +kernel
theorem d_M_cut_24 : decode b_M_cut 24 = .ok (.aload_n 0, 1) := by decide +kernel
theorem d_M_cut_25 : decode b_M_cut 25 = .ok (.getfield 81, 3) := by decide +kernel
theorem d_M_cut_28 : decode b_M_cut 28 = .ok (.iload_n 3, 1) := by decide +kernel
theorem d_M_cut_29 : decode b_M_cut 29 = .ok (.iastore, 1) := by decide +kernel
theorem d_M_cut_30 : decode b_M_cut 30 = .ok (.aload_n 0, 1) := by decide +kernel
theorem d_M_cut_31 : decode b_M_cut 31 = .ok (.dup, 1) := by decide +kernel
theorem d_M_cut_32 : decode b_M_cut 32 = .ok (.getfield 81, 3) := by decide +kernel
theorem d_M_cut_35 : decode b_M_cut 35 = .ok (.iconst 1, 1) := by decide +kernel
theorem d_M_cut_36 : decode b_M_cut 36 = .ok (.iadd, 1) := by decide +kernel
theorem d_M_cut_37 : decode b_M_cut 37 = .ok (.putfield 81, 3) := by decide +kernel
theorem d_M_cut_40 : decode b_M_cut 40 = .ok (.aload_n 0, 1) := by decide +kernel
theorem d_M_cut_41 : decode b_M_cut 41 = .ok (.getfield 81, 3) := by decide +kernel
theorem d_M_cut_44 : decode b_M_cut 44 = .ok (.iconst 1, 1) := by decide +kernel
theorem d_M_cut_45 : decode b_M_cut 45 = .ok (.isub, 1) := by decide +kernel
theorem d_M_cut_46 : decode b_M_cut 46 = .ok (.ireturn, 1) := by decide +kernel
theorem d_M_copied_0 : decode b_M_copied 0 = .ok (.aload_n 0, 1) := by decide +kernel
theorem d_M_copied_1 : decode b_M_copied 1 = .ok (.getfield 60, 3) := by decide +kernel
theorem d_M_copied_4 : decode b_M_copied 4 = .ok (.istore_n 3, 1) := by decide +kernel
theorem d_M_copied_5 : decode b_M_copied 5 = .ok (.iconst 0, 1) := by decide +kernel
theorem d_M_copied_6 : decode b_M_copied 6 = .ok (.istore 4, 2) := by decide +kernel
theorem d_M_copied_8 : decode b_M_copied 8 = .ok (.iconst 0, 1) := by decide +kernel
theorem d_M_copied_9 : decode b_M_copied 9 = .ok (.istore 5, 2) := by decide +kernel
theorem d_M_copied_11 : decode b_M_copied 11 = .ok (.iload 5, 2) := by decide +kernel
theorem d_M_copied_13 : decode b_M_copied 13 = .ok (.iload_n 3, 1) := by decide +kernel
theorem d_M_copied_14 : decode b_M_copied 14 = .ok (.if_icmp .ge 130, 3) := by decide +kernel
theorem d_M_copied_17 : decode b_M_copied 17 = .ok (.aload_n 0, 1) := by decide +kernel
theorem d_M_copied_18 : decode b_M_copied 18 = .ok (.getfield 37, 3) := by decide +kernel
theorem d_M_copied_21 : decode b_M_copied 21 = .ok (.iload 5, 2) := by decide +kernel
theorem d_M_copied_23 : decode b_M_copied 23 = .ok (.baload, 1) := by decide +kernel
theorem d_M_copied_24 : decode b_M_copied 24 = .ok (.ifCond .eq 114, 3) := by decide +kernel
theorem d_M_copied_27 : decode b_M_copied 27 = .ok (.aload_n 0, 1) := by decide +kernel
theorem d_M_copied_28 : decode b_M_copied 28 = .ok (.getfield 19, 3) := by decide +kernel
theorem d_M_copied_31 : decode b_M_copied 31 = .ok (.iload 5, 2) := by decide +kernel
theorem d_M_copied_33 : decode b_M_copied 33 = .ok (.iaload, 1) := by decide +kernel
theorem d_M_copied_34 : decode b_M_copied 34 = .ok (.iload_n 1, 1) := by decide +kernel
theorem d_M_copied_35 : decode b_M_copied 35 = .ok (.if_icmp .ne 103, 3) := by decide +kernel
theorem d_M_copied_38 : decode b_M_copied 38 = .ok (.aload_n 0, 1) := by decide +kernel
theorem d_M_copied_39 : decode b_M_copied 39 = .ok (.iload_n 2, 1) := by decide +kernel
theorem d_M_copied_40 : decode b_M_copied 40 = .ok (.aload_n 0, 1) := by decide +kernel
theorem d_M_copied_41 : decode b_M_copied 41 = .ok (.getfield 22, 3) := by decide +kernel
theorem d_M_copied_44 : decode b_M_copied 44 = .ok (.iload 5, 2) := by decide +kernel
theorem d_M_copied_46 : decode b_M_copied 46 = .ok (.iaload, 1) := by decide +kernel
theorem d_M_copied_47 : decode b_M_copied 47 = .ok (.aload_n 0, 1) := by decide +kernel
theorem d_M_copied_48 : decode b_M_copied 48 = .ok (.getfield 25, 3) := by decide +kernel
theorem d_M_copied_51 : decode b_M_copied 51 = .ok (.iload 5, 2) := by decide +kernel
theorem d_M_copied_53 : decode b_M_copied 53 = .ok (.iaload, 1) := by decide +kernel
theorem d_M_copied_54 : decode b_M_copied 54 = .ok (.aload_n 0, 1) := by decide +kernel
theorem d_M_copied_55 : decode b_M_copied 55 = .ok (.getfield 28, 3) := by decide +kernel
theorem d_M_copied_58 : decode b_M_copied 58 = .ok (.iload 5, 2) := by decide +kernel
theorem d_M_copied_60 : decode b_M_copied 60 = .ok (.iaload, 1) := by decide +kernel
theorem d_M_copied_61 : decode b_M_copied 61 = .ok (.aload_n 0, 1) := by decide +kernel
theorem d_M_copied_62 : decode b_M_copied 62 = .ok (.getfield 31, 3) := by decide +kernel
theorem d_M_copied_65 : decode b_M_copied 65 = .ok (.iload 5, 2) := by decide +kernel
theorem d_M_copied_67 : decode b_M_copied 67 = .ok (.iaload, 1) := by decide +kernel
theorem d_M_copied_68 : decode b_M_copied 68 = .ok (.aload_n 0, 1) := by decide +kernel
theorem d_M_copied_69 : decode b_M_copied 69 = .ok (.getfield 34, 3) := by decide +kernel
theorem d_M_copied_72 : decode b_M_copied 72 = .ok (.iload 5, 2) := by decide +kernel
theorem d_M_copied_74 : decode b_M_copied 74 = .ok (.iaload, 1) := by decide +kernel
theorem d_M_copied_75 : decode b_M_copied 75 = .ok (.invokevirtual 84, 3) := by decide +kernel
theorem d_M_copied_78 : decode b_M_copied 78 = .ok (.istore 6, 2) := by decide +kernel
theorem d_M_copied_80 : decode b_M_copied 80 = .ok (.aload_n 0, 1) := by decide +kernel
theorem d_M_copied_81 : decode b_M_copied 81 = .ok (.getfield 81, 3) := by decide +kernel
theorem d_M_copied_84 : decode b_M_copied 84 = .ok (.istore 7, 2) := by decide +kernel
theorem d_M_copied_86 : decode b_M_copied 86 = .ok (.iconst 0, 1) := by decide +kernel
theorem d_M_copied_87 : decode b_M_copied 87 = .ok (.istore 8, 2) := by decide +kernel
theorem d_M_copied_89 : decode b_M_copied 89 = .ok (.iload 8, 2) := by decide +kernel
theorem d_M_copied_91 : decode b_M_copied 91 = .ok (.iload 7, 2) := by decide +kernel
theorem d_M_copied_93 : decode b_M_copied 93 = .ok (.if_icmp .ge 42, 3) := by decide +kernel
theorem d_M_copied_96 : decode b_M_copied 96 = .ok (.aload_n 0, 1) := by decide +kernel
theorem d_M_copied_97 : decode b_M_copied 97 = .ok (.getfield 41, 3) := by decide +kernel
theorem d_M_copied_100 : decode b_M_copied 100 = .ok (.iload 8, 2) := by decide +kernel
theorem d_M_copied_102 : decode b_M_copied 102 = .ok (.iaload, 1) := by decide +kernel
theorem d_M_copied_103 : decode b_M_copied 103 = .ok (.iload 5, 2) := by decide +kernel
theorem d_M_copied_105 : decode b_M_copied 105 = .ok (.if_icmp .ne 24, 3) := by decide +kernel
theorem d_M_copied_108 : decode b_M_copied 108 = .ok (.aload_n 0, 1) := by decide +kernel
theorem d_M_copied_109 : decode b_M_copied 109 = .ok (.iload 6, 2) := by decide +kernel
theorem d_M_copied_111 : decode b_M_copied 111 = .ok (.aload_n 0, 1) := by decide +kernel
theorem d_M_copied_112 : decode b_M_copied 112 = .ok (.getfield 44, 3) := by decide +kernel
theorem d_M_copied_115 : decode b_M_copied 115 = .ok (.iload 8, 2) := by decide +kernel
theorem d_M_copied_117 : decode b_M_copied 117 = .ok (.iaload, 1) := by decide +kernel
theorem d_M_copied_118 : decode b_M_copied 118 = .ok (.aload_n 0, 1) := by decide +kernel
theorem d_M_copied_119 : decode b_M_copied 119 = .ok (.getfield 47, 3) := by decide +kernel
theorem d_M_copied_122 : decode b_M_copied 122 = .ok (.iload 8, 2) := by decide +kernel
theorem d_M_copied_124 : decode b_M_copied 124 = .ok (.iaload, 1) := by decide +kernel
theorem d_M_copied_125 : decode b_M_copied 125 = .ok (.invokevirtual 88, 3) := by decide +kernel
theorem d_M_copied_128 : decode b_M_copied 128 = .ok (.pop, 1) := by decide +kernel
theorem d_M_copied_129 : decode b_M_copied 129 = .ok (.iinc 8 1, 3) := by decide +kernel
theorem d_M_copied_132 : decode b_M_copied 132 = .ok (.goto (-43), 3) := by decide +kernel
theorem d_M_copied_135 : decode b_M_copied 135 = .ok (.iinc 4 1, 3) := by decide +kernel
theorem d_M_copied_138 : decode b_M_copied 138 = .ok (.iinc 5 1, 3) := by decide +kernel
theorem d_M_copied_141 : decode b_M_copied 141 = .ok (.goto (-130), 3) := by decide +kernel
theorem d_M_copied_144 : decode b_M_copied 144 = .ok (.iload 4, 2) := by decide +kernel
theorem d_M_copied_146 : decode b_M_copied 146 = .ok (.ireturn, 1) := by decide +kernel
theorem d_M_draw_0 : decode b_M_draw 0 = .ok (.bipush 7, 2) := by decide +kernel
theorem d_M_draw_2 : decode b_M_draw 2 = .ok (.iload_n 1, 1) := by decide +kernel
theorem d_M_draw_3 : decode b_M_draw 3 = .ok (.imul, 1) := by decide +kernel
theorem d_M_draw_4 : decode b_M_draw 4 = .ok (.istore_n 2, 1) := by decide +kernel
theorem d_M_draw_5 : decode b_M_draw 5 = .ok (.aload_n 0, 1) := by decide +kernel
theorem d_M_draw_6 : decode b_M_draw 6 = .ok (.getfield 7, 3) := by decide +kernel
theorem d_M_draw_9 : decode b_M_draw 9 = .ok (.iload_n 2, 1) := by decide +kernel
theorem d_M_draw_10 : decode b_M_draw 10 = .ok (.iconst 1, 1) := by decide +kernel
theorem d_M_draw_11 : decode b_M_draw 11 = .ok (.iadd, 1) := by decide +kernel
theorem d_M_draw_12 : decode b_M_draw 12 = .ok (.iaload, 1) := by decide +kernel
theorem d_M_draw_13 : decode b_M_draw 13 = .ok (.istore_n 3, 1) := by decide +kernel
theorem d_M_draw_14 : decode b_M_draw 14 = .ok (.aload_n 0, 1) := by decide +kernel
theorem d_M_draw_15 : decode b_M_draw 15 = .ok (.getfield 7, 3) := by decide +kernel
theorem d_M_draw_18 : decode b_M_draw 18 = .ok (.iload_n 2, 1) := by decide +kernel
theorem d_M_draw_19 : decode b_M_draw 19 = .ok (.iconst 2, 1) := by decide +kernel
theorem d_M_draw_20 : decode b_M_draw 20 = .ok (.iadd, 1) := by decide +kernel
theorem d_M_draw_21 : decode b_M_draw 21 = .ok (.iaload, 1) := by decide +kernel
theorem d_M_draw_22 : decode b_M_draw 22 = .ok (.istore 4, 2) := by decide +kernel
theorem d_M_draw_24 : decode b_M_draw 24 = .ok (.aload_n 0, 1) := by decide +kernel
theorem d_M_draw_25 : decode b_M_draw 25 = .ok (.getfield 7, 3) := by decide +kernel
theorem d_M_draw_28 : decode b_M_draw 28 = .ok (.iload_n 2, 1) := by decide +kernel
theorem d_M_draw_29 : decode b_M_draw 29 = .ok (.iconst 3, 1) := by decide +kernel
theorem d_M_draw_30 : decode b_M_draw 30 = .ok (.iadd, 1) := by decide +kernel
theorem d_M_draw_31 : decode b_M_draw 31 = .ok (.iaload, 1) := by decide +kernel
theorem d_M_draw_32 : decode b_M_draw 32 = .ok (.istore 5, 2) := by decide +kernel
theorem d_M_draw_34 : decode b_M_draw 34 = .ok (.aload_n 0, 1) := by decide +kernel
theorem d_M_draw_35 : decode b_M_draw 35 = .ok (.getfield 7, 3) := by decide +kernel
theorem d_M_draw_38 : decode b_M_draw 38 = .ok (.iload_n 2, 1) := by decide +kernel
theorem d_M_draw_39 : decode b_M_draw 39 = .ok (.iaload, 1) := by decide +kernel
theorem d_M_draw_40 : decode b_M_draw 40 = .ok (.tableswitch 236 0 8 #[52, 79, 89, 116, 126, 161, 207, 217, 226], 52) := by decide +kernel
theorem d_M_draw_92 : decode b_M_draw 92 = .ok (.aload_n 0, 1) := by decide +kernel
theorem d_M_draw_93 : decode b_M_draw 93 = .ok (.getfield 13, 3) := by decide +kernel
theorem d_M_draw_96 : decode b_M_draw 96 = .ok (.aload_n 0, 1) := by decide +kernel
theorem d_M_draw_97 : decode b_M_draw 97 = .ok (.getfield 54, 3) := by decide +kernel
theorem d_M_draw_100 : decode b_M_draw 100 = .ok (.iload_n 3, 1) := by decide +kernel
theorem d_M_draw_101 : decode b_M_draw 101 = .ok (.iastore, 1) := by decide +kernel
theorem d_M_draw_102 : decode b_M_draw 102 = .ok (.aload_n 0, 1) := by decide +kernel
theorem d_M_draw_103 : decode b_M_draw 103 = .ok (.dup, 1) := by decide +kernel
theorem d_M_draw_104 : decode b_M_draw 104 = .ok (.getfield 54, 3) := by decide +kernel
theorem d_M_draw_107 : decode b_M_draw 107 = .ok (.iconst 1, 1) := by decide +kernel
theorem d_M_draw_108 : decode b_M_draw 108 = .ok (.iadd, 1) := by decide +kernel
theorem d_M_draw_109 : decode b_M_draw 109 = .ok (.putfield 54, 3) := by decide +kernel
theorem d_M_draw_112 : decode b_M_draw 112 = .ok (.aload_n 0, 1) := by decide +kernel
theorem d_M_draw_113 : decode b_M_draw 113 = .ok (.getfield 54, 3) := by decide +kernel
theorem d_M_draw_116 : decode b_M_draw 116 = .ok (.iconst 1, 1) := by decide +kernel
theorem d_M_draw_117 : decode b_M_draw 117 = .ok (.isub, 1) := by decide +kernel
theorem d_M_draw_118 : decode b_M_draw 118 = .ok (.ireturn, 1) := by decide +kernel
theorem d_M_draw_119 : decode b_M_draw 119 = .ok (.aload_n 0, 1) := by decide +kernel
theorem d_M_draw_120 : decode b_M_draw 120 = .ok (.getfield 13, 3) := by decide +kernel
theorem d_M_draw_123 : decode b_M_draw 123 = .ok (.iload_n 3, 1) := by decide +kernel
theorem d_M_draw_124 : decode b_M_draw 124 = .ok (.iload 4, 2) := by decide +kernel
theorem d_M_draw_126 : decode b_M_draw 126 = .ok (.iastore, 1) := by decide +kernel
theorem d_M_draw_127 : decode b_M_draw 127 = .ok (.iconst 0, 1) := by decide +kernel
theorem d_M_draw_128 : decode b_M_draw 128 = .ok (.ireturn, 1) := by decide +kernel
theorem d_M_draw_129 : decode b_M_draw 129 = .ok (.aload_n 0, 1) := by decide +kernel
theorem d_M_draw_130 : decode b_M_draw 130 = .ok (.getfield 16, 3) := by decide +kernel
theorem d_M_draw_133 : decode b_M_draw 133 = .ok (.aload_n 0, 1) := by decide +kernel
theorem d_M_draw_134 : decode b_M_draw 134 = .ok (.getfield 57, 3) := by decide +kernel
theorem d_M_draw_137 : decode b_M_draw 137 = .ok (.iload_n 3, 1) := by decide +kernel
theorem d_M_draw_138 : decode b_M_draw 138 = .ok (.iastore, 1) := by decide +kernel
theorem d_M_draw_139 : decode b_M_draw 139 = .ok (.aload_n 0, 1) := by decide +kernel
theorem d_M_draw_140 : decode b_M_draw 140 = .ok (.dup, 1) := by decide +kernel
theorem d_M_draw_141 : decode b_M_draw 141 = .ok (.getfield 57, 3) := by decide +kernel
theorem d_M_draw_144 : decode b_M_draw 144 = .ok (.iconst 1, 1) := by decide +kernel
theorem d_M_draw_145 : decode b_M_draw 145 = .ok (.iadd, 1) := by decide +kernel
theorem d_M_draw_146 : decode b_M_draw 146 = .ok (.putfield 57, 3) := by decide +kernel
theorem d_M_draw_149 : decode b_M_draw 149 = .ok (.aload_n 0, 1) := by decide +kernel
theorem d_M_draw_150 : decode b_M_draw 150 = .ok (.getfield 57, 3) := by decide +kernel
theorem d_M_draw_153 : decode b_M_draw 153 = .ok (.iconst 1, 1) := by decide +kernel
theorem d_M_draw_154 : decode b_M_draw 154 = .ok (.isub, 1) := by decide +kernel
theorem d_M_draw_155 : decode b_M_draw 155 = .ok (.ireturn, 1) := by decide +kernel
theorem d_M_draw_156 : decode b_M_draw 156 = .ok (.aload_n 0, 1) := by decide +kernel
theorem d_M_draw_157 : decode b_M_draw 157 = .ok (.getfield 16, 3) := by decide +kernel
theorem d_M_draw_160 : decode b_M_draw 160 = .ok (.iload_n 3, 1) := by decide +kernel
theorem d_M_draw_161 : decode b_M_draw 161 = .ok (.iload 4, 2) := by decide +kernel
theorem d_M_draw_163 : decode b_M_draw 163 = .ok (.iastore, 1) := by decide +kernel
theorem d_M_draw_164 : decode b_M_draw 164 = .ok (.iconst 0, 1) := by decide +kernel
theorem d_M_draw_165 : decode b_M_draw 165 = .ok (.ireturn, 1) := by decide +kernel
theorem d_M_draw_166 : decode b_M_draw 166 = .ok (.aload_n 0, 1) := by decide +kernel
theorem d_M_draw_167 : decode b_M_draw 167 = .ok (.iload_n 3, 1) := by decide +kernel
theorem d_M_draw_168 : decode b_M_draw 168 = .ok (.iload 4, 2) := by decide +kernel
theorem d_M_draw_170 : decode b_M_draw 170 = .ok (.iload 5, 2) := by decide +kernel
theorem d_M_draw_172 : decode b_M_draw 172 = .ok (.aload_n 0, 1) := by decide +kernel
theorem d_M_draw_173 : decode b_M_draw 173 = .ok (.getfield 7, 3) := by decide +kernel
theorem d_M_draw_176 : decode b_M_draw 176 = .ok (.iload_n 2, 1) := by decide +kernel
theorem d_M_draw_177 : decode b_M_draw 177 = .ok (.iconst 4, 1) := by decide +kernel
theorem d_M_draw_178 : decode b_M_draw 178 = .ok (.iadd, 1) := by decide +kernel
theorem d_M_draw_179 : decode b_M_draw 179 = .ok (.iaload, 1) := by decide +kernel
theorem d_M_draw_180 : decode b_M_draw 180 = .ok (.aload_n 0, 1) := by decide +kernel
theorem d_M_draw_181 : decode b_M_draw 181 = .ok (.getfield 7, 3) := by decide +kernel
theorem d_M_draw_184 : decode b_M_draw 184 = .ok (.iload_n 2, 1) := by decide +kernel
theorem d_M_draw_185 : decode b_M_draw 185 = .ok (.iconst 5, 1) := by decide +kernel
theorem d_M_draw_186 : decode b_M_draw 186 = .ok (.iadd, 1) := by decide +kernel
theorem d_M_draw_187 : decode b_M_draw 187 = .ok (.iaload, 1) := by decide +kernel
theorem d_M_draw_188 : decode b_M_draw 188 = .ok (.aload_n 0, 1) := by decide +kernel
theorem d_M_draw_189 : decode b_M_draw 189 = .ok (.getfield 7, 3) := by decide +kernel
theorem d_M_draw_192 : decode b_M_draw 192 = .ok (.iload_n 2, 1) := by decide +kernel
theorem d_M_draw_193 : decode b_M_draw 193 = .ok (.bipush 6, 2) := by decide +kernel
theorem d_M_draw_195 : decode b_M_draw 195 = .ok (.iadd, 1) := by decide +kernel
theorem d_M_draw_196 : decode b_M_draw 196 = .ok (.iaload, 1) := by decide +kernel
theorem d_M_draw_197 : decode b_M_draw 197 = .ok (.invokevirtual 84, 3) := by decide +kernel
theorem d_M_draw_200 : decode b_M_draw 200 = .ok (.ireturn, 1) := by decide +kernel
theorem d_M_draw_201 : decode b_M_draw 201 = .ok (.aload_n 0, 1) := by decide +kernel
theorem d_M_draw_202 : decode b_M_draw 202 = .ok (.getfield 25, 3) := by decide +kernel
theorem d_M_draw_205 : decode b_M_draw 205 = .ok (.iload_n 3, 1) := by decide +kernel
theorem d_M_draw_206 : decode b_M_draw 206 = .ok (.dup2, 1) := by decide +kernel
theorem d_M_draw_207 : decode b_M_draw 207 = .ok (.iaload, 1) := by decide +kernel
theorem d_M_draw_208 : decode b_M_draw 208 = .ok (.iload 4, 2) := by decide +kernel
theorem d_M_draw_210 : decode b_M_draw 210 = .ok (.iadd, 1) := by decide +kernel
theorem d_M_draw_211 : decode b_M_draw 211 = .ok (.iastore, 1) := by decide +kernel
theorem d_M_draw_212 : decode b_M_draw 212 = .ok (.aload_n 0, 1) := by decide +kernel
theorem d_M_draw_213 : decode b_M_draw 213 = .ok (.getfield 31, 3) := by decide +kernel
theorem d_M_draw_216 : decode b_M_draw 216 = .ok (.iload_n 3, 1) := by decide +kernel
theorem d_M_draw_217 : decode b_M_draw 217 = .ok (.dup2, 1) := by decide +kernel
theorem d_M_draw_218 : decode b_M_draw 218 = .ok (.iaload, 1) := by decide +kernel
theorem d_M_draw_219 : decode b_M_draw 219 = .ok (.iload 4, 2) := by decide +kernel
theorem d_M_draw_221 : decode b_M_draw 221 = .ok (.iadd, 1) := by decide +kernel
theorem d_M_draw_222 : decode b_M_draw 222 = .ok (.iastore, 1) := by decide +kernel
theorem d_M_draw_223 : decode b_M_draw 223 = .ok (.aload_n 0, 1) := by decide +kernel
theorem d_M_draw_224 : decode b_M_draw 224 = .ok (.getfield 28, 3) := by decide +kernel
theorem d_M_draw_227 : decode b_M_draw 227 = .ok (.iload_n 3, 1) := by decide +kernel
theorem d_M_draw_228 : decode b_M_draw 228 = .ok (.dup2, 1) := by decide +kernel
theorem d_M_draw_229 : decode b_M_draw 229 = .ok (.iaload, 1) := by decide +kernel
theorem d_M_draw_230 : decode b_M_draw 230 = .ok (.iload 5, 2) := by decide +kernel
theorem d_M_draw_232 : decode b_M_draw 232 = .ok (.iadd, 1) := by decide +kernel
theorem d_M_draw_233 : decode b_M_draw 233 = .ok (.iastore, 1) := by decide +kernel
theorem d_M_draw_234 : decode b_M_draw 234 = .ok (.aload_n 0, 1) := by decide +kernel
theorem d_M_draw_235 : decode b_M_draw 235 = .ok (.getfield 34, 3) := by decide +kernel
theorem d_M_draw_238 : decode b_M_draw 238 = .ok (.iload_n 3, 1) := by decide +kernel
theorem d_M_draw_239 : decode b_M_draw 239 = .ok (.dup2, 1) := by decide +kernel
theorem d_M_draw_240 : decode b_M_draw 240 = .ok (.iaload, 1) := by decide +kernel
theorem d_M_draw_241 : decode b_M_draw 241 = .ok (.iload 5, 2) := by decide +kernel
theorem d_M_draw_243 : decode b_M_draw 243 = .ok (.iadd, 1) := by decide +kernel
theorem d_M_draw_244 : decode b_M_draw 244 = .ok (.iastore, 1) := by decide +kernel
theorem d_M_draw_245 : decode b_M_draw 245 = .ok (.iconst 0, 1) := by decide +kernel
theorem d_M_draw_246 : decode b_M_draw 246 = .ok (.ireturn, 1) := by decide +kernel
theorem d_M_draw_247 : decode b_M_draw 247 = .ok (.aload_n 0, 1) := by decide +kernel
theorem d_M_draw_248 : decode b_M_draw 248 = .ok (.getfield 22, 3) := by decide +kernel
theorem d_M_draw_251 : decode b_M_draw 251 = .ok (.iload_n 3, 1) := by decide +kernel
theorem d_M_draw_252 : decode b_M_draw 252 = .ok (.iload 4, 2) := by decide +kernel
theorem d_M_draw_254 : decode b_M_draw 254 = .ok (.iastore, 1) := by decide +kernel
theorem d_M_draw_255 : decode b_M_draw 255 = .ok (.iconst 0, 1) := by decide +kernel
theorem d_M_draw_256 : decode b_M_draw 256 = .ok (.ireturn, 1) := by decide +kernel
theorem d_M_draw_257 : decode b_M_draw 257 = .ok (.aload_n 0, 1) := by decide +kernel
theorem d_M_draw_258 : decode b_M_draw 258 = .ok (.getfield 37, 3) := by decide +kernel
theorem d_M_draw_261 : decode b_M_draw 261 = .ok (.iload_n 3, 1) := by decide +kernel
theorem d_M_draw_262 : decode b_M_draw 262 = .ok (.iconst 0, 1) := by decide +kernel
theorem d_M_draw_263 : decode b_M_draw 263 = .ok (.bastore, 1) := by decide +kernel
theorem d_M_draw_264 : decode b_M_draw 264 = .ok (.iconst 0, 1) := by decide +kernel
theorem d_M_draw_265 : decode b_M_draw 265 = .ok (.ireturn, 1) := by decide +kernel
theorem d_M_draw_266 : decode b_M_draw 266 = .ok (.aload_n 0, 1) := by decide +kernel
theorem d_M_draw_267 : decode b_M_draw 267 = .ok (.iload_n 3, 1) := by decide +kernel
theorem d_M_draw_268 : decode b_M_draw 268 = .ok (.iload 4, 2) := by decide +kernel
theorem d_M_draw_270 : decode b_M_draw 270 = .ok (.iload 5, 2) := by decide +kernel
theorem d_M_draw_272 : decode b_M_draw 272 = .ok (.invokevirtual 88, 3) := by decide +kernel
theorem d_M_draw_275 : decode b_M_draw 275 = .ok (.ireturn, 1) := by decide +kernel
theorem d_M_draw_276 : decode b_M_draw 276 = .ok (.aload_n 0, 1) := by decide +kernel
theorem d_M_draw_277 : decode b_M_draw 277 = .ok (.iload_n 3, 1) := by decide +kernel
theorem d_M_draw_278 : decode b_M_draw 278 = .ok (.iload 4, 2) := by decide +kernel
theorem d_M_draw_280 : decode b_M_draw 280 = .ok (.invokevirtual 92, 3) := by decide +kernel
theorem d_M_draw_283 : decode b_M_draw 283 = .ok (.ireturn, 1) := by decide +kernel
theorem d_M_storey_0 : decode b_M_storey 0 = .ok (.iload_n 1, 1) := by decide +kernel
theorem d_M_storey_1 : decode b_M_storey 1 = .ok (.i2l, 1) := by decide +kernel
theorem d_M_storey_2 : decode b_M_storey 2 = .ok (.ldc2_w 63, 3) := by decide +kernel
theorem d_M_storey_5 : decode b_M_storey 5 = .ok (.ldc2_w 96, 3) := by decide +kernel
theorem d_M_storey_8 : decode b_M_storey 8 = .ok (.invokestatic 67, 3) := by decide +kernel
theorem d_M_storey_11 : decode b_M_storey 11 = .ok (.ifCond .eq 29, 3) := by decide +kernel
theorem d_M_storey_14 : decode b_M_storey 14 = .ok (.aload_n 0, 1) := by decide +kernel
theorem d_M_storey_15 : decode b_M_storey 15 = .ok (.getfield 54, 3) := by decide +kernel
theorem d_M_storey_18 : decode b_M_storey 18 = .ok (.ifCond .eq 18, 3) := by decide +kernel
theorem d_M_storey_21 : decode b_M_storey 21 = .ok (.iload_n 1, 1) := by decide +kernel
theorem d_M_storey_22 : decode b_M_storey 22 = .ok (.aload_n 0, 1) := by decide +kernel
theorem d_M_storey_23 : decode b_M_storey 23 = .ok (.getfield 13, 3) := by decide +kernel
theorem d_M_storey_26 : decode b_M_storey 26 = .ok (.aload_n 0, 1) := by decide +kernel
theorem d_M_storey_27 : decode b_M_storey 27 = .ok (.getfield 54, 3) := by decide +kernel
theorem d_M_storey_30 : decode b_M_storey 30 = .ok (.iconst 1, 1) := by decide +kernel
theorem d_M_storey_31 : decode b_M_storey 31 = .ok (.isub, 1) := by decide +kernel
theorem d_M_storey_32 : decode b_M_storey 32 = .ok (.iaload, 1) := by decide +kernel
theorem d_M_storey_33 : decode b_M_storey 33 = .ok (.if_icmp .le 7, 3) := by decide +kernel
theorem d_M_storey_36 : decode b_M_storey 36 = .ok (.iconst 1, 1) := by decide +kernel
theorem d_M_storey_37 : decode b_M_storey 37 = .ok (.goto 4, 3) := by decide +kernel
theorem d_M_storey_40 : decode b_M_storey 40 = .ok (.iconst 0, 1) := by decide +kernel
theorem d_M_storey_41 : decode b_M_storey 41 = .ok (.istore_n 2, 1) := by decide +kernel
theorem d_M_storey_42 : decode b_M_storey 42 = .ok (.aload_n 0, 1) := by decide +kernel
theorem d_M_storey_43 : decode b_M_storey 43 = .ok (.iload_n 2, 1) := by decide +kernel
theorem d_M_storey_44 : decode b_M_storey 44 = .ok (.aload_n 0, 1) := by decide +kernel
theorem d_M_storey_45 : decode b_M_storey 45 = .ok (.getfield 54, 3) := by decide +kernel
theorem d_M_storey_48 : decode b_M_storey 48 = .ok (.bipush 6, 2) := by decide +kernel
theorem d_M_storey_50 : decode b_M_storey 50 = .ok (.if_icmp .ge 7, 3) := by decide +kernel
theorem d_M_storey_53 : decode b_M_storey 53 = .ok (.iconst 1, 1) := by decide +kernel
theorem d_M_storey_54 : decode b_M_storey 54 = .ok (.goto 4, 3) := by decide +kernel
theorem d_M_storey_57 : decode b_M_storey 57 = .ok (.iconst 0, 1) := by decide +kernel
theorem d_M_storey_58 : decode b_M_storey 58 = .ok (.invokevirtual 98, 3) := by decide +kernel
theorem d_M_storey_61 : decode b_M_storey 61 = .ok (.ifCond .eq 17, 3) := by decide +kernel
theorem d_M_storey_64 : decode b_M_storey 64 = .ok (.aload_n 0, 1) := by decide +kernel
theorem d_M_storey_65 : decode b_M_storey 65 = .ok (.iconst 0, 1) := by decide +kernel
theorem d_M_storey_66 : decode b_M_storey 66 = .ok (.iload_n 1, 1) := by decide +kernel
theorem d_M_storey_67 : decode b_M_storey 67 = .ok (.iconst 0, 1) := by decide +kernel
theorem d_M_storey_68 : decode b_M_storey 68 = .ok (.iconst 0, 1) := by decide +kernel
theorem d_M_storey_69 : decode b_M_storey 69 = .ok (.iconst 0, 1) := by decide +kernel
theorem d_M_storey_70 : decode b_M_storey 70 = .ok (.iconst 0, 1) := by decide +kernel
theorem d_M_storey_71 : decode b_M_storey 71 = .ok (.iconst 0, 1) := by decide +kernel
theorem d_M_storey_72 : decode b_M_storey 72 = .ok (.invokevirtual 102, 3) := by decide +kernel
theorem d_M_storey_75 : decode b_M_storey 75 = .ok (.goto 4, 3) := by decide +kernel
theorem d_M_storey_78 : decode b_M_storey 78 = .ok (.iconst 0, 1) := by decide +kernel
theorem d_M_storey_79 : decode b_M_storey 79 = .ok (.ireturn, 1) := by decide +kernel
theorem d_M_level_0 : decode b_M_level 0 = .ok (.aload_n 0, 1) := by decide +kernel
theorem d_M_level_1 : decode b_M_level 1 = .ok (.iload_n 1, 1) := by decide +kernel
theorem d_M_level_2 : decode b_M_level 2 = .ok (.invokevirtual 106, 3) := by decide +kernel
theorem d_M_level_5 : decode b_M_level 5 = .ok (.ifCond .eq 21, 3) := by decide +kernel
theorem d_M_level_8 : decode b_M_level 8 = .ok (.iload_n 2, 1) := by decide +kernel
theorem d_M_level_9 : decode b_M_level 9 = .ok (.i2l, 1) := by decide +kernel
theorem d_M_level_10 : decode b_M_level 10 = .ok (.ldc2_w 63, 3) := by decide +kernel
theorem d_M_level_13 : decode b_M_level 13 = .ok (.ldc2_w 96, 3) := by decide +kernel
theorem d_M_level_16 : decode b_M_level 16 = .ok (.invokestatic 67, 3) := by decide +kernel
theorem d_M_level_19 : decode b_M_level 19 = .ok (.ifCond .eq 7, 3) := by decide +kernel
theorem d_M_level_22 : decode b_M_level 22 = .ok (.iconst 1, 1) := by decide +kernel
theorem d_M_level_23 : decode b_M_level 23 = .ok (.goto 4, 3) := by decide +kernel
theorem d_M_level_26 : decode b_M_level 26 = .ok (.iconst 0, 1) := by decide +kernel
theorem d_M_level_27 : decode b_M_level 27 = .ok (.istore_n 3, 1) := by decide +kernel
theorem d_M_level_28 : decode b_M_level 28 = .ok (.iload_n 3, 1) := by decide +kernel
theorem d_M_level_29 : decode b_M_level 29 = .ok (.ifCond .eq 45, 3) := by decide +kernel
theorem d_M_level_32 : decode b_M_level 32 = .ok (.iload_n 1, 1) := by decide +kernel
theorem d_M_level_33 : decode b_M_level 33 = .ok (.ifCond .eq 15, 3) := by decide +kernel
theorem d_M_level_36 : decode b_M_level 36 = .ok (.iload_n 2, 1) := by decide +kernel
theorem d_M_level_37 : decode b_M_level 37 = .ok (.aload_n 0, 1) := by decide +kernel
theorem d_M_level_38 : decode b_M_level 38 = .ok (.getfield 13, 3) := by decide +kernel
theorem d_M_level_41 : decode b_M_level 41 = .ok (.iload_n 1, 1) := by decide +kernel
theorem d_M_level_42 : decode b_M_level 42 = .ok (.iconst 1, 1) := by decide +kernel
theorem d_M_level_43 : decode b_M_level 43 = .ok (.isub, 1) := by decide +kernel
theorem d_M_level_44 : decode b_M_level 44 = .ok (.iaload, 1) := by decide +kernel
theorem d_M_level_45 : decode b_M_level 45 = .ok (.if_icmp .le 29, 3) := by decide +kernel
theorem d_M_level_48 : decode b_M_level 48 = .ok (.iload_n 1, 1) := by decide +kernel
theorem d_M_level_49 : decode b_M_level 49 = .ok (.iconst 1, 1) := by decide +kernel
theorem d_M_level_50 : decode b_M_level 50 = .ok (.iadd, 1) := by decide +kernel
theorem d_M_level_51 : decode b_M_level 51 = .ok (.aload_n 0, 1) := by decide +kernel
theorem d_M_level_52 : decode b_M_level 52 = .ok (.getfield 54, 3) := by decide +kernel
theorem d_M_level_55 : decode b_M_level 55 = .ok (.if_icmp .ge 15, 3) := by decide +kernel
theorem d_M_level_58 : decode b_M_level 58 = .ok (.iload_n 2, 1) := by decide +kernel
theorem d_M_level_59 : decode b_M_level 59 = .ok (.aload_n 0, 1) := by decide +kernel
theorem d_M_level_60 : decode b_M_level 60 = .ok (.getfield 13, 3) := by decide +kernel
theorem d_M_level_63 : decode b_M_level 63 = .ok (.iload_n 1, 1) := by decide +kernel
theorem d_M_level_64 : decode b_M_level 64 = .ok (.iconst 1, 1) := by decide +kernel
theorem d_M_level_65 : decode b_M_level 65 = .ok (.iadd, 1) := by decide +kernel
theorem d_M_level_66 : decode b_M_level 66 = .ok (.iaload, 1) := by decide +kernel
theorem d_M_level_67 : decode b_M_level 67 = .ok (.if_icmp .ge 7, 3) := by decide +kernel
theorem d_M_level_70 : decode b_M_level 70 = .ok (.iconst 1, 1) := by decide +kernel
theorem d_M_level_71 : decode b_M_level 71 = .ok (.goto 4, 3) := by decide +kernel
theorem d_M_level_74 : decode b_M_level 74 = .ok (.iconst 0, 1) := by decide +kernel
theorem d_M_level_75 : decode b_M_level 75 = .ok (.istore_n 3, 1) := by decide +kernel
theorem d_M_level_76 : decode b_M_level 76 = .ok (.aload_n 0, 1) := by decide +kernel
theorem d_M_level_77 : decode b_M_level 77 = .ok (.iload_n 3, 1) := by decide +kernel
theorem d_M_level_78 : decode b_M_level 78 = .ok (.iconst 1, 1) := by decide +kernel
theorem d_M_level_79 : decode b_M_level 79 = .ok (.invokevirtual 98, 3) := by decide +kernel
theorem d_M_level_82 : decode b_M_level 82 = .ok (.ifCond .eq 15, 3) := by decide +kernel
theorem d_M_level_85 : decode b_M_level 85 = .ok (.aload_n 0, 1) := by decide +kernel
theorem d_M_level_86 : decode b_M_level 86 = .ok (.iconst 1, 1) := by decide +kernel
theorem d_M_level_87 : decode b_M_level 87 = .ok (.iload_n 1, 1) := by decide +kernel
theorem d_M_level_88 : decode b_M_level 88 = .ok (.iload_n 2, 1) := by decide +kernel
theorem d_M_level_89 : decode b_M_level 89 = .ok (.iconst 0, 1) := by decide +kernel
theorem d_M_level_90 : decode b_M_level 90 = .ok (.iconst 0, 1) := by decide +kernel
theorem d_M_level_91 : decode b_M_level 91 = .ok (.iconst 0, 1) := by decide +kernel
theorem d_M_level_92 : decode b_M_level 92 = .ok (.iconst 0, 1) := by decide +kernel
theorem d_M_level_93 : decode b_M_level 93 = .ok (.invokevirtual 102, 3) := by decide +kernel
theorem d_M_level_96 : decode b_M_level 96 = .ok (.pop, 1) := by decide +kernel
theorem d_M_level_97 : decode b_M_level 97 = .ok (.return_, 1) := by decide +kernel
theorem d_M_type_0 : decode b_M_type 0 = .ok (.aload_n 0, 1) := by decide +kernel
theorem d_M_type_1 : decode b_M_type 1 = .ok (.iload_n 1, 1) := by decide +kernel
theorem d_M_type_2 : decode b_M_type 2 = .ok (.invokestatic 110, 3) := by decide +kernel
theorem d_M_type_5 : decode b_M_type 5 = .ok (.aload_n 0, 1) := by decide +kernel
theorem d_M_type_6 : decode b_M_type 6 = .ok (.getfield 57, 3) := by decide +kernel
theorem d_M_type_9 : decode b_M_type 9 = .ok (.bipush 8, 2) := by decide +kernel
theorem d_M_type_11 : decode b_M_type 11 = .ok (.if_icmp .ge 7, 3) := by decide +kernel
theorem d_M_type_14 : decode b_M_type 14 = .ok (.iconst 1, 1) := by decide +kernel
theorem d_M_type_15 : decode b_M_type 15 = .ok (.goto 4, 3) := by decide +kernel
theorem d_M_type_18 : decode b_M_type 18 = .ok (.iconst 0, 1) := by decide +kernel
theorem d_M_type_19 : decode b_M_type 19 = .ok (.invokevirtual 98, 3) := by decide +kernel
theorem d_M_type_22 : decode b_M_type 22 = .ok (.ifCond .eq 17, 3) := by decide +kernel
theorem d_M_type_25 : decode b_M_type 25 = .ok (.aload_n 0, 1) := by decide +kernel
theorem d_M_type_26 : decode b_M_type 26 = .ok (.iconst 2, 1) := by decide +kernel
theorem d_M_type_27 : decode b_M_type 27 = .ok (.iload_n 1, 1) := by decide +kernel
theorem d_M_type_28 : decode b_M_type 28 = .ok (.iconst 0, 1) := by decide +kernel
theorem d_M_type_29 : decode b_M_type 29 = .ok (.iconst 0, 1) := by decide +kernel
theorem d_M_type_30 : decode b_M_type 30 = .ok (.iconst 0, 1) := by decide +kernel
theorem d_M_type_31 : decode b_M_type 31 = .ok (.iconst 0, 1) := by decide +kernel
theorem d_M_type_32 : decode b_M_type 32 = .ok (.iconst 0, 1) := by decide +kernel
theorem d_M_type_33 : decode b_M_type 33 = .ok (.invokevirtual 102, 3) := by decide +kernel
theorem d_M_type_36 : decode b_M_type 36 = .ok (.goto 4, 3) := by decide +kernel
theorem d_M_type_39 : decode b_M_type 39 = .ok (.iconst 0, 1) := by decide +kernel
theorem d_M_type_40 : decode b_M_type 40 = .ok (.ireturn, 1) := by decide +kernel
theorem d_M_thickness_0 : decode b_M_thickness 0 = .ok (.aload_n 0, 1) := by decide +kernel
theorem d_M_thickness_1 : decode b_M_thickness 1 = .ok (.aload_n 0, 1) := by decide +kernel
theorem d_M_thickness_2 : decode b_M_thickness 2 = .ok (.iload_n 1, 1) := by decide +kernel
theorem d_M_thickness_3 : decode b_M_thickness 3 = .ok (.invokevirtual 113, 3) := by decide +kernel
theorem d_M_thickness_6 : decode b_M_thickness 6 = .ok (.ifCond .eq 14, 3) := by decide +kernel
theorem d_M_thickness_9 : decode b_M_thickness 9 = .ok (.iload_n 2, 1) := by decide +kernel
theorem d_M_thickness_10 : decode b_M_thickness 10 = .ok (.invokestatic 110, 3) := by decide +kernel
theorem d_M_thickness_13 : decode b_M_thickness 13 = .ok (.ifCond .eq 7, 3) := by decide +kernel
theorem d_M_thickness_16 : decode b_M_thickness 16 = .ok (.iconst 1, 1) := by decide +kernel
theorem d_M_thickness_17 : decode b_M_thickness 17 = .ok (.goto 4, 3) := by decide +kernel
theorem d_M_thickness_20 : decode b_M_thickness 20 = .ok (.iconst 0, 1) := by decide +kernel
theorem d_M_thickness_21 : decode b_M_thickness 21 = .ok (.iconst 1, 1) := by decide +kernel
theorem d_M_thickness_22 : decode b_M_thickness 22 = .ok (.invokevirtual 98, 3) := by decide +kernel
theorem d_M_thickness_25 : decode b_M_thickness 25 = .ok (.ifCond .eq 15, 3) := by decide +kernel
theorem d_M_thickness_28 : decode b_M_thickness 28 = .ok (.aload_n 0, 1) := by decide +kernel
theorem d_M_thickness_29 : decode b_M_thickness 29 = .ok (.iconst 3, 1) := by decide +kernel
theorem d_M_thickness_30 : decode b_M_thickness 30 = .ok (.iload_n 1, 1) := by decide +kernel
theorem d_M_thickness_31 : decode b_M_thickness 31 = .ok (.iload_n 2, 1) := by decide +kernel
theorem d_M_thickness_32 : decode b_M_thickness 32 = .ok (.iconst 0, 1) := by decide +kernel
theorem d_M_thickness_33 : decode b_M_thickness 33 = .ok (.iconst 0, 1) := by decide +kernel
theorem d_M_thickness_34 : decode b_M_thickness 34 = .ok (.iconst 0, 1) := by decide +kernel
theorem d_M_thickness_35 : decode b_M_thickness 35 = .ok (.iconst 0, 1) := by decide +kernel
theorem d_M_thickness_36 : decode b_M_thickness 36 = .ok (.invokevirtual 102, 3) := by decide +kernel
theorem d_M_thickness_39 : decode b_M_thickness 39 = .ok (.pop, 1) := by decide +kernel
theorem d_M_thickness_40 : decode b_M_thickness 40 = .ok (.return_, 1) := by decide +kernel
theorem d_M_wall_0 : decode b_M_wall 0 = .ok (.aload_n 0, 1) := by decide +kernel
theorem d_M_wall_1 : decode b_M_wall 1 = .ok (.iload_n 1, 1) := by decide +kernel
theorem d_M_wall_2 : decode b_M_wall 2 = .ok (.invokevirtual 106, 3) := by decide +kernel
theorem d_M_wall_5 : decode b_M_wall 5 = .ok (.ifCond .eq 64, 3) := by decide +kernel
theorem d_M_wall_8 : decode b_M_wall 8 = .ok (.aload_n 0, 1) := by decide +kernel
theorem d_M_wall_9 : decode b_M_wall 9 = .ok (.iload_n 2, 1) := by decide +kernel
theorem d_M_wall_10 : decode b_M_wall 10 = .ok (.invokevirtual 113, 3) := by decide +kernel
theorem d_M_wall_13 : decode b_M_wall 13 = .ok (.ifCond .eq 56, 3) := by decide +kernel
theorem d_M_wall_16 : decode b_M_wall 16 = .ok (.iload_n 3, 1) := by decide +kernel
theorem d_M_wall_17 : decode b_M_wall 17 = .ok (.i2l, 1) := by decide +kernel
theorem d_M_wall_18 : decode b_M_wall 18 = .ok (.iload 4, 2) := by decide +kernel
theorem d_M_wall_20 : decode b_M_wall 20 = .ok (.i2l, 1) := by decide +kernel
theorem d_M_wall_21 : decode b_M_wall 21 = .ok (.invokestatic 116, 3) := by decide +kernel
theorem d_M_wall_24 : decode b_M_wall 24 = .ok (.ifCond .eq 45, 3) := by decide +kernel
theorem d_M_wall_27 : decode b_M_wall 27 = .ok (.iload 5, 2) := by decide +kernel
theorem d_M_wall_29 : decode b_M_wall 29 = .ok (.i2l, 1) := by decide +kernel
theorem d_M_wall_30 : decode b_M_wall 30 = .ok (.iload 6, 2) := by decide +kernel
theorem d_M_wall_32 : decode b_M_wall 32 = .ok (.i2l, 1) := by decide +kernel
theorem d_M_wall_33 : decode b_M_wall 33 = .ok (.invokestatic 116, 3) := by decide +kernel
theorem d_M_wall_36 : decode b_M_wall 36 = .ok (.ifCond .eq 33, 3) := by decide +kernel
theorem d_M_wall_39 : decode b_M_wall 39 = .ok (.iload_n 3, 1) := by decide +kernel
theorem d_M_wall_40 : decode b_M_wall 40 = .ok (.iload 5, 2) := by decide +kernel
theorem d_M_wall_42 : decode b_M_wall 42 = .ok (.if_icmp .ne 7, 3) := by decide +kernel
theorem d_M_wall_45 : decode b_M_wall 45 = .ok (.iconst 1, 1) := by decide +kernel
theorem d_M_wall_46 : decode b_M_wall 46 = .ok (.goto 4, 3) := by decide +kernel
theorem d_M_wall_49 : decode b_M_wall 49 = .ok (.iconst 0, 1) := by decide +kernel
theorem d_M_wall_50 : decode b_M_wall 50 = .ok (.iload 4, 2) := by decide +kernel
theorem d_M_wall_52 : decode b_M_wall 52 = .ok (.iload 6, 2) := by decide +kernel
theorem d_M_wall_54 : decode b_M_wall 54 = .ok (.if_icmp .ne 7, 3) := by decide +kernel
theorem d_M_wall_57 : decode b_M_wall 57 = .ok (.iconst 1, 1) := by decide +kernel
theorem d_M_wall_58 : decode b_M_wall 58 = .ok (.goto 4, 3) := by decide +kernel
theorem d_M_wall_61 : decode b_M_wall 61 = .ok (.iconst 0, 1) := by decide +kernel
theorem d_M_wall_62 : decode b_M_wall 62 = .ok (.if_icmp .eq 7, 3) := by decide +kernel
theorem d_M_wall_65 : decode b_M_wall 65 = .ok (.iconst 1, 1) := by decide +kernel
theorem d_M_wall_66 : decode b_M_wall 66 = .ok (.goto 4, 3) := by decide +kernel
theorem d_M_wall_69 : decode b_M_wall 69 = .ok (.iconst 0, 1) := by decide +kernel
theorem d_M_wall_70 : decode b_M_wall 70 = .ok (.istore 7, 2) := by decide +kernel
theorem d_M_wall_72 : decode b_M_wall 72 = .ok (.aload_n 0, 1) := by decide +kernel
theorem d_M_wall_73 : decode b_M_wall 73 = .ok (.iload 7, 2) := by decide +kernel
theorem d_M_wall_75 : decode b_M_wall 75 = .ok (.aload_n 0, 1) := by decide +kernel
theorem d_M_wall_76 : decode b_M_wall 76 = .ok (.getfield 60, 3) := by decide +kernel
theorem d_M_wall_79 : decode b_M_wall 79 = .ok (.bipush 40, 2) := by decide +kernel
theorem d_M_wall_81 : decode b_M_wall 81 = .ok (.if_icmp .ge 7, 3) := by decide +kernel
theorem d_M_wall_84 : decode b_M_wall 84 = .ok (.iconst 1, 1) := by decide +kernel
theorem d_M_wall_85 : decode b_M_wall 85 = .ok (.goto 4, 3) := by decide +kernel
theorem d_M_wall_88 : decode b_M_wall 88 = .ok (.iconst 0, 1) := by decide +kernel
theorem d_M_wall_89 : decode b_M_wall 89 = .ok (.invokevirtual 98, 3) := by decide +kernel
theorem d_M_wall_92 : decode b_M_wall 92 = .ok (.ifCond .eq 20, 3) := by decide +kernel
theorem d_M_wall_95 : decode b_M_wall 95 = .ok (.aload_n 0, 1) := by decide +kernel
theorem d_M_wall_96 : decode b_M_wall 96 = .ok (.iconst 4, 1) := by decide +kernel
theorem d_M_wall_97 : decode b_M_wall 97 = .ok (.iload_n 1, 1) := by decide +kernel
theorem d_M_wall_98 : decode b_M_wall 98 = .ok (.iload_n 2, 1) := by decide +kernel
theorem d_M_wall_99 : decode b_M_wall 99 = .ok (.iload_n 3, 1) := by decide +kernel
theorem d_M_wall_100 : decode b_M_wall 100 = .ok (.iload 4, 2) := by decide +kernel
theorem d_M_wall_102 : decode b_M_wall 102 = .ok (.iload 5, 2) := by decide +kernel
theorem d_M_wall_104 : decode b_M_wall 104 = .ok (.iload 6, 2) := by decide +kernel
theorem d_M_wall_106 : decode b_M_wall 106 = .ok (.invokevirtual 102, 3) := by decide +kernel
theorem d_M_wall_109 : decode b_M_wall 109 = .ok (.goto 4, 3) := by decide +kernel
theorem d_M_wall_112 : decode b_M_wall 112 = .ok (.iconst 0, 1) := by decide +kernel
theorem d_M_wall_113 : decode b_M_wall 113 = .ok (.ireturn, 1) := by decide +kernel
theorem d_M_move_0 : decode b_M_move 0 = .ok (.aload_n 0, 1) := by decide +kernel
theorem d_M_move_1 : decode b_M_move 1 = .ok (.iload_n 1, 1) := by decide +kernel
theorem d_M_move_2 : decode b_M_move 2 = .ok (.invokevirtual 120, 3) := by decide +kernel
theorem d_M_move_5 : decode b_M_move 5 = .ok (.istore 4, 2) := by decide +kernel
theorem d_M_move_7 : decode b_M_move 7 = .ok (.iload 4, 2) := by decide +kernel
theorem d_M_move_9 : decode b_M_move 9 = .ok (.ifCond .eq 59, 3) := by decide +kernel
theorem d_M_move_12 : decode b_M_move 12 = .ok (.aload_n 0, 1) := by decide +kernel
theorem d_M_move_13 : decode b_M_move 13 = .ok (.getfield 25, 3) := by decide +kernel
theorem d_M_move_16 : decode b_M_move 16 = .ok (.iload_n 1, 1) := by decide +kernel
theorem d_M_move_17 : decode b_M_move 17 = .ok (.iaload, 1) := by decide +kernel
theorem d_M_move_18 : decode b_M_move 18 = .ok (.i2l, 1) := by decide +kernel
theorem d_M_move_19 : decode b_M_move 19 = .ok (.iload_n 2, 1) := by decide +kernel
theorem d_M_move_20 : decode b_M_move 20 = .ok (.i2l, 1) := by decide +kernel
theorem d_M_move_21 : decode b_M_move 21 = .ok (.ladd, 1) := by decide +kernel
theorem d_M_move_22 : decode b_M_move 22 = .ok (.aload_n 0, 1) := by decide +kernel
theorem d_M_move_23 : decode b_M_move 23 = .ok (.getfield 28, 3) := by decide +kernel
theorem d_M_move_26 : decode b_M_move 26 = .ok (.iload_n 1, 1) := by decide +kernel
theorem d_M_move_27 : decode b_M_move 27 = .ok (.iaload, 1) := by decide +kernel
theorem d_M_move_28 : decode b_M_move 28 = .ok (.i2l, 1) := by decide +kernel
theorem d_M_move_29 : decode b_M_move 29 = .ok (.iload_n 3, 1) := by decide +kernel
theorem d_M_move_30 : decode b_M_move 30 = .ok (.i2l, 1) := by decide +kernel
theorem d_M_move_31 : decode b_M_move 31 = .ok (.ladd, 1) := by decide +kernel
theorem d_M_move_32 : decode b_M_move 32 = .ok (.invokestatic 116, 3) := by decide +kernel
theorem d_M_move_35 : decode b_M_move 35 = .ok (.ifCond .eq 33, 3) := by decide +kernel
theorem d_M_move_38 : decode b_M_move 38 = .ok (.aload_n 0, 1) := by decide +kernel
theorem d_M_move_39 : decode b_M_move 39 = .ok (.getfield 31, 3) := by decide +kernel
theorem d_M_move_42 : decode b_M_move 42 = .ok (.iload_n 1, 1) := by decide +kernel
theorem d_M_move_43 : decode b_M_move 43 = .ok (.iaload, 1) := by decide +kernel
theorem d_M_move_44 : decode b_M_move 44 = .ok (.i2l, 1) := by decide +kernel
theorem d_M_move_45 : decode b_M_move 45 = .ok (.iload_n 2, 1) := by decide +kernel
theorem d_M_move_46 : decode b_M_move 46 = .ok (.i2l, 1) := by decide +kernel
theorem d_M_move_47 : decode b_M_move 47 = .ok (.ladd, 1) := by decide +kernel
theorem d_M_move_48 : decode b_M_move 48 = .ok (.aload_n 0, 1) := by decide +kernel
theorem d_M_move_49 : decode b_M_move 49 = .ok (.getfield 34, 3) := by decide +kernel
theorem d_M_move_52 : decode b_M_move 52 = .ok (.iload_n 1, 1) := by decide +kernel
theorem d_M_move_53 : decode b_M_move 53 = .ok (.iaload, 1) := by decide +kernel
theorem d_M_move_54 : decode b_M_move 54 = .ok (.i2l, 1) := by decide +kernel
theorem d_M_move_55 : decode b_M_move 55 = .ok (.iload_n 3, 1) := by decide +kernel
theorem d_M_move_56 : decode b_M_move 56 = .ok (.i2l, 1) := by decide +kernel
theorem d_M_move_57 : decode b_M_move 57 = .ok (.ladd, 1) := by decide +kernel
theorem d_M_move_58 : decode b_M_move 58 = .ok (.invokestatic 116, 3) := by decide +kernel
theorem d_M_move_61 : decode b_M_move 61 = .ok (.ifCond .eq 7, 3) := by decide +kernel
theorem d_M_move_64 : decode b_M_move 64 = .ok (.iconst 1, 1) := by decide +kernel
theorem d_M_move_65 : decode b_M_move 65 = .ok (.goto 4, 3) := by decide +kernel
theorem d_M_move_68 : decode b_M_move 68 = .ok (.iconst 0, 1) := by decide +kernel
theorem d_M_move_69 : decode b_M_move 69 = .ok (.istore 4, 2) := by decide +kernel
theorem d_M_move_71 : decode b_M_move 71 = .ok (.aload_n 0, 1) := by decide +kernel
theorem d_M_move_72 : decode b_M_move 72 = .ok (.iload 4, 2) := by decide +kernel
theorem d_M_move_74 : decode b_M_move 74 = .ok (.iconst 1, 1) := by decide +kernel
theorem d_M_move_75 : decode b_M_move 75 = .ok (.invokevirtual 98, 3) := by decide +kernel
theorem d_M_move_78 : decode b_M_move 78 = .ok (.ifCond .eq 15, 3) := by decide +kernel
theorem d_M_move_81 : decode b_M_move 81 = .ok (.aload_n 0, 1) := by decide +kernel
theorem d_M_move_82 : decode b_M_move 82 = .ok (.iconst 5, 1) := by decide +kernel
theorem d_M_move_83 : decode b_M_move 83 = .ok (.iload_n 1, 1) := by decide +kernel
theorem d_M_move_84 : decode b_M_move 84 = .ok (.iload_n 2, 1) := by decide +kernel
theorem d_M_move_85 : decode b_M_move 85 = .ok (.iload_n 3, 1) := by decide +kernel
theorem d_M_move_86 : decode b_M_move 86 = .ok (.iconst 0, 1) := by decide +kernel
theorem d_M_move_87 : decode b_M_move 87 = .ok (.iconst 0, 1) := by decide +kernel
theorem d_M_move_88 : decode b_M_move 88 = .ok (.iconst 0, 1) := by decide +kernel
theorem d_M_move_89 : decode b_M_move 89 = .ok (.invokevirtual 102, 3) := by decide +kernel
theorem d_M_move_92 : decode b_M_move 92 = .ok (.pop, 1) := by decide +kernel
theorem d_M_move_93 : decode b_M_move 93 = .ok (.return_, 1) := by decide +kernel
theorem d_M_retype_0 : decode b_M_retype 0 = .ok (.aload_n 0, 1) := by decide +kernel
theorem d_M_retype_1 : decode b_M_retype 1 = .ok (.aload_n 0, 1) := by decide +kernel
theorem d_M_retype_2 : decode b_M_retype 2 = .ok (.iload_n 1, 1) := by decide +kernel
theorem d_M_retype_3 : decode b_M_retype 3 = .ok (.invokevirtual 120, 3) := by decide +kernel
theorem d_M_retype_6 : decode b_M_retype 6 = .ok (.ifCond .eq 15, 3) := by decide +kernel
theorem d_M_retype_9 : decode b_M_retype 9 = .ok (.aload_n 0, 1) := by decide +kernel
theorem d_M_retype_10 : decode b_M_retype 10 = .ok (.iload_n 2, 1) := by decide +kernel
theorem d_M_retype_11 : decode b_M_retype 11 = .ok (.invokevirtual 113, 3) := by decide +kernel
theorem d_M_retype_14 : decode b_M_retype 14 = .ok (.ifCond .eq 7, 3) := by decide +kernel
theorem d_M_retype_17 : decode b_M_retype 17 = .ok (.iconst 1, 1) := by decide +kernel
theorem d_M_retype_18 : decode b_M_retype 18 = .ok (.goto 4, 3) := by decide +kernel
theorem d_M_retype_21 : decode b_M_retype 21 = .ok (.iconst 0, 1) := by decide +kernel
theorem d_M_retype_22 : decode b_M_retype 22 = .ok (.iconst 1, 1) := by decide +kernel
theorem d_M_retype_23 : decode b_M_retype 23 = .ok (.invokevirtual 98, 3) := by decide +kernel
theorem d_M_retype_26 : decode b_M_retype 26 = .ok (.ifCond .eq 16, 3) := by decide +kernel
theorem d_M_retype_29 : decode b_M_retype 29 = .ok (.aload_n 0, 1) := by decide +kernel
theorem d_M_retype_30 : decode b_M_retype 30 = .ok (.bipush 6, 2) := by decide +kernel
theorem d_M_retype_32 : decode b_M_retype 32 = .ok (.iload_n 1, 1) := by decide +kernel
theorem d_M_retype_33 : decode b_M_retype 33 = .ok (.iload_n 2, 1) := by decide +kernel
theorem d_M_retype_34 : decode b_M_retype 34 = .ok (.iconst 0, 1) := by decide +kernel
theorem d_M_retype_35 : decode b_M_retype 35 = .ok (.iconst 0, 1) := by decide +kernel
theorem d_M_retype_36 : decode b_M_retype 36 = .ok (.iconst 0, 1) := by decide +kernel
theorem d_M_retype_37 : decode b_M_retype 37 = .ok (.iconst 0, 1) := by decide +kernel
theorem d_M_retype_38 : decode b_M_retype 38 = .ok (.invokevirtual 102, 3) := by decide +kernel
theorem d_M_retype_41 : decode b_M_retype 41 = .ok (.pop, 1) := by decide +kernel
theorem d_M_retype_42 : decode b_M_retype 42 = .ok (.return_, 1) := by decide +kernel
theorem d_M_remove_0 : decode b_M_remove 0 = .ok (.aload_n 0, 1) := by decide +kernel
theorem d_M_remove_1 : decode b_M_remove 1 = .ok (.aload_n 0, 1) := by decide +kernel
theorem d_M_remove_2 : decode b_M_remove 2 = .ok (.iload_n 1, 1) := by decide +kernel
theorem d_M_remove_3 : decode b_M_remove 3 = .ok (.invokevirtual 120, 3) := by decide +kernel
theorem d_M_remove_6 : decode b_M_remove 6 = .ok (.iconst 1, 1) := by decide +kernel
theorem d_M_remove_7 : decode b_M_remove 7 = .ok (.invokevirtual 98, 3) := by decide +kernel
theorem d_M_remove_10 : decode b_M_remove 10 = .ok (.ifCond .eq 16, 3) := by decide +kernel
theorem d_M_remove_13 : decode b_M_remove 13 = .ok (.aload_n 0, 1) := by decide +kernel
theorem d_M_remove_14 : decode b_M_remove 14 = .ok (.bipush 7, 2) := by decide +kernel
theorem d_M_remove_16 : decode b_M_remove 16 = .ok (.iload_n 1, 1) := by decide +kernel
theorem d_M_remove_17 : decode b_M_remove 17 = .ok (.iconst 0, 1) := by decide +kernel
theorem d_M_remove_18 : decode b_M_remove 18 = .ok (.iconst 0, 1) := by decide +kernel
theorem d_M_remove_19 : decode b_M_remove 19 = .ok (.iconst 0, 1) := by decide +kernel
theorem d_M_remove_20 : decode b_M_remove 20 = .ok (.iconst 0, 1) := by decide +kernel
theorem d_M_remove_21 : decode b_M_remove 21 = .ok (.iconst 0, 1) := by decide +kernel
theorem d_M_remove_22 : decode b_M_remove 22 = .ok (.invokevirtual 102, 3) := by decide +kernel
theorem d_M_remove_25 : decode b_M_remove 25 = .ok (.pop, 1) := by decide +kernel
theorem d_M_remove_26 : decode b_M_remove 26 = .ok (.return_, 1) := by decide +kernel
theorem d_M_opening_0 : decode b_M_opening 0 = .ok (.aload_n 0, 1) := by decide +kernel
theorem d_M_opening_1 : decode b_M_opening 1 = .ok (.iload_n 1, 1) := by decide +kernel
theorem d_M_opening_2 : decode b_M_opening 2 = .ok (.invokevirtual 120, 3) := by decide +kernel
theorem d_M_opening_5 : decode b_M_opening 5 = .ok (.ifCond .eq 31, 3) := by decide +kernel
theorem d_M_opening_8 : decode b_M_opening 8 = .ok (.iload_n 2, 1) := by decide +kernel
theorem d_M_opening_9 : decode b_M_opening 9 = .ok (.ifCond .lt 27, 3) := by decide +kernel
theorem d_M_opening_12 : decode b_M_opening 12 = .ok (.iload_n 3, 1) := by decide +kernel
theorem d_M_opening_13 : decode b_M_opening 13 = .ok (.iconst 1, 1) := by decide +kernel
theorem d_M_opening_14 : decode b_M_opening 14 = .ok (.if_icmp .lt 22, 3) := by decide +kernel
theorem d_M_opening_17 : decode b_M_opening 17 = .ok (.iload_n 2, 1) := by decide +kernel
theorem d_M_opening_18 : decode b_M_opening 18 = .ok (.i2l, 1) := by decide +kernel
theorem d_M_opening_19 : decode b_M_opening 19 = .ok (.iload_n 3, 1) := by decide +kernel
theorem d_M_opening_20 : decode b_M_opening 20 = .ok (.i2l, 1) := by decide +kernel
theorem d_M_opening_21 : decode b_M_opening 21 = .ok (.ladd, 1) := by decide +kernel
theorem d_M_opening_22 : decode b_M_opening 22 = .ok (.aload_n 0, 1) := by decide +kernel
theorem d_M_opening_23 : decode b_M_opening 23 = .ok (.iload_n 1, 1) := by decide +kernel
theorem d_M_opening_24 : decode b_M_opening 24 = .ok (.invokevirtual 123, 3) := by decide +kernel
theorem d_M_opening_27 : decode b_M_opening 27 = .ok (.i2l, 1) := by decide +kernel
theorem d_M_opening_28 : decode b_M_opening 28 = .ok (.lcmp, 1) := by decide +kernel
theorem d_M_opening_29 : decode b_M_opening 29 = .ok (.ifCond .gt 7, 3) := by decide +kernel
theorem d_M_opening_32 : decode b_M_opening 32 = .ok (.iconst 1, 1) := by decide +kernel
theorem d_M_opening_33 : decode b_M_opening 33 = .ok (.goto 4, 3) := by decide +kernel
theorem d_M_opening_36 : decode b_M_opening 36 = .ok (.iconst 0, 1) := by decide +kernel
theorem d_M_opening_37 : decode b_M_opening 37 = .ok (.istore 4, 2) := by decide +kernel
theorem d_M_opening_39 : decode b_M_opening 39 = .ok (.aload_n 0, 1) := by decide +kernel
theorem d_M_opening_40 : decode b_M_opening 40 = .ok (.getfield 81, 3) := by decide +kernel
theorem d_M_opening_43 : decode b_M_opening 43 = .ok (.bipush 60, 2) := by decide +kernel
theorem d_M_opening_45 : decode b_M_opening 45 = .ok (.if_icmp .ge 7, 3) := by decide +kernel
theorem d_M_opening_48 : decode b_M_opening 48 = .ok (.iconst 1, 1) := by decide +kernel
theorem d_M_opening_49 : decode b_M_opening 49 = .ok (.goto 4, 3) := by decide +kernel
theorem d_M_opening_52 : decode b_M_opening 52 = .ok (.iconst 0, 1) := by decide +kernel
theorem d_M_opening_53 : decode b_M_opening 53 = .ok (.istore 5, 2) := by decide +kernel
theorem d_M_opening_55 : decode b_M_opening 55 = .ok (.iconst 0, 1) := by decide +kernel
theorem d_M_opening_56 : decode b_M_opening 56 = .ok (.istore 6, 2) := by decide +kernel
theorem d_M_opening_58 : decode b_M_opening 58 = .ok (.iload 6, 2) := by decide +kernel
theorem d_M_opening_60 : decode b_M_opening 60 = .ok (.aload_n 0, 1) := by decide +kernel
theorem d_M_opening_61 : decode b_M_opening 61 = .ok (.getfield 81, 3) := by decide +kernel
theorem d_M_opening_64 : decode b_M_opening 64 = .ok (.if_icmp .ge 69, 3) := by decide +kernel
theorem d_M_opening_67 : decode b_M_opening 67 = .ok (.iload 4, 2) := by decide +kernel
theorem d_M_opening_69 : decode b_M_opening 69 = .ok (.ifCond .eq 64, 3) := by decide +kernel
theorem d_M_opening_72 : decode b_M_opening 72 = .ok (.iload 5, 2) := by decide +kernel
theorem d_M_opening_74 : decode b_M_opening 74 = .ok (.ifCond .eq 50, 3) := by decide +kernel
theorem d_M_opening_77 : decode b_M_opening 77 = .ok (.aload_n 0, 1) := by decide +kernel
theorem d_M_opening_78 : decode b_M_opening 78 = .ok (.getfield 41, 3) := by decide +kernel
theorem d_M_opening_81 : decode b_M_opening 81 = .ok (.iload 6, 2) := by decide +kernel
theorem d_M_opening_83 : decode b_M_opening 83 = .ok (.iaload, 1) := by decide +kernel
theorem d_M_opening_84 : decode b_M_opening 84 = .ok (.iload_n 1, 1) := by decide +kernel
theorem d_M_opening_85 : decode b_M_opening 85 = .ok (.if_icmp .ne 35, 3) := by decide +kernel
theorem d_M_opening_88 : decode b_M_opening 88 = .ok (.aload_n 0, 1) := by decide +kernel
theorem d_M_opening_89 : decode b_M_opening 89 = .ok (.getfield 44, 3) := by decide +kernel
theorem d_M_opening_92 : decode b_M_opening 92 = .ok (.iload 6, 2) := by decide +kernel
theorem d_M_opening_94 : decode b_M_opening 94 = .ok (.iaload, 1) := by decide +kernel
theorem d_M_opening_95 : decode b_M_opening 95 = .ok (.aload_n 0, 1) := by decide +kernel
theorem d_M_opening_96 : decode b_M_opening 96 = .ok (.getfield 47, 3) := by decide +kernel
theorem d_M_opening_99 : decode b_M_opening 99 = .ok (.iload 6, 2) := by decide +kernel
theorem d_M_opening_101 : decode b_M_opening 101 = .ok (.iaload, 1) := by decide +kernel
theorem d_M_opening_102 : decode b_M_opening 102 = .ok (.iadd, 1) := by decide +kernel
theorem d_M_opening_103 : decode b_M_opening 103 = .ok (.iload_n 2, 1) := by decide +kernel
theorem d_M_opening_104 : decode b_M_opening 104 = .ok (.if_icmp .le 16, 3) := by decide +kernel
theorem d_M_opening_107 : decode b_M_opening 107 = .ok (.iload_n 2, 1) := by decide +kernel
theorem d_M_opening_108 : decode b_M_opening 108 = .ok (.iload_n 3, 1) := by decide +kernel
theorem d_M_opening_109 : decode b_M_opening 109 = .ok (.iadd, 1) := by decide +kernel
theorem d_M_opening_110 : decode b_M_opening 110 = .ok (.aload_n 0, 1) := by decide +kernel
theorem d_M_opening_111 : decode b_M_opening 111 = .ok (.getfield 44, 3) := by decide +kernel
theorem d_M_opening_114 : decode b_M_opening 114 = .ok (.iload 6, 2) := by decide +kernel
theorem d_M_opening_116 : decode b_M_opening 116 = .ok (.iaload, 1) := by decide +kernel
theorem d_M_opening_117 : decode b_M_opening 117 = .ok (.if_icmp .gt 7, 3) := by decide +kernel
theorem d_M_opening_120 : decode b_M_opening 120 = .ok (.iconst 1, 1) := by decide +kernel
theorem d_M_opening_121 : decode b_M_opening 121 = .ok (.goto 4, 3) := by decide +kernel
theorem d_M_opening_124 : decode b_M_opening 124 = .ok (.iconst 0, 1) := by decide +kernel
theorem d_M_opening_125 : decode b_M_opening 125 = .ok (.istore 5, 2) := by decide +kernel
theorem d_M_opening_127 : decode b_M_opening 127 = .ok (.iinc 6 1, 3) := by decide +kernel
theorem d_M_opening_130 : decode b_M_opening 130 = .ok (.goto (-72), 3) := by decide +kernel
theorem d_M_opening_133 : decode b_M_opening 133 = .ok (.aload_n 0, 1) := by decide +kernel
theorem d_M_opening_134 : decode b_M_opening 134 = .ok (.iload 4, 2) := by decide +kernel
theorem d_M_opening_136 : decode b_M_opening 136 = .ok (.iload 5, 2) := by decide +kernel
theorem d_M_opening_138 : decode b_M_opening 138 = .ok (.invokevirtual 98, 3) := by decide +kernel
theorem d_M_opening_141 : decode b_M_opening 141 = .ok (.ifCond .eq 18, 3) := by decide +kernel
theorem d_M_opening_144 : decode b_M_opening 144 = .ok (.aload_n 0, 1) := by decide +kernel
theorem d_M_opening_145 : decode b_M_opening 145 = .ok (.bipush 8, 2) := by decide +kernel
theorem d_M_opening_147 : decode b_M_opening 147 = .ok (.iload_n 1, 1) := by decide +kernel
theorem d_M_opening_148 : decode b_M_opening 148 = .ok (.iload_n 2, 1) := by decide +kernel
theorem d_M_opening_149 : decode b_M_opening 149 = .ok (.iload_n 3, 1) := by decide +kernel
theorem d_M_opening_150 : decode b_M_opening 150 = .ok (.iconst 0, 1) := by decide +kernel
theorem d_M_opening_151 : decode b_M_opening 151 = .ok (.iconst 0, 1) := by decide +kernel
theorem d_M_opening_152 : decode b_M_opening 152 = .ok (.iconst 0, 1) := by decide +kernel
theorem d_M_opening_153 : decode b_M_opening 153 = .ok (.invokevirtual 102, 3) := by decide +kernel
theorem d_M_opening_156 : decode b_M_opening 156 = .ok (.goto 4, 3) := by decide +kernel
theorem d_M_opening_159 : decode b_M_opening 159 = .ok (.iconst 0, 1) := by decide +kernel
theorem d_M_opening_160 : decode b_M_opening 160 = .ok (.ireturn, 1) := by decide +kernel
theorem d_M_copy_0 : decode b_M_copy 0 = .ok (.aload_n 0, 1) := by decide +kernel
theorem d_M_copy_1 : decode b_M_copy 1 = .ok (.iload_n 1, 1) := by decide +kernel
theorem d_M_copy_2 : decode b_M_copy 2 = .ok (.invokevirtual 106, 3) := by decide +kernel
theorem d_M_copy_5 : decode b_M_copy 5 = .ok (.ifCond .eq 20, 3) := by decide +kernel
theorem d_M_copy_8 : decode b_M_copy 8 = .ok (.aload_n 0, 1) := by decide +kernel
theorem d_M_copy_9 : decode b_M_copy 9 = .ok (.iload_n 2, 1) := by decide +kernel
theorem d_M_copy_10 : decode b_M_copy 10 = .ok (.invokevirtual 106, 3) := by decide +kernel
theorem d_M_copy_13 : decode b_M_copy 13 = .ok (.ifCond .eq 12, 3) := by decide +kernel
theorem d_M_copy_16 : decode b_M_copy 16 = .ok (.iload_n 1, 1) := by decide +kernel
theorem d_M_copy_17 : decode b_M_copy 17 = .ok (.iload_n 2, 1) := by decide +kernel
theorem d_M_copy_18 : decode b_M_copy 18 = .ok (.if_icmp .eq 7, 3) := by decide +kernel
theorem d_M_copy_21 : decode b_M_copy 21 = .ok (.iconst 1, 1) := by decide +kernel
theorem d_M_copy_22 : decode b_M_copy 22 = .ok (.goto 4, 3) := by decide +kernel
theorem d_M_copy_25 : decode b_M_copy 25 = .ok (.iconst 0, 1) := by decide +kernel
theorem d_M_copy_26 : decode b_M_copy 26 = .ok (.istore_n 3, 1) := by decide +kernel
theorem d_M_copy_27 : decode b_M_copy 27 = .ok (.iconst 0, 1) := by decide +kernel
theorem d_M_copy_28 : decode b_M_copy 28 = .ok (.istore 4, 2) := by decide +kernel
theorem d_M_copy_30 : decode b_M_copy 30 = .ok (.iconst 0, 1) := by decide +kernel
theorem d_M_copy_31 : decode b_M_copy 31 = .ok (.istore 5, 2) := by decide +kernel
theorem d_M_copy_33 : decode b_M_copy 33 = .ok (.iconst 0, 1) := by decide +kernel
theorem d_M_copy_34 : decode b_M_copy 34 = .ok (.istore 6, 2) := by decide +kernel
theorem d_M_copy_36 : decode b_M_copy 36 = .ok (.iload 6, 2) := by decide +kernel
theorem d_M_copy_38 : decode b_M_copy 38 = .ok (.aload_n 0, 1) := by decide +kernel
theorem d_M_copy_39 : decode b_M_copy 39 = .ok (.getfield 60, 3) := by decide +kernel
theorem d_M_copy_42 : decode b_M_copy 42 = .ok (.if_icmp .ge 48, 3) := by decide +kernel
theorem d_M_copy_45 : decode b_M_copy 45 = .ok (.iload_n 3, 1) := by decide +kernel
theorem d_M_copy_46 : decode b_M_copy 46 = .ok (.ifCond .eq 38, 3) := by decide +kernel
theorem d_M_copy_49 : decode b_M_copy 49 = .ok (.aload_n 0, 1) := by decide +kernel
theorem d_M_copy_50 : decode b_M_copy 50 = .ok (.getfield 37, 3) := by decide +kernel
theorem d_M_copy_53 : decode b_M_copy 53 = .ok (.iload 6, 2) := by decide +kernel
theorem d_M_copy_55 : decode b_M_copy 55 = .ok (.baload, 1) := by decide +kernel
theorem d_M_copy_56 : decode b_M_copy 56 = .ok (.ifCond .eq 28, 3) := by decide +kernel
theorem d_M_copy_59 : decode b_M_copy 59 = .ok (.aload_n 0, 1) := by decide +kernel
theorem d_M_copy_60 : decode b_M_copy 60 = .ok (.getfield 19, 3) := by decide +kernel
theorem d_M_copy_63 : decode b_M_copy 63 = .ok (.iload 6, 2) := by decide +kernel
theorem d_M_copy_65 : decode b_M_copy 65 = .ok (.iaload, 1) := by decide +kernel
theorem d_M_copy_66 : decode b_M_copy 66 = .ok (.iload_n 1, 1) := by decide +kernel
theorem d_M_copy_67 : decode b_M_copy 67 = .ok (.if_icmp .ne 17, 3) := by decide +kernel
theorem d_M_copy_70 : decode b_M_copy 70 = .ok (.iinc 4 1, 3) := by decide +kernel
theorem d_M_copy_73 : decode b_M_copy 73 = .ok (.iload 5, 2) := by decide +kernel
theorem d_M_copy_75 : decode b_M_copy 75 = .ok (.aload_n 0, 1) := by decide +kernel
theorem d_M_copy_76 : decode b_M_copy 76 = .ok (.iload 6, 2) := by decide +kernel
theorem d_M_copy_78 : decode b_M_copy 78 = .ok (.invokevirtual 126, 3) := by decide +kernel
theorem d_M_copy_81 : decode b_M_copy 81 = .ok (.iadd, 1) := by decide +kernel
theorem d_M_copy_82 : decode b_M_copy 82 = .ok (.istore 5, 2) := by decide +kernel
theorem d_M_copy_84 : decode b_M_copy 84 = .ok (.iinc 6 1, 3) := by decide +kernel
theorem d_M_copy_87 : decode b_M_copy 87 = .ok (.goto (-51), 3) := by decide +kernel
theorem d_M_copy_90 : decode b_M_copy 90 = .ok (.aload_n 0, 1) := by decide +kernel
theorem d_M_copy_91 : decode b_M_copy 91 = .ok (.iload_n 3, 1) := by decide +kernel
theorem d_M_copy_92 : decode b_M_copy 92 = .ok (.aload_n 0, 1) := by decide +kernel
theorem d_M_copy_93 : decode b_M_copy 93 = .ok (.getfield 60, 3) := by decide +kernel
theorem d_M_copy_96 : decode b_M_copy 96 = .ok (.iload 4, 2) := by decide +kernel
theorem d_M_copy_98 : decode b_M_copy 98 = .ok (.iadd, 1) := by decide +kernel
theorem d_M_copy_99 : decode b_M_copy 99 = .ok (.bipush 40, 2) := by decide +kernel
theorem d_M_copy_101 : decode b_M_copy 101 = .ok (.if_icmp .gt 19, 3) := by decide +kernel
theorem d_M_copy_104 : decode b_M_copy 104 = .ok (.aload_n 0, 1) := by decide +kernel
theorem d_M_copy_105 : decode b_M_copy 105 = .ok (.getfield 81, 3) := by decide +kernel
theorem d_M_copy_108 : decode b_M_copy 108 = .ok (.iload 5, 2) := by decide +kernel
theorem d_M_copy_110 : decode b_M_copy 110 = .ok (.iadd, 1) := by decide +kernel
theorem d_M_copy_111 : decode b_M_copy 111 = .ok (.bipush 60, 2) := by decide +kernel
theorem d_M_copy_113 : decode b_M_copy 113 = .ok (.if_icmp .gt 7, 3) := by decide +kernel
theorem d_M_copy_116 : decode b_M_copy 116 = .ok (.iconst 1, 1) := by decide +kernel
theorem d_M_copy_117 : decode b_M_copy 117 = .ok (.goto 4, 3) := by decide +kernel
theorem d_M_copy_120 : decode b_M_copy 120 = .ok (.iconst 0, 1) := by decide +kernel
theorem d_M_copy_121 : decode b_M_copy 121 = .ok (.invokevirtual 98, 3) := by decide +kernel
theorem d_M_copy_124 : decode b_M_copy 124 = .ok (.ifCond .eq 18, 3) := by decide +kernel
theorem d_M_copy_127 : decode b_M_copy 127 = .ok (.aload_n 0, 1) := by decide +kernel
theorem d_M_copy_128 : decode b_M_copy 128 = .ok (.bipush 9, 2) := by decide +kernel
theorem d_M_copy_130 : decode b_M_copy 130 = .ok (.iload_n 1, 1) := by decide +kernel
theorem d_M_copy_131 : decode b_M_copy 131 = .ok (.iload_n 2, 1) := by decide +kernel
theorem d_M_copy_132 : decode b_M_copy 132 = .ok (.iconst 0, 1) := by decide +kernel
theorem d_M_copy_133 : decode b_M_copy 133 = .ok (.iconst 0, 1) := by decide +kernel
theorem d_M_copy_134 : decode b_M_copy 134 = .ok (.iconst 0, 1) := by decide +kernel
theorem d_M_copy_135 : decode b_M_copy 135 = .ok (.iconst 0, 1) := by decide +kernel
theorem d_M_copy_136 : decode b_M_copy 136 = .ok (.invokevirtual 102, 3) := by decide +kernel
theorem d_M_copy_139 : decode b_M_copy 139 = .ok (.goto 4, 3) := by decide +kernel
theorem d_M_copy_142 : decode b_M_copy 142 = .ok (.iconst 0, 1) := by decide +kernel
theorem d_M_copy_143 : decode b_M_copy 143 = .ok (.ireturn, 1) := by decide +kernel
theorem d_M_undo_0 : decode b_M_undo 0 = .ok (.aload_n 0, 1) := by decide +kernel
theorem d_M_undo_1 : decode b_M_undo 1 = .ok (.iconst 0, 1) := by decide +kernel
theorem d_M_undo_2 : decode b_M_undo 2 = .ok (.putfield 50, 3) := by decide +kernel
theorem d_M_undo_5 : decode b_M_undo 5 = .ok (.aload_n 0, 1) := by decide +kernel
theorem d_M_undo_6 : decode b_M_undo 6 = .ok (.getfield 71, 3) := by decide +kernel
theorem d_M_undo_9 : decode b_M_undo 9 = .ok (.ifCond .ne 5, 3) := by decide +kernel
theorem d_M_undo_12 : decode b_M_undo 12 = .ok (.iconst 0, 1) := by decide +kernel
theorem d_M_undo_13 : decode b_M_undo 13 = .ok (.ireturn, 1) := by decide +kernel
theorem d_M_undo_14 : decode b_M_undo 14 = .ok (.aload_n 0, 1) := by decide +kernel
theorem d_M_undo_15 : decode b_M_undo 15 = .ok (.dup, 1) := by decide +kernel
theorem d_M_undo_16 : decode b_M_undo 16 = .ok (.getfield 71, 3) := by decide +kernel
theorem d_M_undo_19 : decode b_M_undo 19 = .ok (.iconst 1, 1) := by decide +kernel
theorem d_M_undo_20 : decode b_M_undo 20 = .ok (.isub, 1) := by decide +kernel
theorem d_M_undo_21 : decode b_M_undo 21 = .ok (.putfield 71, 3) := by decide +kernel
theorem d_M_undo_24 : decode b_M_undo 24 = .ok (.aload_n 0, 1) := by decide +kernel
theorem d_M_undo_25 : decode b_M_undo 25 = .ok (.dup, 1) := by decide +kernel
theorem d_M_undo_26 : decode b_M_undo 26 = .ok (.getfield 74, 3) := by decide +kernel
theorem d_M_undo_29 : decode b_M_undo 29 = .ok (.iconst 1, 1) := by decide +kernel
theorem d_M_undo_30 : decode b_M_undo 30 = .ok (.iadd, 1) := by decide +kernel
theorem d_M_undo_31 : decode b_M_undo 31 = .ok (.putfield 74, 3) := by decide +kernel
theorem d_M_undo_34 : decode b_M_undo 34 = .ok (.aload_n 0, 1) := by decide +kernel
theorem d_M_undo_35 : decode b_M_undo 35 = .ok (.iconst 0, 1) := by decide +kernel
theorem d_M_undo_36 : decode b_M_undo 36 = .ok (.putfield 54, 3) := by decide +kernel
theorem d_M_undo_39 : decode b_M_undo 39 = .ok (.aload_n 0, 1) := by decide +kernel
theorem d_M_undo_40 : decode b_M_undo 40 = .ok (.iconst 0, 1) := by decide +kernel
theorem d_M_undo_41 : decode b_M_undo 41 = .ok (.putfield 57, 3) := by decide +kernel
theorem d_M_undo_44 : decode b_M_undo 44 = .ok (.aload_n 0, 1) := by decide +kernel
theorem d_M_undo_45 : decode b_M_undo 45 = .ok (.iconst 0, 1) := by decide +kernel
theorem d_M_undo_46 : decode b_M_undo 46 = .ok (.putfield 60, 3) := by decide +kernel
theorem d_M_undo_49 : decode b_M_undo 49 = .ok (.aload_n 0, 1) := by decide +kernel
theorem d_M_undo_50 : decode b_M_undo 50 = .ok (.iconst 0, 1) := by decide +kernel
theorem d_M_undo_51 : decode b_M_undo 51 = .ok (.putfield 81, 3) := by decide +kernel
theorem d_M_undo_54 : decode b_M_undo 54 = .ok (.iconst 0, 1) := by decide +kernel
theorem d_M_undo_55 : decode b_M_undo 55 = .ok (.istore_n 1, 1) := by decide +kernel
theorem d_M_undo_56 : decode b_M_undo 56 = .ok (.iload_n 1, 1) := by decide +kernel
theorem d_M_undo_57 : decode b_M_undo 57 = .ok (.aload_n 0, 1) := by decide +kernel
theorem d_M_undo_58 : decode b_M_undo 58 = .ok (.getfield 71, 3) := by decide +kernel
theorem d_M_undo_61 : decode b_M_undo 61 = .ok (.if_icmp .ge 15, 3) := by decide +kernel
theorem d_M_undo_64 : decode b_M_undo 64 = .ok (.aload_n 0, 1) := by decide +kernel
theorem d_M_undo_65 : decode b_M_undo 65 = .ok (.iload_n 1, 1) := by decide +kernel
theorem d_M_undo_66 : decode b_M_undo 66 = .ok (.invokevirtual 77, 3) := by decide +kernel
theorem d_M_undo_69 : decode b_M_undo 69 = .ok (.pop, 1) := by decide +kernel
theorem d_M_undo_70 : decode b_M_undo 70 = .ok (.iinc 1 1, 3) := by decide +kernel
theorem d_M_undo_73 : decode b_M_undo 73 = .ok (.goto (-17), 3) := by decide +kernel
theorem d_M_undo_76 : decode b_M_undo 76 = .ok (.iconst 1, 1) := by decide +kernel
theorem d_M_undo_77 : decode b_M_undo 77 = .ok (.ireturn, 1) := by decide +kernel
theorem d_M_redo_0 : decode b_M_redo 0 = .ok (.aload_n 0, 1) := by decide +kernel
theorem d_M_redo_1 : decode b_M_redo 1 = .ok (.iconst 0, 1) := by decide +kernel
theorem d_M_redo_2 : decode b_M_redo 2 = .ok (.putfield 50, 3) := by decide +kernel
theorem d_M_redo_5 : decode b_M_redo 5 = .ok (.aload_n 0, 1) := by decide +kernel
theorem d_M_redo_6 : decode b_M_redo 6 = .ok (.getfield 74, 3) := by decide +kernel
theorem d_M_redo_9 : decode b_M_redo 9 = .ok (.ifCond .ne 5, 3) := by decide +kernel
theorem d_M_redo_12 : decode b_M_redo 12 = .ok (.iconst 0, 1) := by decide +kernel
theorem d_M_redo_13 : decode b_M_redo 13 = .ok (.ireturn, 1) := by decide +kernel
theorem d_M_redo_14 : decode b_M_redo 14 = .ok (.aload_n 0, 1) := by decide +kernel
theorem d_M_redo_15 : decode b_M_redo 15 = .ok (.aload_n 0, 1) := by decide +kernel
theorem d_M_redo_16 : decode b_M_redo 16 = .ok (.getfield 71, 3) := by decide +kernel
theorem d_M_redo_19 : decode b_M_redo 19 = .ok (.invokevirtual 77, 3) := by decide +kernel
theorem d_M_redo_22 : decode b_M_redo 22 = .ok (.pop, 1) := by decide +kernel
theorem d_M_redo_23 : decode b_M_redo 23 = .ok (.aload_n 0, 1) := by decide +kernel
theorem d_M_redo_24 : decode b_M_redo 24 = .ok (.dup, 1) := by decide +kernel
theorem d_M_redo_25 : decode b_M_redo 25 = .ok (.getfield 71, 3) := by decide +kernel
theorem d_M_redo_28 : decode b_M_redo 28 = .ok (.iconst 1, 1) := by decide +kernel
theorem d_M_redo_29 : decode b_M_redo 29 = .ok (.iadd, 1) := by decide +kernel
theorem d_M_redo_30 : decode b_M_redo 30 = .ok (.putfield 71, 3) := by decide +kernel
theorem d_M_redo_33 : decode b_M_redo 33 = .ok (.aload_n 0, 1) := by decide +kernel
theorem d_M_redo_34 : decode b_M_redo 34 = .ok (.dup, 1) := by decide +kernel
theorem d_M_redo_35 : decode b_M_redo 35 = .ok (.getfield 74, 3) := by decide +kernel
theorem d_M_redo_38 : decode b_M_redo 38 = .ok (.iconst 1, 1) := by decide +kernel
theorem d_M_redo_39 : decode b_M_redo 39 = .ok (.isub, 1) := by decide +kernel
theorem d_M_redo_40 : decode b_M_redo 40 = .ok (.putfield 74, 3) := by decide +kernel
theorem d_M_redo_43 : decode b_M_redo 43 = .ok (.iconst 1, 1) := by decide +kernel
theorem d_M_redo_44 : decode b_M_redo 44 = .ok (.ireturn, 1) := by decide +kernel
theorem d_M_acts_0 : decode b_M_acts 0 = .ok (.aload_n 0, 1) := by decide +kernel
theorem d_M_acts_1 : decode b_M_acts 1 = .ok (.iload_n 1, 1) := by decide +kernel
theorem d_M_acts_2 : decode b_M_acts 2 = .ok (.ifCond .eq 8, 3) := by decide +kernel
theorem d_M_acts_5 : decode b_M_acts 5 = .ok (.iload_n 1, 1) := by decide +kernel
theorem d_M_acts_6 : decode b_M_acts 6 = .ok (.iconst 1, 1) := by decide +kernel
theorem d_M_acts_7 : decode b_M_acts 7 = .ok (.if_icmp .ne 7, 3) := by decide +kernel
theorem d_M_acts_10 : decode b_M_acts 10 = .ok (.iconst 0, 1) := by decide +kernel
theorem d_M_acts_11 : decode b_M_acts 11 = .ok (.goto 4, 3) := by decide +kernel
theorem d_M_acts_14 : decode b_M_acts 14 = .ok (.iconst 1, 1) := by decide +kernel
theorem d_M_acts_15 : decode b_M_acts 15 = .ok (.putfield 50, 3) := by decide +kernel
theorem d_M_acts_18 : decode b_M_acts 18 = .ok (.aload_n 0, 1) := by decide +kernel
theorem d_M_acts_19 : decode b_M_acts 19 = .ok (.getfield 50, 3) := by decide +kernel
theorem d_M_acts_22 : decode b_M_acts 22 = .ok (.ifCond .le 7, 3) := by decide +kernel
theorem d_M_acts_25 : decode b_M_acts 25 = .ok (.iconst 0, 1) := by decide +kernel
theorem d_M_acts_26 : decode b_M_acts 26 = .ok (.goto 18, 3) := by decide +kernel
theorem d_M_acts_29 : decode b_M_acts 29 = .ok (.iload_n 1, 1) := by decide +kernel
theorem d_M_acts_30 : decode b_M_acts 30 = .ok (.ifCond .ne 10, 3) := by decide +kernel
theorem d_M_acts_33 : decode b_M_acts 33 = .ok (.aload_n 0, 1) := by decide +kernel
theorem d_M_acts_34 : decode b_M_acts 34 = .ok (.getfield 71, 3) := by decide +kernel
theorem d_M_acts_37 : decode b_M_acts 37 = .ok (.goto 7, 3) := by decide +kernel
theorem d_M_acts_40 : decode b_M_acts 40 = .ok (.aload_n 0, 1) := by decide +kernel
theorem d_M_acts_41 : decode b_M_acts 41 = .ok (.getfield 74, 3) := by decide +kernel
theorem d_M_acts_44 : decode b_M_acts 44 = .ok (.ireturn, 1) := by decide +kernel
theorem d_M_size_0 : decode b_M_size 0 = .ok (.iload_n 0, 1) := by decide +kernel
theorem d_M_size_1 : decode b_M_size 1 = .ok (.ifCond .ge 8, 3) := by decide +kernel
theorem d_M_size_4 : decode b_M_size 4 = .ok (.iload_n 0, 1) := by decide +kernel
theorem d_M_size_5 : decode b_M_size 5 = .ok (.ineg, 1) := by decide +kernel
theorem d_M_size_6 : decode b_M_size 6 = .ok (.goto 4, 3) := by decide +kernel
theorem d_M_size_9 : decode b_M_size 9 = .ok (.iload_n 0, 1) := by decide +kernel
theorem d_M_size_10 : decode b_M_size 10 = .ok (.ireturn, 1) := by decide +kernel
theorem d_M_length_0 : decode b_M_length 0 = .ok (.aload_n 0, 1) := by decide +kernel
theorem d_M_length_1 : decode b_M_length 1 = .ok (.getfield 31, 3) := by decide +kernel
theorem d_M_length_4 : decode b_M_length 4 = .ok (.iload_n 1, 1) := by decide +kernel
