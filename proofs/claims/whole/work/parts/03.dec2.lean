theorem d_M_length_5 : decode b_M_length 5 = .ok (.iaload, 1) := by decide +kernel
theorem d_M_length_6 : decode b_M_length 6 = .ok (.aload_n 0, 1) := by decide +kernel
theorem d_M_length_7 : decode b_M_length 7 = .ok (.getfield 25, 3) := by decide +kernel
theorem d_M_length_10 : decode b_M_length 10 = .ok (.iload_n 1, 1) := by decide +kernel
theorem d_M_length_11 : decode b_M_length 11 = .ok (.iaload, 1) := by decide +kernel
theorem d_M_length_12 : decode b_M_length 12 = .ok (.isub, 1) := by decide +kernel
theorem d_M_length_13 : decode b_M_length 13 = .ok (.invokestatic 129, 3) := by decide +kernel
theorem d_M_length_16 : decode b_M_length 16 = .ok (.aload_n 0, 1) := by decide +kernel
theorem d_M_length_17 : decode b_M_length 17 = .ok (.getfield 34, 3) := by decide +kernel
theorem d_M_length_20 : decode b_M_length 20 = .ok (.iload_n 1, 1) := by decide +kernel
theorem d_M_length_21 : decode b_M_length 21 = .ok (.iaload, 1) := by decide +kernel
theorem d_M_length_22 : decode b_M_length 22 = .ok (.aload_n 0, 1) := by decide +kernel
theorem d_M_length_23 : decode b_M_length 23 = .ok (.getfield 28, 3) := by decide +kernel
theorem d_M_length_26 : decode b_M_length 26 = .ok (.iload_n 1, 1) := by decide +kernel
theorem d_M_length_27 : decode b_M_length 27 = .ok (.iaload, 1) := by decide +kernel
theorem d_M_length_28 : decode b_M_length 28 = .ok (.isub, 1) := by decide +kernel
theorem d_M_length_29 : decode b_M_length 29 = .ok (.invokestatic 129, 3) := by decide +kernel
theorem d_M_length_32 : decode b_M_length 32 = .ok (.iadd, 1) := by decide +kernel
theorem d_M_length_33 : decode b_M_length 33 = .ok (.ireturn, 1) := by decide +kernel
theorem d_M_isAcross_0 : decode b_M_isAcross 0 = .ok (.aload_n 0, 1) := by decide +kernel
theorem d_M_isAcross_1 : decode b_M_isAcross 1 = .ok (.getfield 28, 3) := by decide +kernel
theorem d_M_isAcross_4 : decode b_M_isAcross 4 = .ok (.iload_n 1, 1) := by decide +kernel
theorem d_M_isAcross_5 : decode b_M_isAcross 5 = .ok (.iaload, 1) := by decide +kernel
theorem d_M_isAcross_6 : decode b_M_isAcross 6 = .ok (.aload_n 0, 1) := by decide +kernel
theorem d_M_isAcross_7 : decode b_M_isAcross 7 = .ok (.getfield 34, 3) := by decide +kernel
theorem d_M_isAcross_10 : decode b_M_isAcross 10 = .ok (.iload_n 1, 1) := by decide +kernel
theorem d_M_isAcross_11 : decode b_M_isAcross 11 = .ok (.iaload, 1) := by decide +kernel
theorem d_M_isAcross_12 : decode b_M_isAcross 12 = .ok (.if_icmp .ne 7, 3) := by decide +kernel
theorem d_M_isAcross_15 : decode b_M_isAcross 15 = .ok (.iconst 1, 1) := by decide +kernel
theorem d_M_isAcross_16 : decode b_M_isAcross 16 = .ok (.goto 4, 3) := by decide +kernel
theorem d_M_isAcross_19 : decode b_M_isAcross 19 = .ok (.iconst 0, 1) := by decide +kernel
theorem d_M_isAcross_20 : decode b_M_isAcross 20 = .ok (.ireturn, 1) := by decide +kernel
theorem d_M_joined_0 : decode b_M_joined 0 = .ok (.iconst 0, 1) := by decide +kernel
theorem d_M_joined_1 : decode b_M_joined 1 = .ok (.istore 4, 2) := by decide +kernel
theorem d_M_joined_3 : decode b_M_joined 3 = .ok (.iload 4, 2) := by decide +kernel
theorem d_M_joined_5 : decode b_M_joined 5 = .ok (.aload_n 0, 1) := by decide +kernel
theorem d_M_joined_6 : decode b_M_joined 6 = .ok (.getfield 60, 3) := by decide +kernel
theorem d_M_joined_9 : decode b_M_joined 9 = .ok (.if_icmp .ge 136, 3) := by decide +kernel
theorem d_M_joined_12 : decode b_M_joined 12 = .ok (.aload_n 0, 1) := by decide +kernel
theorem d_M_joined_13 : decode b_M_joined 13 = .ok (.getfield 25, 3) := by decide +kernel
theorem d_M_joined_16 : decode b_M_joined 16 = .ok (.iload 4, 2) := by decide +kernel
theorem d_M_joined_18 : decode b_M_joined 18 = .ok (.iaload, 1) := by decide +kernel
theorem d_M_joined_19 : decode b_M_joined 19 = .ok (.iload_n 2, 1) := by decide +kernel
theorem d_M_joined_20 : decode b_M_joined 20 = .ok (.if_icmp .ne 14, 3) := by decide +kernel
theorem d_M_joined_23 : decode b_M_joined 23 = .ok (.aload_n 0, 1) := by decide +kernel
theorem d_M_joined_24 : decode b_M_joined 24 = .ok (.getfield 28, 3) := by decide +kernel
theorem d_M_joined_27 : decode b_M_joined 27 = .ok (.iload 4, 2) := by decide +kernel
theorem d_M_joined_29 : decode b_M_joined 29 = .ok (.iaload, 1) := by decide +kernel
theorem d_M_joined_30 : decode b_M_joined 30 = .ok (.iload_n 3, 1) := by decide +kernel
theorem d_M_joined_31 : decode b_M_joined 31 = .ok (.if_icmp .eq 25, 3) := by decide +kernel
theorem d_M_joined_34 : decode b_M_joined 34 = .ok (.aload_n 0, 1) := by decide +kernel
theorem d_M_joined_35 : decode b_M_joined 35 = .ok (.getfield 31, 3) := by decide +kernel
theorem d_M_joined_38 : decode b_M_joined 38 = .ok (.iload 4, 2) := by decide +kernel
theorem d_M_joined_40 : decode b_M_joined 40 = .ok (.iaload, 1) := by decide +kernel
theorem d_M_joined_41 : decode b_M_joined 41 = .ok (.iload_n 2, 1) := by decide +kernel
theorem d_M_joined_42 : decode b_M_joined 42 = .ok (.if_icmp .ne 18, 3) := by decide +kernel
theorem d_M_joined_45 : decode b_M_joined 45 = .ok (.aload_n 0, 1) := by decide +kernel
theorem d_M_joined_46 : decode b_M_joined 46 = .ok (.getfield 34, 3) := by decide +kernel
theorem d_M_joined_49 : decode b_M_joined 49 = .ok (.iload 4, 2) := by decide +kernel
theorem d_M_joined_51 : decode b_M_joined 51 = .ok (.iaload, 1) := by decide +kernel
theorem d_M_joined_52 : decode b_M_joined 52 = .ok (.iload_n 3, 1) := by decide +kernel
theorem d_M_joined_53 : decode b_M_joined 53 = .ok (.if_icmp .ne 7, 3) := by decide +kernel
theorem d_M_joined_56 : decode b_M_joined 56 = .ok (.iconst 1, 1) := by decide +kernel
theorem d_M_joined_57 : decode b_M_joined 57 = .ok (.goto 4, 3) := by decide +kernel
theorem d_M_joined_60 : decode b_M_joined 60 = .ok (.iconst 0, 1) := by decide +kernel
theorem d_M_joined_61 : decode b_M_joined 61 = .ok (.istore 5, 2) := by decide +kernel
theorem d_M_joined_63 : decode b_M_joined 63 = .ok (.aload_n 0, 1) := by decide +kernel
theorem d_M_joined_64 : decode b_M_joined 64 = .ok (.getfield 37, 3) := by decide +kernel
theorem d_M_joined_67 : decode b_M_joined 67 = .ok (.iload 4, 2) := by decide +kernel
theorem d_M_joined_69 : decode b_M_joined 69 = .ok (.baload, 1) := by decide +kernel
theorem d_M_joined_70 : decode b_M_joined 70 = .ok (.ifCond .eq 69, 3) := by decide +kernel
theorem d_M_joined_73 : decode b_M_joined 73 = .ok (.aload_n 0, 1) := by decide +kernel
theorem d_M_joined_74 : decode b_M_joined 74 = .ok (.getfield 19, 3) := by decide +kernel
theorem d_M_joined_77 : decode b_M_joined 77 = .ok (.iload 4, 2) := by decide +kernel
theorem d_M_joined_79 : decode b_M_joined 79 = .ok (.iaload, 1) := by decide +kernel
theorem d_M_joined_80 : decode b_M_joined 80 = .ok (.aload_n 0, 1) := by decide +kernel
theorem d_M_joined_81 : decode b_M_joined 81 = .ok (.getfield 19, 3) := by decide +kernel
theorem d_M_joined_84 : decode b_M_joined 84 = .ok (.iload_n 1, 1) := by decide +kernel
theorem d_M_joined_85 : decode b_M_joined 85 = .ok (.iaload, 1) := by decide +kernel
theorem d_M_joined_86 : decode b_M_joined 86 = .ok (.if_icmp .ne 53, 3) := by decide +kernel
theorem d_M_joined_89 : decode b_M_joined 89 = .ok (.aload_n 0, 1) := by decide +kernel
theorem d_M_joined_90 : decode b_M_joined 90 = .ok (.iload 4, 2) := by decide +kernel
theorem d_M_joined_92 : decode b_M_joined 92 = .ok (.invokevirtual 132, 3) := by decide +kernel
theorem d_M_joined_95 : decode b_M_joined 95 = .ok (.aload_n 0, 1) := by decide +kernel
theorem d_M_joined_96 : decode b_M_joined 96 = .ok (.iload_n 1, 1) := by decide +kernel
theorem d_M_joined_97 : decode b_M_joined 97 = .ok (.invokevirtual 132, 3) := by decide +kernel
theorem d_M_joined_100 : decode b_M_joined 100 = .ok (.if_icmp .eq 39, 3) := by decide +kernel
theorem d_M_joined_103 : decode b_M_joined 103 = .ok (.iload 5, 2) := by decide +kernel
theorem d_M_joined_105 : decode b_M_joined 105 = .ok (.ifCond .eq 34, 3) := by decide +kernel
theorem d_M_joined_108 : decode b_M_joined 108 = .ok (.aload_n 0, 1) := by decide +kernel
theorem d_M_joined_109 : decode b_M_joined 109 = .ok (.getfield 16, 3) := by decide +kernel
theorem d_M_joined_112 : decode b_M_joined 112 = .ok (.aload_n 0, 1) := by decide +kernel
theorem d_M_joined_113 : decode b_M_joined 113 = .ok (.getfield 22, 3) := by decide +kernel
theorem d_M_joined_116 : decode b_M_joined 116 = .ok (.iload 4, 2) := by decide +kernel
theorem d_M_joined_118 : decode b_M_joined 118 = .ok (.iaload, 1) := by decide +kernel
theorem d_M_joined_119 : decode b_M_joined 119 = .ok (.iaload, 1) := by decide +kernel
theorem d_M_joined_120 : decode b_M_joined 120 = .ok (.iconst 2, 1) := by decide +kernel
theorem d_M_joined_121 : decode b_M_joined 121 = .ok (.idiv, 1) := by decide +kernel
theorem d_M_joined_122 : decode b_M_joined 122 = .ok (.istore 6, 2) := by decide +kernel
theorem d_M_joined_124 : decode b_M_joined 124 = .ok (.iload 4, 2) := by decide +kernel
theorem d_M_joined_126 : decode b_M_joined 126 = .ok (.iload_n 1, 1) := by decide +kernel
theorem d_M_joined_127 : decode b_M_joined 127 = .ok (.if_icmp .ge 9, 3) := by decide +kernel
theorem d_M_joined_130 : decode b_M_joined 130 = .ok (.iload 6, 2) := by decide +kernel
theorem d_M_joined_132 : decode b_M_joined 132 = .ok (.ineg, 1) := by decide +kernel
theorem d_M_joined_133 : decode b_M_joined 133 = .ok (.goto 5, 3) := by decide +kernel
theorem d_M_joined_136 : decode b_M_joined 136 = .ok (.iload 6, 2) := by decide +kernel
theorem d_M_joined_138 : decode b_M_joined 138 = .ok (.ireturn, 1) := by decide +kernel
theorem d_M_joined_139 : decode b_M_joined 139 = .ok (.iinc 4 1, 3) := by decide +kernel
theorem d_M_joined_142 : decode b_M_joined 142 = .ok (.goto (-139), 3) := by decide +kernel
theorem d_M_joined_145 : decode b_M_joined 145 = .ok (.iconst 0, 1) := by decide +kernel
theorem d_M_joined_146 : decode b_M_joined 146 = .ok (.ireturn, 1) := by decide +kernel
theorem d_M_net_0 : decode b_M_net 0 = .ok (.aload_n 0, 1) := by decide +kernel
theorem d_M_net_1 : decode b_M_net 1 = .ok (.iload_n 1, 1) := by decide +kernel
theorem d_M_net_2 : decode b_M_net 2 = .ok (.invokevirtual 123, 3) := by decide +kernel
theorem d_M_net_5 : decode b_M_net 5 = .ok (.aload_n 0, 1) := by decide +kernel
theorem d_M_net_6 : decode b_M_net 6 = .ok (.iload_n 1, 1) := by decide +kernel
theorem d_M_net_7 : decode b_M_net 7 = .ok (.aload_n 0, 1) := by decide +kernel
theorem d_M_net_8 : decode b_M_net 8 = .ok (.getfield 25, 3) := by decide +kernel
theorem d_M_net_11 : decode b_M_net 11 = .ok (.iload_n 1, 1) := by decide +kernel
theorem d_M_net_12 : decode b_M_net 12 = .ok (.iaload, 1) := by decide +kernel
theorem d_M_net_13 : decode b_M_net 13 = .ok (.aload_n 0, 1) := by decide +kernel
theorem d_M_net_14 : decode b_M_net 14 = .ok (.getfield 28, 3) := by decide +kernel
theorem d_M_net_17 : decode b_M_net 17 = .ok (.iload_n 1, 1) := by decide +kernel
theorem d_M_net_18 : decode b_M_net 18 = .ok (.iaload, 1) := by decide +kernel
theorem d_M_net_19 : decode b_M_net 19 = .ok (.invokevirtual 135, 3) := by decide +kernel
theorem d_M_net_22 : decode b_M_net 22 = .ok (.iadd, 1) := by decide +kernel
theorem d_M_net_23 : decode b_M_net 23 = .ok (.aload_n 0, 1) := by decide +kernel
theorem d_M_net_24 : decode b_M_net 24 = .ok (.iload_n 1, 1) := by decide +kernel
theorem d_M_net_25 : decode b_M_net 25 = .ok (.aload_n 0, 1) := by decide +kernel
theorem d_M_net_26 : decode b_M_net 26 = .ok (.getfield 31, 3) := by decide +kernel
theorem d_M_net_29 : decode b_M_net 29 = .ok (.iload_n 1, 1) := by decide +kernel
theorem d_M_net_30 : decode b_M_net 30 = .ok (.iaload, 1) := by decide +kernel
theorem d_M_net_31 : decode b_M_net 31 = .ok (.aload_n 0, 1) := by decide +kernel
theorem d_M_net_32 : decode b_M_net 32 = .ok (.getfield 34, 3) := by decide +kernel
theorem d_M_net_35 : decode b_M_net 35 = .ok (.iload_n 1, 1) := by decide +kernel
theorem d_M_net_36 : decode b_M_net 36 = .ok (.iaload, 1) := by decide +kernel
theorem d_M_net_37 : decode b_M_net 37 = .ok (.invokevirtual 135, 3) := by decide +kernel
theorem d_M_net_40 : decode b_M_net 40 = .ok (.iadd, 1) := by decide +kernel
theorem d_M_net_41 : decode b_M_net 41 = .ok (.ireturn, 1) := by decide +kernel
theorem d_M_height_0 : decode b_M_height 0 = .ok (.iload_n 1, 1) := by decide +kernel
theorem d_M_height_1 : decode b_M_height 1 = .ok (.iconst 1, 1) := by decide +kernel
theorem d_M_height_2 : decode b_M_height 2 = .ok (.iadd, 1) := by decide +kernel
theorem d_M_height_3 : decode b_M_height 3 = .ok (.aload_n 0, 1) := by decide +kernel
theorem d_M_height_4 : decode b_M_height 4 = .ok (.getfield 54, 3) := by decide +kernel
theorem d_M_height_7 : decode b_M_height 7 = .ok (.if_icmp .ge 21, 3) := by decide +kernel
theorem d_M_height_10 : decode b_M_height 10 = .ok (.aload_n 0, 1) := by decide +kernel
theorem d_M_height_11 : decode b_M_height 11 = .ok (.getfield 13, 3) := by decide +kernel
theorem d_M_height_14 : decode b_M_height 14 = .ok (.iload_n 1, 1) := by decide +kernel
theorem d_M_height_15 : decode b_M_height 15 = .ok (.iconst 1, 1) := by decide +kernel
theorem d_M_height_16 : decode b_M_height 16 = .ok (.iadd, 1) := by decide +kernel
theorem d_M_height_17 : decode b_M_height 17 = .ok (.iaload, 1) := by decide +kernel
theorem d_M_height_18 : decode b_M_height 18 = .ok (.aload_n 0, 1) := by decide +kernel
theorem d_M_height_19 : decode b_M_height 19 = .ok (.getfield 13, 3) := by decide +kernel
theorem d_M_height_22 : decode b_M_height 22 = .ok (.iload_n 1, 1) := by decide +kernel
theorem d_M_height_23 : decode b_M_height 23 = .ok (.iaload, 1) := by decide +kernel
theorem d_M_height_24 : decode b_M_height 24 = .ok (.isub, 1) := by decide +kernel
theorem d_M_height_25 : decode b_M_height 25 = .ok (.goto 6, 3) := by decide +kernel
theorem d_M_height_28 : decode b_M_height 28 = .ok (.sipush 300, 3) := by decide +kernel
theorem d_M_height_31 : decode b_M_height 31 = .ok (.ireturn, 1) := by decide +kernel
theorem d_M_cuts_0 : decode b_M_cuts 0 = .ok (.iconst 0, 1) := by decide +kernel
theorem d_M_cuts_1 : decode b_M_cuts 1 = .ok (.istore_n 2, 1) := by decide +kernel
theorem d_M_cuts_2 : decode b_M_cuts 2 = .ok (.iconst 0, 1) := by decide +kernel
theorem d_M_cuts_3 : decode b_M_cuts 3 = .ok (.istore_n 3, 1) := by decide +kernel
theorem d_M_cuts_4 : decode b_M_cuts 4 = .ok (.iload_n 3, 1) := by decide +kernel
theorem d_M_cuts_5 : decode b_M_cuts 5 = .ok (.aload_n 0, 1) := by decide +kernel
theorem d_M_cuts_6 : decode b_M_cuts 6 = .ok (.getfield 81, 3) := by decide +kernel
theorem d_M_cuts_9 : decode b_M_cuts 9 = .ok (.if_icmp .ge 27, 3) := by decide +kernel
theorem d_M_cuts_12 : decode b_M_cuts 12 = .ok (.aload_n 0, 1) := by decide +kernel
theorem d_M_cuts_13 : decode b_M_cuts 13 = .ok (.getfield 41, 3) := by decide +kernel
theorem d_M_cuts_16 : decode b_M_cuts 16 = .ok (.iload_n 3, 1) := by decide +kernel
theorem d_M_cuts_17 : decode b_M_cuts 17 = .ok (.iaload, 1) := by decide +kernel
theorem d_M_cuts_18 : decode b_M_cuts 18 = .ok (.iload_n 1, 1) := by decide +kernel
theorem d_M_cuts_19 : decode b_M_cuts 19 = .ok (.if_icmp .ne 9, 3) := by decide +kernel
theorem d_M_cuts_22 : decode b_M_cuts 22 = .ok (.iload_n 2, 1) := by decide +kernel
theorem d_M_cuts_23 : decode b_M_cuts 23 = .ok (.iconst 1, 1) := by decide +kernel
theorem d_M_cuts_24 : decode b_M_cuts 24 = .ok (.iadd, 1) := by decide +kernel
theorem d_M_cuts_25 : decode b_M_cuts 25 = .ok (.goto 4, 3) := by decide +kernel
theorem d_M_cuts_28 : decode b_M_cuts 28 = .ok (.iload_n 2, 1) := by decide +kernel
theorem d_M_cuts_29 : decode b_M_cuts 29 = .ok (.istore_n 2, 1) := by decide +kernel
theorem d_M_cuts_30 : decode b_M_cuts 30 = .ok (.iinc 3 1, 3) := by decide +kernel
theorem d_M_cuts_33 : decode b_M_cuts 33 = .ok (.goto (-29), 3) := by decide +kernel
theorem d_M_cuts_36 : decode b_M_cuts 36 = .ok (.iload_n 2, 1) := by decide +kernel
theorem d_M_cuts_37 : decode b_M_cuts 37 = .ok (.ireturn, 1) := by decide +kernel
theorem d_M_area_0 : decode b_M_area 0 = .ok (.aload_n 0, 1) := by decide +kernel
theorem d_M_area_1 : decode b_M_area 1 = .ok (.aload_n 0, 1) := by decide +kernel
theorem d_M_area_2 : decode b_M_area 2 = .ok (.getfield 19, 3) := by decide +kernel
theorem d_M_area_5 : decode b_M_area 5 = .ok (.iload_n 1, 1) := by decide +kernel
theorem d_M_area_6 : decode b_M_area 6 = .ok (.iaload, 1) := by decide +kernel
theorem d_M_area_7 : decode b_M_area 7 = .ok (.invokevirtual 138, 3) := by decide +kernel
theorem d_M_area_10 : decode b_M_area 10 = .ok (.i2l, 1) := by decide +kernel
theorem d_M_area_11 : decode b_M_area 11 = .ok (.lstore_n 2, 1) := by decide +kernel
theorem d_M_area_12 : decode b_M_area 12 = .ok (.aload_n 0, 1) := by decide +kernel
theorem d_M_area_13 : decode b_M_area 13 = .ok (.iload_n 1, 1) := by decide +kernel
theorem d_M_area_14 : decode b_M_area 14 = .ok (.invokevirtual 141, 3) := by decide +kernel
theorem d_M_area_17 : decode b_M_area 17 = .ok (.i2l, 1) := by decide +kernel
theorem d_M_area_18 : decode b_M_area 18 = .ok (.lload_n 2, 1) := by decide +kernel
theorem d_M_area_19 : decode b_M_area 19 = .ok (.lmul, 1) := by decide +kernel
theorem d_M_area_20 : decode b_M_area 20 = .ok (.lstore 4, 2) := by decide +kernel
theorem d_M_area_22 : decode b_M_area 22 = .ok (.iconst 0, 1) := by decide +kernel
theorem d_M_area_23 : decode b_M_area 23 = .ok (.istore 6, 2) := by decide +kernel
theorem d_M_area_25 : decode b_M_area 25 = .ok (.iload 6, 2) := by decide +kernel
theorem d_M_area_27 : decode b_M_area 27 = .ok (.aload_n 0, 1) := by decide +kernel
theorem d_M_area_28 : decode b_M_area 28 = .ok (.getfield 81, 3) := by decide +kernel
theorem d_M_area_31 : decode b_M_area 31 = .ok (.if_icmp .ge 49, 3) := by decide +kernel
theorem d_M_area_34 : decode b_M_area 34 = .ok (.aload_n 0, 1) := by decide +kernel
theorem d_M_area_35 : decode b_M_area 35 = .ok (.getfield 41, 3) := by decide +kernel
theorem d_M_area_38 : decode b_M_area 38 = .ok (.iload 6, 2) := by decide +kernel
theorem d_M_area_40 : decode b_M_area 40 = .ok (.iaload, 1) := by decide +kernel
theorem d_M_area_41 : decode b_M_area 41 = .ok (.iload_n 1, 1) := by decide +kernel
theorem d_M_area_42 : decode b_M_area 42 = .ok (.if_icmp .ne 32, 3) := by decide +kernel
theorem d_M_area_45 : decode b_M_area 45 = .ok (.lload 4, 2) := by decide +kernel
theorem d_M_area_47 : decode b_M_area 47 = .ok (.aload_n 0, 1) := by decide +kernel
theorem d_M_area_48 : decode b_M_area 48 = .ok (.getfield 47, 3) := by decide +kernel
theorem d_M_area_51 : decode b_M_area 51 = .ok (.iload 6, 2) := by decide +kernel
theorem d_M_area_53 : decode b_M_area 53 = .ok (.iaload, 1) := by decide +kernel
theorem d_M_area_54 : decode b_M_area 54 = .ok (.i2l, 1) := by decide +kernel
theorem d_M_area_55 : decode b_M_area 55 = .ok (.lload_n 2, 1) := by decide +kernel
theorem d_M_area_56 : decode b_M_area 56 = .ok (.ldc2_w 144, 3) := by decide +kernel
theorem d_M_area_59 : decode b_M_area 59 = .ok (.lcmp, 1) := by decide +kernel
theorem d_M_area_60 : decode b_M_area 60 = .ok (.ifCond .ge 7, 3) := by decide +kernel
theorem d_M_area_63 : decode b_M_area 63 = .ok (.lload_n 2, 1) := by decide +kernel
theorem d_M_area_64 : decode b_M_area 64 = .ok (.goto 6, 3) := by decide +kernel
theorem d_M_area_67 : decode b_M_area 67 = .ok (.ldc2_w 144, 3) := by decide +kernel
theorem d_M_area_70 : decode b_M_area 70 = .ok (.lmul, 1) := by decide +kernel
theorem d_M_area_71 : decode b_M_area 71 = .ok (.lsub, 1) := by decide +kernel
theorem d_M_area_72 : decode b_M_area 72 = .ok (.lstore 4, 2) := by decide +kernel
theorem d_M_area_74 : decode b_M_area 74 = .ok (.iinc 6 1, 3) := by decide +kernel
theorem d_M_area_77 : decode b_M_area 77 = .ok (.goto (-52), 3) := by decide +kernel
theorem d_M_area_80 : decode b_M_area 80 = .ok (.lload 4, 2) := by decide +kernel
theorem d_M_area_82 : decode b_M_area 82 = .ok (.lreturn, 1) := by decide +kernel
theorem d_M_tells_0 : decode b_M_tells 0 = .ok (.aload_n 0, 1) := by decide +kernel
theorem d_M_tells_1 : decode b_M_tells 1 = .ok (.iload_n 1, 1) := by decide +kernel
theorem d_M_tells_2 : decode b_M_tells 2 = .ok (.ifCond .eq 7, 3) := by decide +kernel
theorem d_M_tells_5 : decode b_M_tells 5 = .ok (.iconst 0, 1) := by decide +kernel
theorem d_M_tells_6 : decode b_M_tells 6 = .ok (.goto 4, 3) := by decide +kernel
theorem d_M_tells_9 : decode b_M_tells 9 = .ok (.iconst 1, 1) := by decide +kernel
theorem d_M_tells_10 : decode b_M_tells 10 = .ok (.putfield 50, 3) := by decide +kernel
theorem d_M_tells_13 : decode b_M_tells 13 = .ok (.iload_n 1, 1) := by decide +kernel
theorem d_M_tells_14 : decode b_M_tells 14 = .ok (.ireturn, 1) := by decide +kernel
theorem d_M_many_0 : decode b_M_many 0 = .ok (.aload_n 0, 1) := by decide +kernel
theorem d_M_many_1 : decode b_M_many 1 = .ok (.iload_n 1, 1) := by decide +kernel
theorem d_M_many_2 : decode b_M_many 2 = .ok (.i2l, 1) := by decide +kernel
theorem d_M_many_3 : decode b_M_many 3 = .ok (.lconst 0, 1) := by decide +kernel
theorem d_M_many_4 : decode b_M_many 4 = .ok (.ldc2_w 146, 3) := by decide +kernel
theorem d_M_many_7 : decode b_M_many 7 = .ok (.invokestatic 67, 3) := by decide +kernel
theorem d_M_many_10 : decode b_M_many 10 = .ok (.invokevirtual 148, 3) := by decide +kernel
theorem d_M_many_13 : decode b_M_many 13 = .ok (.ifCond .ne 5, 3) := by decide +kernel
theorem d_M_many_16 : decode b_M_many 16 = .ok (.iconst 0, 1) := by decide +kernel
theorem d_M_many_17 : decode b_M_many 17 = .ok (.ireturn, 1) := by decide +kernel
theorem d_M_many_18 : decode b_M_many 18 = .ok (.iload_n 1, 1) := by decide +kernel
theorem d_M_many_19 : decode b_M_many 19 = .ok (.ifCond .ne 10, 3) := by decide +kernel
theorem d_M_many_22 : decode b_M_many 22 = .ok (.aload_n 0, 1) := by decide +kernel
theorem d_M_many_23 : decode b_M_many 23 = .ok (.getfield 54, 3) := by decide +kernel
theorem d_M_many_26 : decode b_M_many 26 = .ok (.goto 31, 3) := by decide +kernel
theorem d_M_many_29 : decode b_M_many 29 = .ok (.iload_n 1, 1) := by decide +kernel
theorem d_M_many_30 : decode b_M_many 30 = .ok (.iconst 1, 1) := by decide +kernel
theorem d_M_many_31 : decode b_M_many 31 = .ok (.if_icmp .ne 10, 3) := by decide +kernel
theorem d_M_many_34 : decode b_M_many 34 = .ok (.aload_n 0, 1) := by decide +kernel
theorem d_M_many_35 : decode b_M_many 35 = .ok (.getfield 57, 3) := by decide +kernel
theorem d_M_many_38 : decode b_M_many 38 = .ok (.goto 19, 3) := by decide +kernel
theorem d_M_many_41 : decode b_M_many 41 = .ok (.iload_n 1, 1) := by decide +kernel
theorem d_M_many_42 : decode b_M_many 42 = .ok (.iconst 2, 1) := by decide +kernel
theorem d_M_many_43 : decode b_M_many 43 = .ok (.if_icmp .ne 10, 3) := by decide +kernel
theorem d_M_many_46 : decode b_M_many 46 = .ok (.aload_n 0, 1) := by decide +kernel
theorem d_M_many_47 : decode b_M_many 47 = .ok (.getfield 60, 3) := by decide +kernel
theorem d_M_many_50 : decode b_M_many 50 = .ok (.goto 7, 3) := by decide +kernel
theorem d_M_many_53 : decode b_M_many 53 = .ok (.aload_n 0, 1) := by decide +kernel
theorem d_M_many_54 : decode b_M_many 54 = .ok (.getfield 81, 3) := by decide +kernel
theorem d_M_many_57 : decode b_M_many 57 = .ok (.ireturn, 1) := by decide +kernel
theorem d_M_wallAt_0 : decode b_M_wallAt 0 = .ok (.aload_n 0, 1) := by decide +kernel
theorem d_M_wallAt_1 : decode b_M_wallAt 1 = .ok (.aload_n 0, 1) := by decide +kernel
theorem d_M_wallAt_2 : decode b_M_wallAt 2 = .ok (.iload_n 1, 1) := by decide +kernel
theorem d_M_wallAt_3 : decode b_M_wallAt 3 = .ok (.invokevirtual 120, 3) := by decide +kernel
theorem d_M_wallAt_6 : decode b_M_wallAt 6 = .ok (.ifCond .eq 19, 3) := by decide +kernel
theorem d_M_wallAt_9 : decode b_M_wallAt 9 = .ok (.iload_n 2, 1) := by decide +kernel
theorem d_M_wallAt_10 : decode b_M_wallAt 10 = .ok (.i2l, 1) := by decide +kernel
theorem d_M_wallAt_11 : decode b_M_wallAt 11 = .ok (.lconst 0, 1) := by decide +kernel
theorem d_M_wallAt_12 : decode b_M_wallAt 12 = .ok (.ldc2_w 152, 3) := by decide +kernel
theorem d_M_wallAt_15 : decode b_M_wallAt 15 = .ok (.invokestatic 67, 3) := by decide +kernel
theorem d_M_wallAt_18 : decode b_M_wallAt 18 = .ok (.ifCond .eq 7, 3) := by decide +kernel
theorem d_M_wallAt_21 : decode b_M_wallAt 21 = .ok (.iconst 1, 1) := by decide +kernel
theorem d_M_wallAt_22 : decode b_M_wallAt 22 = .ok (.goto 4, 3) := by decide +kernel
theorem d_M_wallAt_25 : decode b_M_wallAt 25 = .ok (.iconst 0, 1) := by decide +kernel
theorem d_M_wallAt_26 : decode b_M_wallAt 26 = .ok (.invokevirtual 148, 3) := by decide +kernel
theorem d_M_wallAt_29 : decode b_M_wallAt 29 = .ok (.ifCond .ne 5, 3) := by decide +kernel
theorem d_M_wallAt_32 : decode b_M_wallAt 32 = .ok (.lconst 0, 1) := by decide +kernel
theorem d_M_wallAt_33 : decode b_M_wallAt 33 = .ok (.lreturn, 1) := by decide +kernel
theorem d_M_wallAt_34 : decode b_M_wallAt 34 = .ok (.iload_n 2, 1) := by decide +kernel
theorem d_M_wallAt_35 : decode b_M_wallAt 35 = .ok (.tableswitch 117 0 8 #[49, 57, 65, 73, 81, 89, 97, 104, 111], 49) := by decide +kernel
theorem d_M_wallAt_84 : decode b_M_wallAt 84 = .ok (.aload_n 0, 1) := by decide +kernel
theorem d_M_wallAt_85 : decode b_M_wallAt 85 = .ok (.getfield 19, 3) := by decide +kernel
theorem d_M_wallAt_88 : decode b_M_wallAt 88 = .ok (.iload_n 1, 1) := by decide +kernel
theorem d_M_wallAt_89 : decode b_M_wallAt 89 = .ok (.iaload, 1) := by decide +kernel
theorem d_M_wallAt_90 : decode b_M_wallAt 90 = .ok (.i2l, 1) := by decide +kernel
theorem d_M_wallAt_91 : decode b_M_wallAt 91 = .ok (.lreturn, 1) := by decide +kernel
theorem d_M_wallAt_92 : decode b_M_wallAt 92 = .ok (.aload_n 0, 1) := by decide +kernel
theorem d_M_wallAt_93 : decode b_M_wallAt 93 = .ok (.getfield 22, 3) := by decide +kernel
theorem d_M_wallAt_96 : decode b_M_wallAt 96 = .ok (.iload_n 1, 1) := by decide +kernel
theorem d_M_wallAt_97 : decode b_M_wallAt 97 = .ok (.iaload, 1) := by decide +kernel
theorem d_M_wallAt_98 : decode b_M_wallAt 98 = .ok (.i2l, 1) := by decide +kernel
theorem d_M_wallAt_99 : decode b_M_wallAt 99 = .ok (.lreturn, 1) := by decide +kernel
theorem d_M_wallAt_100 : decode b_M_wallAt 100 = .ok (.aload_n 0, 1) := by decide +kernel
theorem d_M_wallAt_101 : decode b_M_wallAt 101 = .ok (.getfield 25, 3) := by decide +kernel
theorem d_M_wallAt_104 : decode b_M_wallAt 104 = .ok (.iload_n 1, 1) := by decide +kernel
theorem d_M_wallAt_105 : decode b_M_wallAt 105 = .ok (.iaload, 1) := by decide +kernel
theorem d_M_wallAt_106 : decode b_M_wallAt 106 = .ok (.i2l, 1) := by decide +kernel
theorem d_M_wallAt_107 : decode b_M_wallAt 107 = .ok (.lreturn, 1) := by decide +kernel
theorem d_M_wallAt_108 : decode b_M_wallAt 108 = .ok (.aload_n 0, 1) := by decide +kernel
theorem d_M_wallAt_109 : decode b_M_wallAt 109 = .ok (.getfield 28, 3) := by decide +kernel
theorem d_M_wallAt_112 : decode b_M_wallAt 112 = .ok (.iload_n 1, 1) := by decide +kernel
theorem d_M_wallAt_113 : decode b_M_wallAt 113 = .ok (.iaload, 1) := by decide +kernel
theorem d_M_wallAt_114 : decode b_M_wallAt 114 = .ok (.i2l, 1) := by decide +kernel
theorem d_M_wallAt_115 : decode b_M_wallAt 115 = .ok (.lreturn, 1) := by decide +kernel
theorem d_M_wallAt_116 : decode b_M_wallAt 116 = .ok (.aload_n 0, 1) := by decide +kernel
theorem d_M_wallAt_117 : decode b_M_wallAt 117 = .ok (.getfield 31, 3) := by decide +kernel
theorem d_M_wallAt_120 : decode b_M_wallAt 120 = .ok (.iload_n 1, 1) := by decide +kernel
theorem d_M_wallAt_121 : decode b_M_wallAt 121 = .ok (.iaload, 1) := by decide +kernel
theorem d_M_wallAt_122 : decode b_M_wallAt 122 = .ok (.i2l, 1) := by decide +kernel
theorem d_M_wallAt_123 : decode b_M_wallAt 123 = .ok (.lreturn, 1) := by decide +kernel
theorem d_M_wallAt_124 : decode b_M_wallAt 124 = .ok (.aload_n 0, 1) := by decide +kernel
theorem d_M_wallAt_125 : decode b_M_wallAt 125 = .ok (.getfield 34, 3) := by decide +kernel
theorem d_M_wallAt_128 : decode b_M_wallAt 128 = .ok (.iload_n 1, 1) := by decide +kernel
theorem d_M_wallAt_129 : decode b_M_wallAt 129 = .ok (.iaload, 1) := by decide +kernel
theorem d_M_wallAt_130 : decode b_M_wallAt 130 = .ok (.i2l, 1) := by decide +kernel
theorem d_M_wallAt_131 : decode b_M_wallAt 131 = .ok (.lreturn, 1) := by decide +kernel
theorem d_M_wallAt_132 : decode b_M_wallAt 132 = .ok (.aload_n 0, 1) := by decide +kernel
theorem d_M_wallAt_133 : decode b_M_wallAt 133 = .ok (.iload_n 1, 1) := by decide +kernel
theorem d_M_wallAt_134 : decode b_M_wallAt 134 = .ok (.invokevirtual 123, 3) := by decide +kernel
theorem d_M_wallAt_137 : decode b_M_wallAt 137 = .ok (.i2l, 1) := by decide +kernel
theorem d_M_wallAt_138 : decode b_M_wallAt 138 = .ok (.lreturn, 1) := by decide +kernel
theorem d_M_wallAt_139 : decode b_M_wallAt 139 = .ok (.aload_n 0, 1) := by decide +kernel
theorem d_M_wallAt_140 : decode b_M_wallAt 140 = .ok (.iload_n 1, 1) := by decide +kernel
theorem d_M_wallAt_141 : decode b_M_wallAt 141 = .ok (.invokevirtual 141, 3) := by decide +kernel
theorem d_M_wallAt_144 : decode b_M_wallAt 144 = .ok (.i2l, 1) := by decide +kernel
theorem d_M_wallAt_145 : decode b_M_wallAt 145 = .ok (.lreturn, 1) := by decide +kernel
theorem d_M_wallAt_146 : decode b_M_wallAt 146 = .ok (.aload_n 0, 1) := by decide +kernel
theorem d_M_wallAt_147 : decode b_M_wallAt 147 = .ok (.iload_n 1, 1) := by decide +kernel
theorem d_M_wallAt_148 : decode b_M_wallAt 148 = .ok (.invokevirtual 154, 3) := by decide +kernel
theorem d_M_wallAt_151 : decode b_M_wallAt 151 = .ok (.lreturn, 1) := by decide +kernel
theorem d_M_wallAt_152 : decode b_M_wallAt 152 = .ok (.aload_n 0, 1) := by decide +kernel
theorem d_M_wallAt_153 : decode b_M_wallAt 153 = .ok (.iload_n 1, 1) := by decide +kernel
theorem d_M_wallAt_154 : decode b_M_wallAt 154 = .ok (.invokevirtual 126, 3) := by decide +kernel
theorem d_M_wallAt_157 : decode b_M_wallAt 157 = .ok (.i2l, 1) := by decide +kernel
theorem d_M_wallAt_158 : decode b_M_wallAt 158 = .ok (.lreturn, 1) := by decide +kernel
theorem d_M_openingAt_0 : decode b_M_openingAt 0 = .ok (.aload_n 0, 1) := by decide +kernel
theorem d_M_openingAt_1 : decode b_M_openingAt 1 = .ok (.iload_n 1, 1) := by decide +kernel
theorem d_M_openingAt_2 : decode b_M_openingAt 2 = .ok (.ifCond .lt 57, 3) := by decide +kernel
theorem d_M_openingAt_5 : decode b_M_openingAt 5 = .ok (.iload_n 1, 1) := by decide +kernel
theorem d_M_openingAt_6 : decode b_M_openingAt 6 = .ok (.aload_n 0, 1) := by decide +kernel
theorem d_M_openingAt_7 : decode b_M_openingAt 7 = .ok (.getfield 81, 3) := by decide +kernel
theorem d_M_openingAt_10 : decode b_M_openingAt 10 = .ok (.if_icmp .ge 49, 3) := by decide +kernel
theorem d_M_openingAt_13 : decode b_M_openingAt 13 = .ok (.iload_n 2, 1) := by decide +kernel
theorem d_M_openingAt_14 : decode b_M_openingAt 14 = .ok (.i2l, 1) := by decide +kernel
theorem d_M_openingAt_15 : decode b_M_openingAt 15 = .ok (.lconst 0, 1) := by decide +kernel
theorem d_M_openingAt_16 : decode b_M_openingAt 16 = .ok (.ldc2_w 158, 3) := by decide +kernel
theorem d_M_openingAt_19 : decode b_M_openingAt 19 = .ok (.invokestatic 67, 3) := by decide +kernel
theorem d_M_openingAt_22 : decode b_M_openingAt 22 = .ok (.ifCond .eq 37, 3) := by decide +kernel
theorem d_M_openingAt_25 : decode b_M_openingAt 25 = .ok (.aload_n 0, 1) := by decide +kernel
theorem d_M_openingAt_26 : decode b_M_openingAt 26 = .ok (.getfield 37, 3) := by decide +kernel
theorem d_M_openingAt_29 : decode b_M_openingAt 29 = .ok (.aload_n 0, 1) := by decide +kernel
theorem d_M_openingAt_30 : decode b_M_openingAt 30 = .ok (.getfield 41, 3) := by decide +kernel
theorem d_M_openingAt_33 : decode b_M_openingAt 33 = .ok (.iload_n 1, 1) := by decide +kernel
theorem d_M_openingAt_34 : decode b_M_openingAt 34 = .ok (.ifCond .lt 11, 3) := by decide +kernel
theorem d_M_openingAt_37 : decode b_M_openingAt 37 = .ok (.iload_n 1, 1) := by decide +kernel
theorem d_M_openingAt_38 : decode b_M_openingAt 38 = .ok (.aload_n 0, 1) := by decide +kernel
theorem d_M_openingAt_39 : decode b_M_openingAt 39 = .ok (.getfield 81, 3) := by decide +kernel
theorem d_M_openingAt_42 : decode b_M_openingAt 42 = .ok (.if_icmp .lt 7, 3) := by decide +kernel
theorem d_M_openingAt_45 : decode b_M_openingAt 45 = .ok (.iconst 0, 1) := by decide +kernel
theorem d_M_openingAt_46 : decode b_M_openingAt 46 = .ok (.goto 4, 3) := by decide +kernel
theorem d_M_openingAt_49 : decode b_M_openingAt 49 = .ok (.iload_n 1, 1) := by decide +kernel
theorem d_M_openingAt_50 : decode b_M_openingAt 50 = .ok (.iaload, 1) := by decide +kernel
theorem d_M_openingAt_51 : decode b_M_openingAt 51 = .ok (.baload, 1) := by decide +kernel
theorem d_M_openingAt_52 : decode b_M_openingAt 52 = .ok (.ifCond .eq 7, 3) := by decide +kernel
theorem d_M_openingAt_55 : decode b_M_openingAt 55 = .ok (.iconst 1, 1) := by decide +kernel
theorem d_M_openingAt_56 : decode b_M_openingAt 56 = .ok (.goto 4, 3) := by decide +kernel
theorem d_M_openingAt_59 : decode b_M_openingAt 59 = .ok (.iconst 0, 1) := by decide +kernel
theorem d_M_openingAt_60 : decode b_M_openingAt 60 = .ok (.invokevirtual 148, 3) := by decide +kernel
theorem d_M_openingAt_63 : decode b_M_openingAt 63 = .ok (.ifCond .ne 5, 3) := by decide +kernel
theorem d_M_openingAt_66 : decode b_M_openingAt 66 = .ok (.iconst 0, 1) := by decide +kernel
theorem d_M_openingAt_67 : decode b_M_openingAt 67 = .ok (.ireturn, 1) := by decide +kernel
theorem d_M_openingAt_68 : decode b_M_openingAt 68 = .ok (.iload_n 2, 1) := by decide +kernel
theorem d_M_openingAt_69 : decode b_M_openingAt 69 = .ok (.ifCond .ne 12, 3) := by decide +kernel
theorem d_M_openingAt_72 : decode b_M_openingAt 72 = .ok (.aload_n 0, 1) := by decide +kernel
theorem d_M_openingAt_73 : decode b_M_openingAt 73 = .ok (.getfield 41, 3) := by decide +kernel
theorem d_M_openingAt_76 : decode b_M_openingAt 76 = .ok (.iload_n 1, 1) := by decide +kernel
theorem d_M_openingAt_77 : decode b_M_openingAt 77 = .ok (.iaload, 1) := by decide +kernel
theorem d_M_openingAt_78 : decode b_M_openingAt 78 = .ok (.goto 23, 3) := by decide +kernel
theorem d_M_openingAt_81 : decode b_M_openingAt 81 = .ok (.iload_n 2, 1) := by decide +kernel
theorem d_M_openingAt_82 : decode b_M_openingAt 82 = .ok (.iconst 1, 1) := by decide +kernel
theorem d_M_openingAt_83 : decode b_M_openingAt 83 = .ok (.if_icmp .ne 12, 3) := by decide +kernel
theorem d_M_openingAt_86 : decode b_M_openingAt 86 = .ok (.aload_n 0, 1) := by decide +kernel
theorem d_M_openingAt_87 : decode b_M_openingAt 87 = .ok (.getfield 44, 3) := by decide +kernel
theorem d_M_openingAt_90 : decode b_M_openingAt 90 = .ok (.iload_n 1, 1) := by decide +kernel
theorem d_M_openingAt_91 : decode b_M_openingAt 91 = .ok (.iaload, 1) := by decide +kernel
theorem d_M_openingAt_92 : decode b_M_openingAt 92 = .ok (.goto 9, 3) := by decide +kernel
theorem d_M_openingAt_95 : decode b_M_openingAt 95 = .ok (.aload_n 0, 1) := by decide +kernel
theorem d_M_openingAt_96 : decode b_M_openingAt 96 = .ok (.getfield 47, 3) := by decide +kernel
theorem d_M_openingAt_99 : decode b_M_openingAt 99 = .ok (.iload_n 1, 1) := by decide +kernel
theorem d_M_openingAt_100 : decode b_M_openingAt 100 = .ok (.iaload, 1) := by decide +kernel
theorem d_M_openingAt_101 : decode b_M_openingAt 101 = .ok (.ireturn, 1) := by decide +kernel
theorem d_M_storeyAt_0 : decode b_M_storeyAt 0 = .ok (.aload_n 0, 1) := by decide +kernel
theorem d_M_storeyAt_1 : decode b_M_storeyAt 1 = .ok (.aload_n 0, 1) := by decide +kernel
theorem d_M_storeyAt_2 : decode b_M_storeyAt 2 = .ok (.iload_n 1, 1) := by decide +kernel
theorem d_M_storeyAt_3 : decode b_M_storeyAt 3 = .ok (.invokevirtual 106, 3) := by decide +kernel
theorem d_M_storeyAt_6 : decode b_M_storeyAt 6 = .ok (.ifCond .eq 19, 3) := by decide +kernel
theorem d_M_storeyAt_9 : decode b_M_storeyAt 9 = .ok (.iload_n 2, 1) := by decide +kernel
theorem d_M_storeyAt_10 : decode b_M_storeyAt 10 = .ok (.i2l, 1) := by decide +kernel
theorem d_M_storeyAt_11 : decode b_M_storeyAt 11 = .ok (.lconst 0, 1) := by decide +kernel
theorem d_M_storeyAt_12 : decode b_M_storeyAt 12 = .ok (.ldc2_w 146, 3) := by decide +kernel
theorem d_M_storeyAt_15 : decode b_M_storeyAt 15 = .ok (.invokestatic 67, 3) := by decide +kernel
theorem d_M_storeyAt_18 : decode b_M_storeyAt 18 = .ok (.ifCond .eq 7, 3) := by decide +kernel
theorem d_M_storeyAt_21 : decode b_M_storeyAt 21 = .ok (.iconst 1, 1) := by decide +kernel
theorem d_M_storeyAt_22 : decode b_M_storeyAt 22 = .ok (.goto 4, 3) := by decide +kernel
theorem d_M_storeyAt_25 : decode b_M_storeyAt 25 = .ok (.iconst 0, 1) := by decide +kernel
theorem d_M_storeyAt_26 : decode b_M_storeyAt 26 = .ok (.invokevirtual 148, 3) := by decide +kernel
theorem d_M_storeyAt_29 : decode b_M_storeyAt 29 = .ok (.ifCond .ne 5, 3) := by decide +kernel
theorem d_M_storeyAt_32 : decode b_M_storeyAt 32 = .ok (.lconst 0, 1) := by decide +kernel
theorem d_M_storeyAt_33 : decode b_M_storeyAt 33 = .ok (.lreturn, 1) := by decide +kernel
theorem d_M_storeyAt_34 : decode b_M_storeyAt 34 = .ok (.lconst 0, 1) := by decide +kernel
theorem d_M_storeyAt_35 : decode b_M_storeyAt 35 = .ok (.lstore_n 3, 1) := by decide +kernel
theorem d_M_storeyAt_36 : decode b_M_storeyAt 36 = .ok (.lconst 0, 1) := by decide +kernel
theorem d_M_storeyAt_37 : decode b_M_storeyAt 37 = .ok (.lstore 5, 2) := by decide +kernel
theorem d_M_storeyAt_39 : decode b_M_storeyAt 39 = .ok (.iconst 0, 1) := by decide +kernel
theorem d_M_storeyAt_40 : decode b_M_storeyAt 40 = .ok (.istore 7, 2) := by decide +kernel
theorem d_M_storeyAt_42 : decode b_M_storeyAt 42 = .ok (.iload 7, 2) := by decide +kernel
theorem d_M_storeyAt_44 : decode b_M_storeyAt 44 = .ok (.aload_n 0, 1) := by decide +kernel
theorem d_M_storeyAt_45 : decode b_M_storeyAt 45 = .ok (.getfield 60, 3) := by decide +kernel
theorem d_M_storeyAt_48 : decode b_M_storeyAt 48 = .ok (.if_icmp .ge 45, 3) := by decide +kernel
theorem d_M_storeyAt_51 : decode b_M_storeyAt 51 = .ok (.aload_n 0, 1) := by decide +kernel
theorem d_M_storeyAt_52 : decode b_M_storeyAt 52 = .ok (.getfield 37, 3) := by decide +kernel
theorem d_M_storeyAt_55 : decode b_M_storeyAt 55 = .ok (.iload 7, 2) := by decide +kernel
theorem d_M_storeyAt_57 : decode b_M_storeyAt 57 = .ok (.baload, 1) := by decide +kernel
theorem d_M_storeyAt_58 : decode b_M_storeyAt 58 = .ok (.ifCond .eq 29, 3) := by decide +kernel
theorem d_M_storeyAt_61 : decode b_M_storeyAt 61 = .ok (.aload_n 0, 1) := by decide +kernel
theorem d_M_storeyAt_62 : decode b_M_storeyAt 62 = .ok (.getfield 19, 3) := by decide +kernel
theorem d_M_storeyAt_65 : decode b_M_storeyAt 65 = .ok (.iload 7, 2) := by decide +kernel
theorem d_M_storeyAt_67 : decode b_M_storeyAt 67 = .ok (.iaload, 1) := by decide +kernel
theorem d_M_storeyAt_68 : decode b_M_storeyAt 68 = .ok (.iload_n 1, 1) := by decide +kernel
theorem d_M_storeyAt_69 : decode b_M_storeyAt 69 = .ok (.if_icmp .ne 18, 3) := by decide +kernel
theorem d_M_storeyAt_72 : decode b_M_storeyAt 72 = .ok (.lload_n 3, 1) := by decide +kernel
theorem d_M_storeyAt_73 : decode b_M_storeyAt 73 = .ok (.lconst 1, 1) := by decide +kernel
theorem d_M_storeyAt_74 : decode b_M_storeyAt 74 = .ok (.ladd, 1) := by decide +kernel
theorem d_M_storeyAt_75 : decode b_M_storeyAt 75 = .ok (.lstore_n 3, 1) := by decide +kernel
theorem d_M_storeyAt_76 : decode b_M_storeyAt 76 = .ok (.lload 5, 2) := by decide +kernel
theorem d_M_storeyAt_78 : decode b_M_storeyAt 78 = .ok (.aload_n 0, 1) := by decide +kernel
theorem d_M_storeyAt_79 : decode b_M_storeyAt 79 = .ok (.iload 7, 2) := by decide +kernel
theorem d_M_storeyAt_81 : decode b_M_storeyAt 81 = .ok (.invokevirtual 154, 3) := by decide +kernel
theorem d_M_storeyAt_84 : decode b_M_storeyAt 84 = .ok (.ladd, 1) := by decide +kernel
theorem d_M_storeyAt_85 : decode b_M_storeyAt 85 = .ok (.lstore 5, 2) := by decide +kernel
theorem d_M_storeyAt_87 : decode b_M_storeyAt 87 = .ok (.iinc 7 1, 3) := by decide +kernel
theorem d_M_storeyAt_90 : decode b_M_storeyAt 90 = .ok (.goto (-48), 3) := by decide +kernel
theorem d_M_storeyAt_93 : decode b_M_storeyAt 93 = .ok (.iload_n 2, 1) := by decide +kernel
theorem d_M_storeyAt_94 : decode b_M_storeyAt 94 = .ok (.ifCond .ne 13, 3) := by decide +kernel
theorem d_M_storeyAt_97 : decode b_M_storeyAt 97 = .ok (.aload_n 0, 1) := by decide +kernel
theorem d_M_storeyAt_98 : decode b_M_storeyAt 98 = .ok (.getfield 13, 3) := by decide +kernel
theorem d_M_storeyAt_101 : decode b_M_storeyAt 101 = .ok (.iload_n 1, 1) := by decide +kernel
theorem d_M_storeyAt_102 : decode b_M_storeyAt 102 = .ok (.iaload, 1) := by decide +kernel
theorem d_M_storeyAt_103 : decode b_M_storeyAt 103 = .ok (.i2l, 1) := by decide +kernel
theorem d_M_storeyAt_104 : decode b_M_storeyAt 104 = .ok (.goto 28, 3) := by decide +kernel
theorem d_M_storeyAt_107 : decode b_M_storeyAt 107 = .ok (.iload_n 2, 1) := by decide +kernel
theorem d_M_storeyAt_108 : decode b_M_storeyAt 108 = .ok (.iconst 1, 1) := by decide +kernel
theorem d_M_storeyAt_109 : decode b_M_storeyAt 109 = .ok (.if_icmp .ne 12, 3) := by decide +kernel
theorem d_M_storeyAt_112 : decode b_M_storeyAt 112 = .ok (.aload_n 0, 1) := by decide +kernel
theorem d_M_storeyAt_113 : decode b_M_storeyAt 113 = .ok (.iload_n 1, 1) := by decide +kernel
theorem d_M_storeyAt_114 : decode b_M_storeyAt 114 = .ok (.invokevirtual 138, 3) := by decide +kernel
theorem d_M_storeyAt_117 : decode b_M_storeyAt 117 = .ok (.i2l, 1) := by decide +kernel
theorem d_M_storeyAt_118 : decode b_M_storeyAt 118 = .ok (.goto 14, 3) := by decide +kernel
theorem d_M_storeyAt_121 : decode b_M_storeyAt 121 = .ok (.iload_n 2, 1) := by decide +kernel
theorem d_M_storeyAt_122 : decode b_M_storeyAt 122 = .ok (.iconst 2, 1) := by decide +kernel
theorem d_M_storeyAt_123 : decode b_M_storeyAt 123 = .ok (.if_icmp .ne 7, 3) := by decide +kernel
theorem d_M_storeyAt_126 : decode b_M_storeyAt 126 = .ok (.lload_n 3, 1) := by decide +kernel
theorem d_M_storeyAt_127 : decode b_M_storeyAt 127 = .ok (.goto 5, 3) := by decide +kernel
theorem d_M_storeyAt_130 : decode b_M_storeyAt 130 = .ok (.lload 5, 2) := by decide +kernel
theorem d_M_storeyAt_132 : decode b_M_storeyAt 132 = .ok (.lreturn, 1) := by decide +kernel
theorem d_M_typeAt_0 : decode b_M_typeAt 0 = .ok (.aload_n 0, 1) := by decide +kernel
theorem d_M_typeAt_1 : decode b_M_typeAt 1 = .ok (.aload_n 0, 1) := by decide +kernel
theorem d_M_typeAt_2 : decode b_M_typeAt 2 = .ok (.iload_n 1, 1) := by decide +kernel
theorem d_M_typeAt_3 : decode b_M_typeAt 3 = .ok (.invokevirtual 113, 3) := by decide +kernel
theorem d_M_typeAt_6 : decode b_M_typeAt 6 = .ok (.ifCond .eq 19, 3) := by decide +kernel
theorem d_M_typeAt_9 : decode b_M_typeAt 9 = .ok (.iload_n 2, 1) := by decide +kernel
theorem d_M_typeAt_10 : decode b_M_typeAt 10 = .ok (.i2l, 1) := by decide +kernel
theorem d_M_typeAt_11 : decode b_M_typeAt 11 = .ok (.lconst 0, 1) := by decide +kernel
theorem d_M_typeAt_12 : decode b_M_typeAt 12 = .ok (.ldc2_w 158, 3) := by decide +kernel
theorem d_M_typeAt_15 : decode b_M_typeAt 15 = .ok (.invokestatic 67, 3) := by decide +kernel
theorem d_M_typeAt_18 : decode b_M_typeAt 18 = .ok (.ifCond .eq 7, 3) := by decide +kernel
theorem d_M_typeAt_21 : decode b_M_typeAt 21 = .ok (.iconst 1, 1) := by decide +kernel
theorem d_M_typeAt_22 : decode b_M_typeAt 22 = .ok (.goto 4, 3) := by decide +kernel
theorem d_M_typeAt_25 : decode b_M_typeAt 25 = .ok (.iconst 0, 1) := by decide +kernel
theorem d_M_typeAt_26 : decode b_M_typeAt 26 = .ok (.invokevirtual 148, 3) := by decide +kernel
theorem d_M_typeAt_29 : decode b_M_typeAt 29 = .ok (.ifCond .ne 5, 3) := by decide +kernel
theorem d_M_typeAt_32 : decode b_M_typeAt 32 = .ok (.lconst 0, 1) := by decide +kernel
theorem d_M_typeAt_33 : decode b_M_typeAt 33 = .ok (.lreturn, 1) := by decide +kernel
theorem d_M_typeAt_34 : decode b_M_typeAt 34 = .ok (.lconst 0, 1) := by decide +kernel
theorem d_M_typeAt_35 : decode b_M_typeAt 35 = .ok (.lstore_n 3, 1) := by decide +kernel
theorem d_M_typeAt_36 : decode b_M_typeAt 36 = .ok (.lconst 0, 1) := by decide +kernel
theorem d_M_typeAt_37 : decode b_M_typeAt 37 = .ok (.lstore 5, 2) := by decide +kernel
theorem d_M_typeAt_39 : decode b_M_typeAt 39 = .ok (.iconst 0, 1) := by decide +kernel
theorem d_M_typeAt_40 : decode b_M_typeAt 40 = .ok (.istore 7, 2) := by decide +kernel
theorem d_M_typeAt_42 : decode b_M_typeAt 42 = .ok (.iload 7, 2) := by decide +kernel
theorem d_M_typeAt_44 : decode b_M_typeAt 44 = .ok (.aload_n 0, 1) := by decide +kernel
theorem d_M_typeAt_45 : decode b_M_typeAt 45 = .ok (.getfield 60, 3) := by decide +kernel
theorem d_M_typeAt_48 : decode b_M_typeAt 48 = .ok (.if_icmp .ge 46, 3) := by decide +kernel
theorem d_M_typeAt_51 : decode b_M_typeAt 51 = .ok (.aload_n 0, 1) := by decide +kernel
theorem d_M_typeAt_52 : decode b_M_typeAt 52 = .ok (.getfield 37, 3) := by decide +kernel
theorem d_M_typeAt_55 : decode b_M_typeAt 55 = .ok (.iload 7, 2) := by decide +kernel
theorem d_M_typeAt_57 : decode b_M_typeAt 57 = .ok (.baload, 1) := by decide +kernel
theorem d_M_typeAt_58 : decode b_M_typeAt 58 = .ok (.ifCond .eq 30, 3) := by decide +kernel
theorem d_M_typeAt_61 : decode b_M_typeAt 61 = .ok (.aload_n 0, 1) := by decide +kernel
theorem d_M_typeAt_62 : decode b_M_typeAt 62 = .ok (.getfield 22, 3) := by decide +kernel
theorem d_M_typeAt_65 : decode b_M_typeAt 65 = .ok (.iload 7, 2) := by decide +kernel
theorem d_M_typeAt_67 : decode b_M_typeAt 67 = .ok (.iaload, 1) := by decide +kernel
theorem d_M_typeAt_68 : decode b_M_typeAt 68 = .ok (.iload_n 1, 1) := by decide +kernel
theorem d_M_typeAt_69 : decode b_M_typeAt 69 = .ok (.if_icmp .ne 19, 3) := by decide +kernel
theorem d_M_typeAt_72 : decode b_M_typeAt 72 = .ok (.lload_n 3, 1) := by decide +kernel
theorem d_M_typeAt_73 : decode b_M_typeAt 73 = .ok (.lconst 1, 1) := by decide +kernel
theorem d_M_typeAt_74 : decode b_M_typeAt 74 = .ok (.ladd, 1) := by decide +kernel
theorem d_M_typeAt_75 : decode b_M_typeAt 75 = .ok (.lstore_n 3, 1) := by decide +kernel
theorem d_M_typeAt_76 : decode b_M_typeAt 76 = .ok (.lload 5, 2) := by decide +kernel
theorem d_M_typeAt_78 : decode b_M_typeAt 78 = .ok (.aload_n 0, 1) := by decide +kernel
theorem d_M_typeAt_79 : decode b_M_typeAt 79 = .ok (.iload 7, 2) := by decide +kernel
theorem d_M_typeAt_81 : decode b_M_typeAt 81 = .ok (.invokevirtual 141, 3) := by decide +kernel
theorem d_M_typeAt_84 : decode b_M_typeAt 84 = .ok (.i2l, 1) := by decide +kernel
theorem d_M_typeAt_85 : decode b_M_typeAt 85 = .ok (.ladd, 1) := by decide +kernel
theorem d_M_typeAt_86 : decode b_M_typeAt 86 = .ok (.lstore 5, 2) := by decide +kernel
theorem d_M_typeAt_88 : decode b_M_typeAt 88 = .ok (.iinc 7 1, 3) := by decide +kernel
theorem d_M_typeAt_91 : decode b_M_typeAt 91 = .ok (.goto (-49), 3) := by decide +kernel
theorem d_M_typeAt_94 : decode b_M_typeAt 94 = .ok (.iload_n 2, 1) := by decide +kernel
theorem d_M_typeAt_95 : decode b_M_typeAt 95 = .ok (.ifCond .ne 13, 3) := by decide +kernel
theorem d_M_typeAt_98 : decode b_M_typeAt 98 = .ok (.aload_n 0, 1) := by decide +kernel
theorem d_M_typeAt_99 : decode b_M_typeAt 99 = .ok (.getfield 16, 3) := by decide +kernel
theorem d_M_typeAt_102 : decode b_M_typeAt 102 = .ok (.iload_n 1, 1) := by decide +kernel
theorem d_M_typeAt_103 : decode b_M_typeAt 103 = .ok (.iaload, 1) := by decide +kernel
theorem d_M_typeAt_104 : decode b_M_typeAt 104 = .ok (.i2l, 1) := by decide +kernel
theorem d_M_typeAt_105 : decode b_M_typeAt 105 = .ok (.goto 14, 3) := by decide +kernel
theorem d_M_typeAt_108 : decode b_M_typeAt 108 = .ok (.iload_n 2, 1) := by decide +kernel
theorem d_M_typeAt_109 : decode b_M_typeAt 109 = .ok (.iconst 1, 1) := by decide +kernel
theorem d_M_typeAt_110 : decode b_M_typeAt 110 = .ok (.if_icmp .ne 7, 3) := by decide +kernel
theorem d_M_typeAt_113 : decode b_M_typeAt 113 = .ok (.lload_n 3, 1) := by decide +kernel
theorem d_M_typeAt_114 : decode b_M_typeAt 114 = .ok (.goto 5, 3) := by decide +kernel
theorem d_M_typeAt_117 : decode b_M_typeAt 117 = .ok (.lload 5, 2) := by decide +kernel
theorem d_M_typeAt_119 : decode b_M_typeAt 119 = .ok (.lreturn, 1) := by decide +kernel
theorem d_M_hasBody_0 : decode b_M_hasBody 0 = .ok (.aload_n 0, 1) := by decide +kernel
theorem d_M_hasBody_1 : decode b_M_hasBody 1 = .ok (.getfield 16, 3) := by decide +kernel
theorem d_M_hasBody_4 : decode b_M_hasBody 4 = .ok (.aload_n 0, 1) := by decide +kernel
theorem d_M_hasBody_5 : decode b_M_hasBody 5 = .ok (.getfield 22, 3) := by decide +kernel
theorem d_M_hasBody_8 : decode b_M_hasBody 8 = .ok (.iload_n 1, 1) := by decide +kernel
theorem d_M_hasBody_9 : decode b_M_hasBody 9 = .ok (.iaload, 1) := by decide +kernel
theorem d_M_hasBody_10 : decode b_M_hasBody 10 = .ok (.iaload, 1) := by decide +kernel
theorem d_M_hasBody_11 : decode b_M_hasBody 11 = .ok (.iconst 2, 1) := by decide +kernel
theorem d_M_hasBody_12 : decode b_M_hasBody 12 = .ok (.idiv, 1) := by decide +kernel
theorem d_M_hasBody_13 : decode b_M_hasBody 13 = .ok (.istore 4, 2) := by decide +kernel
theorem d_M_hasBody_15 : decode b_M_hasBody 15 = .ok (.aload_n 0, 1) := by decide +kernel
theorem d_M_hasBody_16 : decode b_M_hasBody 16 = .ok (.iload_n 1, 1) := by decide +kernel
theorem d_M_hasBody_17 : decode b_M_hasBody 17 = .ok (.invokevirtual 132, 3) := by decide +kernel
theorem d_M_hasBody_20 : decode b_M_hasBody 20 = .ok (.istore 5, 2) := by decide +kernel
theorem d_M_hasBody_22 : decode b_M_hasBody 22 = .ok (.iload 5, 2) := by decide +kernel
theorem d_M_hasBody_24 : decode b_M_hasBody 24 = .ok (.ifCond .eq 12, 3) := by decide +kernel
theorem d_M_hasBody_27 : decode b_M_hasBody 27 = .ok (.aload_n 0, 1) := by decide +kernel
theorem d_M_hasBody_28 : decode b_M_hasBody 28 = .ok (.getfield 25, 3) := by decide +kernel
theorem d_M_hasBody_31 : decode b_M_hasBody 31 = .ok (.iload_n 1, 1) := by decide +kernel
theorem d_M_hasBody_32 : decode b_M_hasBody 32 = .ok (.iaload, 1) := by decide +kernel
theorem d_M_hasBody_33 : decode b_M_hasBody 33 = .ok (.goto 9, 3) := by decide +kernel
theorem d_M_hasBody_36 : decode b_M_hasBody 36 = .ok (.aload_n 0, 1) := by decide +kernel
theorem d_M_hasBody_37 : decode b_M_hasBody 37 = .ok (.getfield 28, 3) := by decide +kernel
theorem d_M_hasBody_40 : decode b_M_hasBody 40 = .ok (.iload_n 1, 1) := by decide +kernel
theorem d_M_hasBody_41 : decode b_M_hasBody 41 = .ok (.iaload, 1) := by decide +kernel
theorem d_M_hasBody_42 : decode b_M_hasBody 42 = .ok (.istore 6, 2) := by decide +kernel
theorem d_M_hasBody_44 : decode b_M_hasBody 44 = .ok (.iload 5, 2) := by decide +kernel
theorem d_M_hasBody_46 : decode b_M_hasBody 46 = .ok (.ifCond .eq 12, 3) := by decide +kernel
theorem d_M_hasBody_49 : decode b_M_hasBody 49 = .ok (.aload_n 0, 1) := by decide +kernel
theorem d_M_hasBody_50 : decode b_M_hasBody 50 = .ok (.getfield 31, 3) := by decide +kernel
theorem d_M_hasBody_53 : decode b_M_hasBody 53 = .ok (.iload_n 1, 1) := by decide +kernel
theorem d_M_hasBody_54 : decode b_M_hasBody 54 = .ok (.iaload, 1) := by decide +kernel
theorem d_M_hasBody_55 : decode b_M_hasBody 55 = .ok (.goto 9, 3) := by decide +kernel
theorem d_M_hasBody_58 : decode b_M_hasBody 58 = .ok (.aload_n 0, 1) := by decide +kernel
theorem d_M_hasBody_59 : decode b_M_hasBody 59 = .ok (.getfield 34, 3) := by decide +kernel
theorem d_M_hasBody_62 : decode b_M_hasBody 62 = .ok (.iload_n 1, 1) := by decide +kernel
theorem d_M_hasBody_63 : decode b_M_hasBody 63 = .ok (.iaload, 1) := by decide +kernel
theorem d_M_hasBody_64 : decode b_M_hasBody 64 = .ok (.istore 7, 2) := by decide +kernel
theorem d_M_hasBody_66 : decode b_M_hasBody 66 = .ok (.iload 5, 2) := by decide +kernel
theorem d_M_hasBody_68 : decode b_M_hasBody 68 = .ok (.ifCond .eq 8, 3) := by decide +kernel
theorem d_M_hasBody_71 : decode b_M_hasBody 71 = .ok (.iload_n 3, 1) := by decide +kernel
theorem d_M_hasBody_72 : decode b_M_hasBody 72 = .ok (.i2l, 1) := by decide +kernel
theorem d_M_hasBody_73 : decode b_M_hasBody 73 = .ok (.goto 5, 3) := by decide +kernel
theorem d_M_hasBody_76 : decode b_M_hasBody 76 = .ok (.iload_n 2, 1) := by decide +kernel
theorem d_M_hasBody_77 : decode b_M_hasBody 77 = .ok (.i2l, 1) := by decide +kernel
theorem d_M_hasBody_78 : decode b_M_hasBody 78 = .ok (.iload 5, 2) := by decide +kernel
theorem d_M_hasBody_80 : decode b_M_hasBody 80 = .ok (.ifCond .eq 12, 3) := by decide +kernel
theorem d_M_hasBody_83 : decode b_M_hasBody 83 = .ok (.aload_n 0, 1) := by decide +kernel
theorem d_M_hasBody_84 : decode b_M_hasBody 84 = .ok (.getfield 28, 3) := by decide +kernel
theorem d_M_hasBody_87 : decode b_M_hasBody 87 = .ok (.iload_n 1, 1) := by decide +kernel
theorem d_M_hasBody_88 : decode b_M_hasBody 88 = .ok (.iaload, 1) := by decide +kernel
theorem d_M_hasBody_89 : decode b_M_hasBody 89 = .ok (.goto 9, 3) := by decide +kernel
theorem d_M_hasBody_92 : decode b_M_hasBody 92 = .ok (.aload_n 0, 1) := by decide +kernel
theorem d_M_hasBody_93 : decode b_M_hasBody 93 = .ok (.getfield 25, 3) := by decide +kernel
theorem d_M_hasBody_96 : decode b_M_hasBody 96 = .ok (.iload_n 1, 1) := by decide +kernel
theorem d_M_hasBody_97 : decode b_M_hasBody 97 = .ok (.iaload, 1) := by decide +kernel
theorem d_M_hasBody_98 : decode b_M_hasBody 98 = .ok (.i2l, 1) := by decide +kernel
theorem d_M_hasBody_99 : decode b_M_hasBody 99 = .ok (.lsub, 1) := by decide +kernel
theorem d_M_hasBody_100 : decode b_M_hasBody 100 = .ok (.lstore 8, 2) := by decide +kernel
theorem d_M_hasBody_102 : decode b_M_hasBody 102 = .ok (.iload 5, 2) := by decide +kernel
theorem d_M_hasBody_104 : decode b_M_hasBody 104 = .ok (.ifCond .eq 7, 3) := by decide +kernel
theorem d_M_hasBody_107 : decode b_M_hasBody 107 = .ok (.iload_n 2, 1) := by decide +kernel
theorem d_M_hasBody_108 : decode b_M_hasBody 108 = .ok (.goto 4, 3) := by decide +kernel
theorem d_M_hasBody_111 : decode b_M_hasBody 111 = .ok (.iload_n 3, 1) := by decide +kernel
theorem d_M_hasBody_112 : decode b_M_hasBody 112 = .ok (.istore 10, 2) := by decide +kernel
theorem d_M_hasBody_114 : decode b_M_hasBody 114 = .ok (.lload 8, 2) := by decide +kernel
theorem d_M_hasBody_116 : decode b_M_hasBody 116 = .ok (.iload 4, 2) := by decide +kernel
theorem d_M_hasBody_118 : decode b_M_hasBody 118 = .ok (.ineg, 1) := by decide +kernel
theorem d_M_hasBody_119 : decode b_M_hasBody 119 = .ok (.i2l, 1) := by decide +kernel
theorem d_M_hasBody_120 : decode b_M_hasBody 120 = .ok (.lcmp, 1) := by decide +kernel
theorem d_M_hasBody_121 : decode b_M_hasBody 121 = .ok (.ifCond .lt 54, 3) := by decide +kernel
theorem d_M_hasBody_124 : decode b_M_hasBody 124 = .ok (.lload 8, 2) := by decide +kernel
theorem d_M_hasBody_126 : decode b_M_hasBody 126 = .ok (.iload 4, 2) := by decide +kernel
theorem d_M_hasBody_128 : decode b_M_hasBody 128 = .ok (.i2l, 1) := by decide +kernel
theorem d_M_hasBody_129 : decode b_M_hasBody 129 = .ok (.lcmp, 1) := by decide +kernel
theorem d_M_hasBody_130 : decode b_M_hasBody 130 = .ok (.ifCond .gt 45, 3) := by decide +kernel
theorem d_M_hasBody_133 : decode b_M_hasBody 133 = .ok (.iload 10, 2) := by decide +kernel
theorem d_M_hasBody_135 : decode b_M_hasBody 135 = .ok (.iload 6, 2) := by decide +kernel
theorem d_M_hasBody_137 : decode b_M_hasBody 137 = .ok (.iload 7, 2) := by decide +kernel
theorem d_M_hasBody_139 : decode b_M_hasBody 139 = .ok (.if_icmp .ge 8, 3) := by decide +kernel
theorem d_M_hasBody_142 : decode b_M_hasBody 142 = .ok (.iload 6, 2) := by decide +kernel
theorem d_M_hasBody_144 : decode b_M_hasBody 144 = .ok (.goto 5, 3) := by decide +kernel
theorem d_M_hasBody_147 : decode b_M_hasBody 147 = .ok (.iload 7, 2) := by decide +kernel
theorem d_M_hasBody_149 : decode b_M_hasBody 149 = .ok (.if_icmp .lt 26, 3) := by decide +kernel
theorem d_M_hasBody_152 : decode b_M_hasBody 152 = .ok (.iload 10, 2) := by decide +kernel
theorem d_M_hasBody_154 : decode b_M_hasBody 154 = .ok (.iload 6, 2) := by decide +kernel
theorem d_M_hasBody_156 : decode b_M_hasBody 156 = .ok (.iload 7, 2) := by decide +kernel
theorem d_M_hasBody_158 : decode b_M_hasBody 158 = .ok (.if_icmp .ge 8, 3) := by decide +kernel
theorem d_M_hasBody_161 : decode b_M_hasBody 161 = .ok (.iload 7, 2) := by decide +kernel
theorem d_M_hasBody_163 : decode b_M_hasBody 163 = .ok (.goto 5, 3) := by decide +kernel
theorem d_M_hasBody_166 : decode b_M_hasBody 166 = .ok (.iload 6, 2) := by decide +kernel
theorem d_M_hasBody_168 : decode b_M_hasBody 168 = .ok (.if_icmp .gt 7, 3) := by decide +kernel
theorem d_M_hasBody_171 : decode b_M_hasBody 171 = .ok (.iconst 1, 1) := by decide +kernel
theorem d_M_hasBody_172 : decode b_M_hasBody 172 = .ok (.goto 4, 3) := by decide +kernel
theorem d_M_hasBody_175 : decode b_M_hasBody 175 = .ok (.iconst 0, 1) := by decide +kernel
theorem d_M_hasBody_176 : decode b_M_hasBody 176 = .ok (.ireturn, 1) := by decide +kernel
theorem d_M_body_0 : decode b_M_body 0 = .ok (.aload_n 0, 1) := by decide +kernel
theorem d_M_body_1 : decode b_M_body 1 = .ok (.aload_n 0, 1) := by decide +kernel
theorem d_M_body_2 : decode b_M_body 2 = .ok (.iload_n 1, 1) := by decide +kernel
theorem d_M_body_3 : decode b_M_body 3 = .ok (.invokevirtual 106, 3) := by decide +kernel
theorem d_M_body_6 : decode b_M_body 6 = .ok (.ifCond .eq 22, 3) := by decide +kernel
theorem d_M_body_9 : decode b_M_body 9 = .ok (.iload_n 2, 1) := by decide +kernel
theorem d_M_body_10 : decode b_M_body 10 = .ok (.i2l, 1) := by decide +kernel
theorem d_M_body_11 : decode b_M_body 11 = .ok (.iload_n 3, 1) := by decide +kernel
theorem d_M_body_12 : decode b_M_body 12 = .ok (.i2l, 1) := by decide +kernel
theorem d_M_body_13 : decode b_M_body 13 = .ok (.invokestatic 116, 3) := by decide +kernel
theorem d_M_body_16 : decode b_M_body 16 = .ok (.ifCond .eq 12, 3) := by decide +kernel
theorem d_M_body_19 : decode b_M_body 19 = .ok (.iload 4, 2) := by decide +kernel
theorem d_M_body_21 : decode b_M_body 21 = .ok (.ifCond .lt 7, 3) := by decide +kernel
theorem d_M_body_24 : decode b_M_body 24 = .ok (.iconst 1, 1) := by decide +kernel
theorem d_M_body_25 : decode b_M_body 25 = .ok (.goto 4, 3) := by decide +kernel
theorem d_M_body_28 : decode b_M_body 28 = .ok (.iconst 0, 1) := by decide +kernel
theorem d_M_body_29 : decode b_M_body 29 = .ok (.invokevirtual 148, 3) := by decide +kernel
theorem d_M_body_32 : decode b_M_body 32 = .ok (.ifCond .ne 5, 3) := by decide +kernel
theorem d_M_body_35 : decode b_M_body 35 = .ok (.iconst 0, 1) := by decide +kernel
theorem d_M_body_36 : decode b_M_body 36 = .ok (.ireturn, 1) := by decide +kernel
theorem d_M_body_37 : decode b_M_body 37 = .ok (.iload 4, 2) := by decide +kernel
theorem d_M_body_39 : decode b_M_body 39 = .ok (.istore 5, 2) := by decide +kernel
theorem d_M_body_41 : decode b_M_body 41 = .ok (.iconst 0, 1) := by decide +kernel
theorem d_M_body_42 : decode b_M_body 42 = .ok (.istore 6, 2) := by decide +kernel
theorem d_M_body_44 : decode b_M_body 44 = .ok (.iload 6, 2) := by decide +kernel
theorem d_M_body_46 : decode b_M_body 46 = .ok (.aload_n 0, 1) := by decide +kernel
theorem d_M_body_47 : decode b_M_body 47 = .ok (.getfield 60, 3) := by decide +kernel
theorem d_M_body_50 : decode b_M_body 50 = .ok (.if_icmp .ge 52, 3) := by decide +kernel
theorem d_M_body_53 : decode b_M_body 53 = .ok (.aload_n 0, 1) := by decide +kernel
theorem d_M_body_54 : decode b_M_body 54 = .ok (.getfield 37, 3) := by decide +kernel
theorem d_M_body_57 : decode b_M_body 57 = .ok (.iload 6, 2) := by decide +kernel
theorem d_M_body_59 : decode b_M_body 59 = .ok (.baload, 1) := by decide +kernel
theorem d_M_body_60 : decode b_M_body 60 = .ok (.ifCond .eq 36, 3) := by decide +kernel
theorem d_M_body_63 : decode b_M_body 63 = .ok (.aload_n 0, 1) := by decide +kernel
theorem d_M_body_64 : decode b_M_body 64 = .ok (.getfield 19, 3) := by decide +kernel
theorem d_M_body_67 : decode b_M_body 67 = .ok (.iload 6, 2) := by decide +kernel
theorem d_M_body_69 : decode b_M_body 69 = .ok (.iaload, 1) := by decide +kernel
theorem d_M_body_70 : decode b_M_body 70 = .ok (.iload_n 1, 1) := by decide +kernel
theorem d_M_body_71 : decode b_M_body 71 = .ok (.if_icmp .ne 25, 3) := by decide +kernel
theorem d_M_body_74 : decode b_M_body 74 = .ok (.aload_n 0, 1) := by decide +kernel
theorem d_M_body_75 : decode b_M_body 75 = .ok (.iload 6, 2) := by decide +kernel
theorem d_M_body_77 : decode b_M_body 77 = .ok (.iload_n 2, 1) := by decide +kernel
theorem d_M_body_78 : decode b_M_body 78 = .ok (.iload_n 3, 1) := by decide +kernel
theorem d_M_body_79 : decode b_M_body 79 = .ok (.invokevirtual 160, 3) := by decide +kernel
theorem d_M_body_82 : decode b_M_body 82 = .ok (.ifCond .eq 14, 3) := by decide +kernel
theorem d_M_body_85 : decode b_M_body 85 = .ok (.iload 5, 2) := by decide +kernel
theorem d_M_body_87 : decode b_M_body 87 = .ok (.ifCond .ne 6, 3) := by decide +kernel
theorem d_M_body_90 : decode b_M_body 90 = .ok (.iload 6, 2) := by decide +kernel
theorem d_M_body_92 : decode b_M_body 92 = .ok (.ireturn, 1) := by decide +kernel
theorem d_M_body_93 : decode b_M_body 93 = .ok (.iinc 5 (-1), 3) := by decide +kernel
theorem d_M_body_96 : decode b_M_body 96 = .ok (.iinc 6 1, 3) := by decide +kernel
theorem d_M_body_99 : decode b_M_body 99 = .ok (.goto (-55), 3) := by decide +kernel
theorem d_M_body_102 : decode b_M_body 102 = .ok (.iconst (-1), 1) := by decide +kernel
theorem d_M_body_103 : decode b_M_body 103 = .ok (.ireturn, 1) := by decide +kernel
theorem d_H_init_0 : decode b_H_init 0 = .ok (.aload_n 0, 1) := by decide +kernel
theorem d_H_init_1 : decode b_H_init 1 = .ok (.invokespecial 3, 3) := by decide +kernel
theorem d_H_init_4 : decode b_H_init 4 = .ok (.aload_n 0, 1) := by decide +kernel
theorem d_H_init_5 : decode b_H_init 5 = .ok (.sipush 200, 3) := by decide +kernel
theorem d_H_init_8 : decode b_H_init 8 = .ok (.newarray .int, 2) := by decide +kernel
theorem d_H_init_10 : decode b_H_init 10 = .ok (.putfield 9, 3) := by decide +kernel
theorem d_H_init_13 : decode b_H_init 13 = .ok (.aload_n 0, 1) := by decide +kernel
theorem d_H_init_14 : decode b_H_init 14 = .ok (.sipush 200, 3) := by decide +kernel
theorem d_H_init_17 : decode b_H_init 17 = .ok (.newarray .int, 2) := by decide +kernel
theorem d_H_init_19 : decode b_H_init 19 = .ok (.putfield 15, 3) := by decide +kernel
theorem d_H_init_22 : decode b_H_init 22 = .ok (.aload_n 0, 1) := by decide +kernel
theorem d_H_init_23 : decode b_H_init 23 = .ok (.sipush 200, 3) := by decide +kernel
theorem d_H_init_26 : decode b_H_init 26 = .ok (.newarray .int, 2) := by decide +kernel
theorem d_H_init_28 : decode b_H_init 28 = .ok (.putfield 18, 3) := by decide +kernel
theorem d_H_init_31 : decode b_H_init 31 = .ok (.aload_n 0, 1) := by decide +kernel
theorem d_H_init_32 : decode b_H_init 32 = .ok (.sipush 200, 3) := by decide +kernel
theorem d_H_init_35 : decode b_H_init 35 = .ok (.newarray .int, 2) := by decide +kernel
theorem d_H_init_37 : decode b_H_init 37 = .ok (.putfield 21, 3) := by decide +kernel
theorem d_H_init_40 : decode b_H_init 40 = .ok (.aload_n 0, 1) := by decide +kernel
theorem d_H_init_41 : decode b_H_init 41 = .ok (.iconst 0, 1) := by decide +kernel
theorem d_H_init_42 : decode b_H_init 42 = .ok (.putfield 24, 3) := by decide +kernel
theorem d_H_init_45 : decode b_H_init 45 = .ok (.aload_n 0, 1) := by decide +kernel
theorem d_H_init_46 : decode b_H_init 46 = .ok (.iconst 0, 1) := by decide +kernel
theorem d_H_init_47 : decode b_H_init 47 = .ok (.putfield 28, 3) := by decide +kernel
theorem d_H_init_50 : decode b_H_init 50 = .ok (.return_, 1) := by decide +kernel
theorem d_H_write_0 : decode b_H_write 0 = .ok (.aload_n 0, 1) := by decide +kernel
theorem d_H_write_1 : decode b_H_write 1 = .ok (.getfield 9, 3) := by decide +kernel
theorem d_H_write_4 : decode b_H_write 4 = .ok (.aload_n 0, 1) := by decide +kernel
theorem d_H_write_5 : decode b_H_write 5 = .ok (.getfield 24, 3) := by decide +kernel
theorem d_H_write_8 : decode b_H_write 8 = .ok (.iload_n 1, 1) := by decide +kernel
theorem d_H_write_9 : decode b_H_write 9 = .ok (.iastore, 1) := by decide +kernel
theorem d_H_write_10 : decode b_H_write 10 = .ok (.aload_n 0, 1) := by decide +kernel
theorem d_H_write_11 : decode b_H_write 11 = .ok (.getfield 15, 3) := by decide +kernel
theorem d_H_write_14 : decode b_H_write 14 = .ok (.aload_n 0, 1) := by decide +kernel
theorem d_H_write_15 : decode b_H_write 15 = .ok (.getfield 24, 3) := by decide +kernel
theorem d_H_write_18 : decode b_H_write 18 = .ok (.iload_n 2, 1) := by decide +kernel
theorem d_H_write_19 : decode b_H_write 19 = .ok (.iastore, 1) := by decide +kernel
theorem d_H_write_20 : decode b_H_write 20 = .ok (.aload_n 0, 1) := by decide +kernel
theorem d_H_write_21 : decode b_H_write 21 = .ok (.getfield 18, 3) := by decide +kernel
theorem d_H_write_24 : decode b_H_write 24 = .ok (.aload_n 0, 1) := by decide +kernel
theorem d_H_write_25 : decode b_H_write 25 = .ok (.getfield 24, 3) := by decide +kernel
theorem d_H_write_28 : decode b_H_write 28 = .ok (.iload_n 3, 1) := by decide +kernel
theorem d_H_write_29 : decode b_H_write 29 = .ok (.iastore, 1) := by decide +kernel
theorem d_H_write_30 : decode b_H_write 30 = .ok (.aload_n 0, 1) := by decide +kernel
theorem d_H_write_31 : decode b_H_write 31 = .ok (.getfield 21, 3) := by decide +kernel
theorem d_H_write_34 : decode b_H_write 34 = .ok (.aload_n 0, 1) := by decide +kernel
theorem d_H_write_35 : decode b_H_write 35 = .ok (.getfield 24, 3) := by decide +kernel
theorem d_H_write_38 : decode b_H_write 38 = .ok (.iload 4, 2) := by decide +kernel
theorem d_H_write_40 : decode b_H_write 40 = .ok (.iastore, 1) := by decide +kernel
theorem d_H_write_41 : decode b_H_write 41 = .ok (.aload_n 0, 1) := by decide +kernel
theorem d_H_write_42 : decode b_H_write 42 = .ok (.aload_n 0, 1) := by decide +kernel
theorem d_H_write_43 : decode b_H_write 43 = .ok (.getfield 24, 3) := by decide +kernel
theorem d_H_write_46 : decode b_H_write 46 = .ok (.iconst 1, 1) := by decide +kernel
theorem d_H_write_47 : decode b_H_write 47 = .ok (.iadd, 1) := by decide +kernel
theorem d_H_write_48 : decode b_H_write 48 = .ok (.putfield 28, 3) := by decide +kernel
theorem d_H_write_51 : decode b_H_write 51 = .ok (.return_, 1) := by decide +kernel
theorem d_O_init_0 : decode b_O_init 0 = .ok (.aload_n 0, 1) := by decide +kernel
theorem d_O_init_1 : decode b_O_init 1 = .ok (.invokespecial 3, 3) := by decide +kernel
theorem d_O_init_4 : decode b_O_init 4 = .ok (.aload_n 0, 1) := by decide +kernel
theorem d_O_init_5 : decode b_O_init 5 = .ok (.bipush 60, 2) := by decide +kernel
theorem d_O_init_7 : decode b_O_init 7 = .ok (.newarray .int, 2) := by decide +kernel
theorem d_O_init_9 : decode b_O_init 9 = .ok (.putfield 9, 3) := by decide +kernel
theorem d_O_init_12 : decode b_O_init 12 = .ok (.aload_n 0, 1) := by decide +kernel
theorem d_O_init_13 : decode b_O_init 13 = .ok (.bipush 60, 2) := by decide +kernel
theorem d_O_init_15 : decode b_O_init 15 = .ok (.newarray .int, 2) := by decide +kernel
theorem d_O_init_17 : decode b_O_init 17 = .ok (.putfield 15, 3) := by decide +kernel
theorem d_O_init_20 : decode b_O_init 20 = .ok (.aload_n 0, 1) := by decide +kernel
theorem d_O_init_21 : decode b_O_init 21 = .ok (.bipush 60, 2) := by decide +kernel
theorem d_O_init_23 : decode b_O_init 23 = .ok (.newarray .int, 2) := by decide +kernel
theorem d_O_init_25 : decode b_O_init 25 = .ok (.putfield 18, 3) := by decide +kernel
theorem d_O_init_28 : decode b_O_init 28 = .ok (.aload_n 0, 1) := by decide +kernel
theorem d_O_init_29 : decode b_O_init 29 = .ok (.iconst 0, 1) := by decide +kernel
theorem d_O_init_30 : decode b_O_init 30 = .ok (.putfield 21, 3) := by decide +kernel
theorem d_O_init_33 : decode b_O_init 33 = .ok (.return_, 1) := by decide +kernel
theorem d_O_has_0 : decode b_O_has 0 = .ok (.iload_n 1, 1) := by decide +kernel
theorem d_O_has_1 : decode b_O_has 1 = .ok (.ifCond .lt 15, 3) := by decide +kernel
theorem d_O_has_4 : decode b_O_has 4 = .ok (.iload_n 1, 1) := by decide +kernel
theorem d_O_has_5 : decode b_O_has 5 = .ok (.aload_n 0, 1) := by decide +kernel
theorem d_O_has_6 : decode b_O_has 6 = .ok (.getfield 21, 3) := by decide +kernel
theorem d_O_has_9 : decode b_O_has 9 = .ok (.if_icmp .ge 7, 3) := by decide +kernel
theorem d_O_has_12 : decode b_O_has 12 = .ok (.iconst 1, 1) := by decide +kernel
theorem d_O_has_13 : decode b_O_has 13 = .ok (.goto 4, 3) := by decide +kernel
theorem d_O_has_16 : decode b_O_has 16 = .ok (.iconst 0, 1) := by decide +kernel
theorem d_O_has_17 : decode b_O_has 17 = .ok (.ireturn, 1) := by decide +kernel
theorem d_O_manyOf_0 : decode b_O_manyOf 0 = .ok (.iconst 0, 1) := by decide +kernel
theorem d_O_manyOf_1 : decode b_O_manyOf 1 = .ok (.istore_n 2, 1) := by decide +kernel
theorem d_O_manyOf_2 : decode b_O_manyOf 2 = .ok (.iconst 0, 1) := by decide +kernel
theorem d_O_manyOf_3 : decode b_O_manyOf 3 = .ok (.istore_n 3, 1) := by decide +kernel
theorem d_O_manyOf_4 : decode b_O_manyOf 4 = .ok (.iload_n 3, 1) := by decide +kernel
theorem d_O_manyOf_5 : decode b_O_manyOf 5 = .ok (.aload_n 0, 1) := by decide +kernel
theorem d_O_manyOf_6 : decode b_O_manyOf 6 = .ok (.getfield 21, 3) := by decide +kernel
theorem d_O_manyOf_9 : decode b_O_manyOf 9 = .ok (.if_icmp .ge 22, 3) := by decide +kernel
theorem d_O_manyOf_12 : decode b_O_manyOf 12 = .ok (.aload_n 0, 1) := by decide +kernel
theorem d_O_manyOf_13 : decode b_O_manyOf 13 = .ok (.getfield 9, 3) := by decide +kernel
theorem d_O_manyOf_16 : decode b_O_manyOf 16 = .ok (.iload_n 3, 1) := by decide +kernel
theorem d_O_manyOf_17 : decode b_O_manyOf 17 = .ok (.iaload, 1) := by decide +kernel
theorem d_O_manyOf_18 : decode b_O_manyOf 18 = .ok (.iload_n 1, 1) := by decide +kernel
theorem d_O_manyOf_19 : decode b_O_manyOf 19 = .ok (.if_icmp .ne 6, 3) := by decide +kernel
theorem d_O_manyOf_22 : decode b_O_manyOf 22 = .ok (.iinc 2 1, 3) := by decide +kernel
theorem d_O_manyOf_25 : decode b_O_manyOf 25 = .ok (.iinc 3 1, 3) := by decide +kernel
theorem d_O_manyOf_28 : decode b_O_manyOf 28 = .ok (.goto (-24), 3) := by decide +kernel
theorem d_O_manyOf_31 : decode b_O_manyOf 31 = .ok (.iload_n 2, 1) := by decide +kernel
theorem d_O_manyOf_32 : decode b_O_manyOf 32 = .ok (.ireturn, 1) := by decide +kernel
theorem d_O_widthOf_0 : decode b_O_widthOf 0 = .ok (.iconst 0, 1) := by decide +kernel
theorem d_O_widthOf_1 : decode b_O_widthOf 1 = .ok (.istore_n 2, 1) := by decide +kernel
theorem d_O_widthOf_2 : decode b_O_widthOf 2 = .ok (.iconst 0, 1) := by decide +kernel
theorem d_O_widthOf_3 : decode b_O_widthOf 3 = .ok (.istore_n 3, 1) := by decide +kernel
theorem d_O_widthOf_4 : decode b_O_widthOf 4 = .ok (.iload_n 3, 1) := by decide +kernel
theorem d_O_widthOf_5 : decode b_O_widthOf 5 = .ok (.aload_n 0, 1) := by decide +kernel
theorem d_O_widthOf_6 : decode b_O_widthOf 6 = .ok (.getfield 21, 3) := by decide +kernel
theorem d_O_widthOf_9 : decode b_O_widthOf 9 = .ok (.if_icmp .ge 28, 3) := by decide +kernel
theorem d_O_widthOf_12 : decode b_O_widthOf 12 = .ok (.aload_n 0, 1) := by decide +kernel
theorem d_O_widthOf_13 : decode b_O_widthOf 13 = .ok (.getfield 9, 3) := by decide +kernel
theorem d_O_widthOf_16 : decode b_O_widthOf 16 = .ok (.iload_n 3, 1) := by decide +kernel
theorem d_O_widthOf_17 : decode b_O_widthOf 17 = .ok (.iaload, 1) := by decide +kernel
theorem d_O_widthOf_18 : decode b_O_widthOf 18 = .ok (.iload_n 1, 1) := by decide +kernel
theorem d_O_widthOf_19 : decode b_O_widthOf 19 = .ok (.if_icmp .ne 12, 3) := by decide +kernel
theorem d_O_widthOf_22 : decode b_O_widthOf 22 = .ok (.iload_n 2, 1) := by decide +kernel
theorem d_O_widthOf_23 : decode b_O_widthOf 23 = .ok (.aload_n 0, 1) := by decide +kernel
theorem d_O_widthOf_24 : decode b_O_widthOf 24 = .ok (.getfield 18, 3) := by decide +kernel
theorem d_O_widthOf_27 : decode b_O_widthOf 27 = .ok (.iload_n 3, 1) := by decide +kernel
theorem d_O_widthOf_28 : decode b_O_widthOf 28 = .ok (.iaload, 1) := by decide +kernel
theorem d_O_widthOf_29 : decode b_O_widthOf 29 = .ok (.iadd, 1) := by decide +kernel
theorem d_O_widthOf_30 : decode b_O_widthOf 30 = .ok (.istore_n 2, 1) := by decide +kernel
theorem d_O_widthOf_31 : decode b_O_widthOf 31 = .ok (.iinc 3 1, 3) := by decide +kernel
theorem d_O_widthOf_34 : decode b_O_widthOf 34 = .ok (.goto (-30), 3) := by decide +kernel
theorem d_O_widthOf_37 : decode b_O_widthOf 37 = .ok (.iload_n 2, 1) := by decide +kernel
theorem d_O_widthOf_38 : decode b_O_widthOf 38 = .ok (.ireturn, 1) := by decide +kernel
theorem d_O_overlap_0 : decode b_O_overlap 0 = .ok (.iconst 0, 1) := by decide +kernel
theorem d_O_overlap_1 : decode b_O_overlap 1 = .ok (.istore 4, 2) := by decide +kernel
theorem d_O_overlap_3 : decode b_O_overlap 3 = .ok (.iload 4, 2) := by decide +kernel
theorem d_O_overlap_5 : decode b_O_overlap 5 = .ok (.aload_n 0, 1) := by decide +kernel
theorem d_O_overlap_6 : decode b_O_overlap 6 = .ok (.getfield 21, 3) := by decide +kernel
theorem d_O_overlap_9 : decode b_O_overlap 9 = .ok (.if_icmp .ge 54, 3) := by decide +kernel
theorem d_O_overlap_12 : decode b_O_overlap 12 = .ok (.aload_n 0, 1) := by decide +kernel
theorem d_O_overlap_13 : decode b_O_overlap 13 = .ok (.getfield 9, 3) := by decide +kernel
theorem d_O_overlap_16 : decode b_O_overlap 16 = .ok (.iload 4, 2) := by decide +kernel
theorem d_O_overlap_18 : decode b_O_overlap 18 = .ok (.iaload, 1) := by decide +kernel
theorem d_O_overlap_19 : decode b_O_overlap 19 = .ok (.iload_n 1, 1) := by decide +kernel
theorem d_O_overlap_20 : decode b_O_overlap 20 = .ok (.if_icmp .ne 37, 3) := by decide +kernel
theorem d_O_overlap_23 : decode b_O_overlap 23 = .ok (.aload_n 0, 1) := by decide +kernel
theorem d_O_overlap_24 : decode b_O_overlap 24 = .ok (.getfield 15, 3) := by decide +kernel
theorem d_O_overlap_27 : decode b_O_overlap 27 = .ok (.iload 4, 2) := by decide +kernel
theorem d_O_overlap_29 : decode b_O_overlap 29 = .ok (.iaload, 1) := by decide +kernel
theorem d_O_overlap_30 : decode b_O_overlap 30 = .ok (.iload_n 2, 1) := by decide +kernel
theorem d_O_overlap_31 : decode b_O_overlap 31 = .ok (.iload_n 3, 1) := by decide +kernel
theorem d_O_overlap_32 : decode b_O_overlap 32 = .ok (.iadd, 1) := by decide +kernel
theorem d_O_overlap_33 : decode b_O_overlap 33 = .ok (.if_icmp .ge 24, 3) := by decide +kernel
theorem d_O_overlap_36 : decode b_O_overlap 36 = .ok (.iload_n 2, 1) := by decide +kernel
theorem d_O_overlap_37 : decode b_O_overlap 37 = .ok (.aload_n 0, 1) := by decide +kernel
theorem d_O_overlap_38 : decode b_O_overlap 38 = .ok (.getfield 15, 3) := by decide +kernel
theorem d_O_overlap_41 : decode b_O_overlap 41 = .ok (.iload 4, 2) := by decide +kernel
theorem d_O_overlap_43 : decode b_O_overlap 43 = .ok (.iaload, 1) := by decide +kernel
theorem d_O_overlap_44 : decode b_O_overlap 44 = .ok (.aload_n 0, 1) := by decide +kernel
theorem d_O_overlap_45 : decode b_O_overlap 45 = .ok (.getfield 18, 3) := by decide +kernel
theorem d_O_overlap_48 : decode b_O_overlap 48 = .ok (.iload 4, 2) := by decide +kernel
theorem d_O_overlap_50 : decode b_O_overlap 50 = .ok (.iaload, 1) := by decide +kernel
theorem d_O_overlap_51 : decode b_O_overlap 51 = .ok (.iadd, 1) := by decide +kernel
theorem d_O_overlap_52 : decode b_O_overlap 52 = .ok (.if_icmp .ge 5, 3) := by decide +kernel
theorem d_O_overlap_55 : decode b_O_overlap 55 = .ok (.iconst 1, 1) := by decide +kernel
theorem d_O_overlap_56 : decode b_O_overlap 56 = .ok (.ireturn, 1) := by decide +kernel
theorem d_O_overlap_57 : decode b_O_overlap 57 = .ok (.iinc 4 1, 3) := by decide +kernel
theorem d_O_overlap_60 : decode b_O_overlap 60 = .ok (.goto (-57), 3) := by decide +kernel
theorem d_O_overlap_63 : decode b_O_overlap 63 = .ok (.iconst 0, 1) := by decide +kernel
theorem d_O_overlap_64 : decode b_O_overlap 64 = .ok (.ireturn, 1) := by decide +kernel
theorem d_O_write_0 : decode b_O_write 0 = .ok (.aload_n 0, 1) := by decide +kernel
theorem d_O_write_1 : decode b_O_write 1 = .ok (.getfield 9, 3) := by decide +kernel
theorem d_O_write_4 : decode b_O_write 4 = .ok (.iload_n 1, 1) := by decide +kernel
theorem d_O_write_5 : decode b_O_write 5 = .ok (.iload_n 2, 1) := by decide +kernel
theorem d_O_write_6 : decode b_O_write 6 = .ok (.iastore, 1) := by decide +kernel
theorem d_O_write_7 : decode b_O_write 7 = .ok (.aload_n 0, 1) := by decide +kernel
theorem d_O_write_8 : decode b_O_write 8 = .ok (.getfield 15, 3) := by decide +kernel
theorem d_O_write_11 : decode b_O_write 11 = .ok (.iload_n 1, 1) := by decide +kernel
theorem d_O_write_12 : decode b_O_write 12 = .ok (.iload_n 3, 1) := by decide +kernel
theorem d_O_write_13 : decode b_O_write 13 = .ok (.iastore, 1) := by decide +kernel
theorem d_O_write_14 : decode b_O_write 14 = .ok (.aload_n 0, 1) := by decide +kernel
theorem d_O_write_15 : decode b_O_write 15 = .ok (.getfield 18, 3) := by decide +kernel
theorem d_O_write_18 : decode b_O_write 18 = .ok (.iload_n 1, 1) := by decide +kernel
theorem d_O_write_19 : decode b_O_write 19 = .ok (.iload 4, 2) := by decide +kernel
theorem d_O_write_21 : decode b_O_write 21 = .ok (.iastore, 1) := by decide +kernel
theorem d_O_write_22 : decode b_O_write 22 = .ok (.return_, 1) := by decide +kernel
theorem d_O_writeCopies_0 : decode b_O_writeCopies 0 = .ok (.iload_n 3, 1) := by decide +kernel
theorem d_O_writeCopies_1 : decode b_O_writeCopies 1 = .ok (.istore 4, 2) := by decide +kernel
theorem d_O_writeCopies_3 : decode b_O_writeCopies 3 = .ok (.iconst 0, 1) := by decide +kernel
theorem d_O_writeCopies_4 : decode b_O_writeCopies 4 = .ok (.istore 5, 2) := by decide +kernel
theorem d_O_writeCopies_6 : decode b_O_writeCopies 6 = .ok (.iload 5, 2) := by decide +kernel
theorem d_O_writeCopies_8 : decode b_O_writeCopies 8 = .ok (.aload_n 0, 1) := by decide +kernel
theorem d_O_writeCopies_9 : decode b_O_writeCopies 9 = .ok (.getfield 21, 3) := by decide +kernel
theorem d_O_writeCopies_12 : decode b_O_writeCopies 12 = .ok (.if_icmp .ge 44, 3) := by decide +kernel
theorem d_O_writeCopies_15 : decode b_O_writeCopies 15 = .ok (.aload_n 0, 1) := by decide +kernel
theorem d_O_writeCopies_16 : decode b_O_writeCopies 16 = .ok (.getfield 9, 3) := by decide +kernel
theorem d_O_writeCopies_19 : decode b_O_writeCopies 19 = .ok (.iload 5, 2) := by decide +kernel
theorem d_O_writeCopies_21 : decode b_O_writeCopies 21 = .ok (.iaload, 1) := by decide +kernel
theorem d_O_writeCopies_22 : decode b_O_writeCopies 22 = .ok (.iload_n 1, 1) := by decide +kernel
theorem d_O_writeCopies_23 : decode b_O_writeCopies 23 = .ok (.if_icmp .ne 27, 3) := by decide +kernel
theorem d_O_writeCopies_26 : decode b_O_writeCopies 26 = .ok (.aload_n 0, 1) := by decide +kernel
theorem d_O_writeCopies_27 : decode b_O_writeCopies 27 = .ok (.iload 4, 2) := by decide +kernel
theorem d_O_writeCopies_29 : decode b_O_writeCopies 29 = .ok (.iload_n 2, 1) := by decide +kernel
theorem d_O_writeCopies_30 : decode b_O_writeCopies 30 = .ok (.aload_n 0, 1) := by decide +kernel
theorem d_O_writeCopies_31 : decode b_O_writeCopies 31 = .ok (.getfield 15, 3) := by decide +kernel
theorem d_O_writeCopies_34 : decode b_O_writeCopies 34 = .ok (.iload 5, 2) := by decide +kernel
theorem d_O_writeCopies_36 : decode b_O_writeCopies 36 = .ok (.iaload, 1) := by decide +kernel
theorem d_O_writeCopies_37 : decode b_O_writeCopies 37 = .ok (.aload_n 0, 1) := by decide +kernel
theorem d_O_writeCopies_38 : decode b_O_writeCopies 38 = .ok (.getfield 18, 3) := by decide +kernel
theorem d_O_writeCopies_41 : decode b_O_writeCopies 41 = .ok (.iload 5, 2) := by decide +kernel
theorem d_O_writeCopies_43 : decode b_O_writeCopies 43 = .ok (.iaload, 1) := by decide +kernel
theorem d_O_writeCopies_44 : decode b_O_writeCopies 44 = .ok (.invokevirtual 25, 3) := by decide +kernel
theorem d_O_writeCopies_47 : decode b_O_writeCopies 47 = .ok (.iinc 4 1, 3) := by decide +kernel
theorem d_O_writeCopies_50 : decode b_O_writeCopies 50 = .ok (.iinc 5 1, 3) := by decide +kernel
theorem d_O_writeCopies_53 : decode b_O_writeCopies 53 = .ok (.goto (-47), 3) := by decide +kernel
theorem d_O_writeCopies_56 : decode b_O_writeCopies 56 = .ok (.iload 4, 2) := by decide +kernel
theorem d_O_writeCopies_58 : decode b_O_writeCopies 58 = .ok (.ireturn, 1) := by decide +kernel
theorem d_S_init_0 : decode b_S_init 0 = .ok (.aload_n 0, 1) := by decide +kernel
theorem d_S_init_1 : decode b_S_init 1 = .ok (.invokespecial 3, 3) := by decide +kernel
theorem d_S_init_4 : decode b_S_init 4 = .ok (.aload_n 0, 1) := by decide +kernel
theorem d_S_init_5 : decode b_S_init 5 = .ok (.bipush 6, 2) := by decide +kernel
theorem d_S_init_7 : decode b_S_init 7 = .ok (.newarray .int, 2) := by decide +kernel
theorem d_S_init_9 : decode b_S_init 9 = .ok (.putfield 9, 3) := by decide +kernel
theorem d_S_init_12 : decode b_S_init 12 = .ok (.aload_n 0, 1) := by decide +kernel
theorem d_S_init_13 : decode b_S_init 13 = .ok (.iconst 0, 1) := by decide +kernel
theorem d_S_init_14 : decode b_S_init 14 = .ok (.putfield 15, 3) := by decide +kernel
theorem d_S_init_17 : decode b_S_init 17 = .ok (.return_, 1) := by decide +kernel
theorem d_S_has_0 : decode b_S_has 0 = .ok (.iload_n 1, 1) := by decide +kernel
theorem d_S_has_1 : decode b_S_has 1 = .ok (.ifCond .lt 15, 3) := by decide +kernel
theorem d_S_has_4 : decode b_S_has 4 = .ok (.iload_n 1, 1) := by decide +kernel
theorem d_S_has_5 : decode b_S_has 5 = .ok (.aload_n 0, 1) := by decide +kernel
theorem d_S_has_6 : decode b_S_has 6 = .ok (.getfield 15, 3) := by decide +kernel
theorem d_S_has_9 : decode b_S_has 9 = .ok (.if_icmp .ge 7, 3) := by decide +kernel
theorem d_S_has_12 : decode b_S_has 12 = .ok (.iconst 1, 1) := by decide +kernel
theorem d_S_has_13 : decode b_S_has 13 = .ok (.goto 4, 3) := by decide +kernel
theorem d_S_has_16 : decode b_S_has 16 = .ok (.iconst 0, 1) := by decide +kernel
theorem d_S_has_17 : decode b_S_has 17 = .ok (.ireturn, 1) := by decide +kernel
theorem d_S_isBetweenNeighbours_0 : decode b_S_isBetweenNeighbours 0 = .ok (.iload_n 1, 1) := by decide +kernel
theorem d_S_isBetweenNeighbours_1 : decode b_S_isBetweenNeighbours 1 = .ok (.ifCond .eq 15, 3) := by decide +kernel
theorem d_S_isBetweenNeighbours_4 : decode b_S_isBetweenNeighbours 4 = .ok (.iload_n 2, 1) := by decide +kernel
theorem d_S_isBetweenNeighbours_5 : decode b_S_isBetweenNeighbours 5 = .ok (.aload_n 0, 1) := by decide +kernel
theorem d_S_isBetweenNeighbours_6 : decode b_S_isBetweenNeighbours 6 = .ok (.getfield 9, 3) := by decide +kernel
theorem d_S_isBetweenNeighbours_9 : decode b_S_isBetweenNeighbours 9 = .ok (.iload_n 1, 1) := by decide +kernel
theorem d_S_isBetweenNeighbours_10 : decode b_S_isBetweenNeighbours 10 = .ok (.iconst 1, 1) := by decide +kernel
theorem d_S_isBetweenNeighbours_11 : decode b_S_isBetweenNeighbours 11 = .ok (.isub, 1) := by decide +kernel
theorem d_S_isBetweenNeighbours_12 : decode b_S_isBetweenNeighbours 12 = .ok (.iaload, 1) := by decide +kernel
theorem d_S_isBetweenNeighbours_13 : decode b_S_isBetweenNeighbours 13 = .ok (.if_icmp .le 29, 3) := by decide +kernel
theorem d_S_isBetweenNeighbours_16 : decode b_S_isBetweenNeighbours 16 = .ok (.iload_n 1, 1) := by decide +kernel
theorem d_S_isBetweenNeighbours_17 : decode b_S_isBetweenNeighbours 17 = .ok (.iconst 1, 1) := by decide +kernel
theorem d_S_isBetweenNeighbours_18 : decode b_S_isBetweenNeighbours 18 = .ok (.iadd, 1) := by decide +kernel
theorem d_S_isBetweenNeighbours_19 : decode b_S_isBetweenNeighbours 19 = .ok (.aload_n 0, 1) := by decide +kernel
theorem d_S_isBetweenNeighbours_20 : decode b_S_isBetweenNeighbours 20 = .ok (.getfield 15, 3) := by decide +kernel
theorem d_S_isBetweenNeighbours_23 : decode b_S_isBetweenNeighbours 23 = .ok (.if_icmp .ge 15, 3) := by decide +kernel
theorem d_S_isBetweenNeighbours_26 : decode b_S_isBetweenNeighbours 26 = .ok (.iload_n 2, 1) := by decide +kernel
theorem d_S_isBetweenNeighbours_27 : decode b_S_isBetweenNeighbours 27 = .ok (.aload_n 0, 1) := by decide +kernel
theorem d_S_isBetweenNeighbours_28 : decode b_S_isBetweenNeighbours 28 = .ok (.getfield 9, 3) := by decide +kernel
theorem d_S_isBetweenNeighbours_31 : decode b_S_isBetweenNeighbours 31 = .ok (.iload_n 1, 1) := by decide +kernel
theorem d_S_isBetweenNeighbours_32 : decode b_S_isBetweenNeighbours 32 = .ok (.iconst 1, 1) := by decide +kernel
theorem d_S_isBetweenNeighbours_33 : decode b_S_isBetweenNeighbours 33 = .ok (.iadd, 1) := by decide +kernel
theorem d_S_isBetweenNeighbours_34 : decode b_S_isBetweenNeighbours 34 = .ok (.iaload, 1) := by decide +kernel
theorem d_S_isBetweenNeighbours_35 : decode b_S_isBetweenNeighbours 35 = .ok (.if_icmp .ge 7, 3) := by decide +kernel
theorem d_S_isBetweenNeighbours_38 : decode b_S_isBetweenNeighbours 38 = .ok (.iconst 1, 1) := by decide +kernel
theorem d_S_isBetweenNeighbours_39 : decode b_S_isBetweenNeighbours 39 = .ok (.goto 4, 3) := by decide +kernel
theorem d_S_isBetweenNeighbours_42 : decode b_S_isBetweenNeighbours 42 = .ok (.iconst 0, 1) := by decide +kernel
theorem d_S_isBetweenNeighbours_43 : decode b_S_isBetweenNeighbours 43 = .ok (.ireturn, 1) := by decide +kernel
theorem d_S_height_0 : decode b_S_height 0 = .ok (.iload_n 1, 1) := by decide +kernel
theorem d_S_height_1 : decode b_S_height 1 = .ok (.iconst 1, 1) := by decide +kernel
theorem d_S_height_2 : decode b_S_height 2 = .ok (.iadd, 1) := by decide +kernel
theorem d_S_height_3 : decode b_S_height 3 = .ok (.aload_n 0, 1) := by decide +kernel
theorem d_S_height_4 : decode b_S_height 4 = .ok (.getfield 15, 3) := by decide +kernel
theorem d_S_height_7 : decode b_S_height 7 = .ok (.if_icmp .ge 21, 3) := by decide +kernel
theorem d_S_height_10 : decode b_S_height 10 = .ok (.aload_n 0, 1) := by decide +kernel
theorem d_S_height_11 : decode b_S_height 11 = .ok (.getfield 9, 3) := by decide +kernel
theorem d_S_height_14 : decode b_S_height 14 = .ok (.iload_n 1, 1) := by decide +kernel
theorem d_S_height_15 : decode b_S_height 15 = .ok (.iconst 1, 1) := by decide +kernel
theorem d_S_height_16 : decode b_S_height 16 = .ok (.iadd, 1) := by decide +kernel
theorem d_S_height_17 : decode b_S_height 17 = .ok (.iaload, 1) := by decide +kernel
theorem d_S_height_18 : decode b_S_height 18 = .ok (.aload_n 0, 1) := by decide +kernel
theorem d_S_height_19 : decode b_S_height 19 = .ok (.getfield 9, 3) := by decide +kernel
theorem d_S_height_22 : decode b_S_height 22 = .ok (.iload_n 1, 1) := by decide +kernel
theorem d_S_height_23 : decode b_S_height 23 = .ok (.iaload, 1) := by decide +kernel
theorem d_S_height_24 : decode b_S_height 24 = .ok (.isub, 1) := by decide +kernel
theorem d_S_height_25 : decode b_S_height 25 = .ok (.goto 6, 3) := by decide +kernel
theorem d_S_height_28 : decode b_S_height 28 = .ok (.sipush 300, 3) := by decide +kernel
theorem d_S_height_31 : decode b_S_height 31 = .ok (.ireturn, 1) := by decide +kernel
theorem d_T_init_0 : decode b_T_init 0 = .ok (.aload_n 0, 1) := by decide +kernel
theorem d_T_init_1 : decode b_T_init 1 = .ok (.invokespecial 3, 3) := by decide +kernel
theorem d_T_init_4 : decode b_T_init 4 = .ok (.aload_n 0, 1) := by decide +kernel
theorem d_T_init_5 : decode b_T_init 5 = .ok (.bipush 8, 2) := by decide +kernel
theorem d_T_init_7 : decode b_T_init 7 = .ok (.newarray .int, 2) := by decide +kernel
theorem d_T_init_9 : decode b_T_init 9 = .ok (.putfield 9, 3) := by decide +kernel
theorem d_T_init_12 : decode b_T_init 12 = .ok (.aload_n 0, 1) := by decide +kernel
theorem d_T_init_13 : decode b_T_init 13 = .ok (.iconst 0, 1) := by decide +kernel
theorem d_T_init_14 : decode b_T_init 14 = .ok (.putfield 15, 3) := by decide +kernel
theorem d_T_init_17 : decode b_T_init 17 = .ok (.return_, 1) := by decide +kernel
theorem d_T_has_0 : decode b_T_has 0 = .ok (.iload_n 1, 1) := by decide +kernel
theorem d_T_has_1 : decode b_T_has 1 = .ok (.ifCond .lt 15, 3) := by decide +kernel
theorem d_T_has_4 : decode b_T_has 4 = .ok (.iload_n 1, 1) := by decide +kernel
theorem d_T_has_5 : decode b_T_has 5 = .ok (.aload_n 0, 1) := by decide +kernel
theorem d_T_has_6 : decode b_T_has 6 = .ok (.getfield 15, 3) := by decide +kernel
theorem d_T_has_9 : decode b_T_has 9 = .ok (.if_icmp .ge 7, 3) := by decide +kernel
theorem d_T_has_12 : decode b_T_has 12 = .ok (.iconst 1, 1) := by decide +kernel
theorem d_T_has_13 : decode b_T_has 13 = .ok (.goto 4, 3) := by decide +kernel
theorem d_T_has_16 : decode b_T_has 16 = .ok (.iconst 0, 1) := by decide +kernel
theorem d_T_has_17 : decode b_T_has 17 = .ok (.ireturn, 1) := by decide +kernel
theorem d_W_init_0 : decode b_W_init 0 = .ok (.aload_n 0, 1) := by decide +kernel
theorem d_W_init_1 : decode b_W_init 1 = .ok (.invokespecial 3, 3) := by decide +kernel
theorem d_W_init_4 : decode b_W_init 4 = .ok (.aload_n 0, 1) := by decide +kernel
theorem d_W_init_5 : decode b_W_init 5 = .ok (.bipush 40, 2) := by decide +kernel
theorem d_W_init_7 : decode b_W_init 7 = .ok (.newarray .int, 2) := by decide +kernel
theorem d_W_init_9 : decode b_W_init 9 = .ok (.putfield 9, 3) := by decide +kernel
theorem d_W_init_12 : decode b_W_init 12 = .ok (.aload_n 0, 1) := by decide +kernel
theorem d_W_init_13 : decode b_W_init 13 = .ok (.bipush 40, 2) := by decide +kernel
theorem d_W_init_15 : decode b_W_init 15 = .ok (.newarray .int, 2) := by decide +kernel
theorem d_W_init_17 : decode b_W_init 17 = .ok (.putfield 15, 3) := by decide +kernel
theorem d_W_init_20 : decode b_W_init 20 = .ok (.aload_n 0, 1) := by decide +kernel
theorem d_W_init_21 : decode b_W_init 21 = .ok (.bipush 40, 2) := by decide +kernel
theorem d_W_init_23 : decode b_W_init 23 = .ok (.newarray .int, 2) := by decide +kernel
theorem d_W_init_25 : decode b_W_init 25 = .ok (.putfield 18, 3) := by decide +kernel
theorem d_W_init_28 : decode b_W_init 28 = .ok (.aload_n 0, 1) := by decide +kernel
theorem d_W_init_29 : decode b_W_init 29 = .ok (.bipush 40, 2) := by decide +kernel
theorem d_W_init_31 : decode b_W_init 31 = .ok (.newarray .int, 2) := by decide +kernel
theorem d_W_init_33 : decode b_W_init 33 = .ok (.putfield 21, 3) := by decide +kernel
theorem d_W_init_36 : decode b_W_init 36 = .ok (.aload_n 0, 1) := by decide +kernel
theorem d_W_init_37 : decode b_W_init 37 = .ok (.bipush 40, 2) := by decide +kernel
theorem d_W_init_39 : decode b_W_init 39 = .ok (.newarray .int, 2) := by decide +kernel
theorem d_W_init_41 : decode b_W_init 41 = .ok (.putfield 24, 3) := by decide +kernel
theorem d_W_init_44 : decode b_W_init 44 = .ok (.aload_n 0, 1) := by decide +kernel
theorem d_W_init_45 : decode b_W_init 45 = .ok (.bipush 40, 2) := by decide +kernel
theorem d_W_init_47 : decode b_W_init 47 = .ok (.newarray .int, 2) := by decide +kernel
theorem d_W_init_49 : decode b_W_init 49 = .ok (.putfield 27, 3) := by decide +kernel
theorem d_W_init_52 : decode b_W_init 52 = .ok (.aload_n 0, 1) := by decide +kernel
theorem d_W_init_53 : decode b_W_init 53 = .ok (.bipush 40, 2) := by decide +kernel
theorem d_W_init_55 : decode b_W_init 55 = .ok (.newarray .boolean, 2) := by decide +kernel
theorem d_W_init_57 : decode b_W_init 57 = .ok (.putfield 30, 3) := by decide +kernel
theorem d_W_init_60 : decode b_W_init 60 = .ok (.aload_n 0, 1) := by decide +kernel
theorem d_W_init_61 : decode b_W_init 61 = .ok (.iconst 0, 1) := by decide +kernel
theorem d_W_init_62 : decode b_W_init 62 = .ok (.putfield 34, 3) := by decide +kernel
theorem d_W_init_65 : decode b_W_init 65 = .ok (.return_, 1) := by decide +kernel
theorem d_W_isThere_0 : decode b_W_isThere 0 = .ok (.iload_n 1, 1) := by decide +kernel
theorem d_W_isThere_1 : decode b_W_isThere 1 = .ok (.ifCond .lt 24, 3) := by decide +kernel
theorem d_W_isThere_4 : decode b_W_isThere 4 = .ok (.iload_n 1, 1) := by decide +kernel
theorem d_W_isThere_5 : decode b_W_isThere 5 = .ok (.aload_n 0, 1) := by decide +kernel
theorem d_W_isThere_6 : decode b_W_isThere 6 = .ok (.getfield 34, 3) := by decide +kernel
theorem d_W_isThere_9 : decode b_W_isThere 9 = .ok (.if_icmp .ge 16, 3) := by decide +kernel
theorem d_W_isThere_12 : decode b_W_isThere 12 = .ok (.aload_n 0, 1) := by decide +kernel
theorem d_W_isThere_13 : decode b_W_isThere 13 = .ok (.getfield 30, 3) := by decide +kernel
theorem d_W_isThere_16 : decode b_W_isThere 16 = .ok (.iload_n 1, 1) := by decide +kernel
theorem d_W_isThere_17 : decode b_W_isThere 17 = .ok (.baload, 1) := by decide +kernel
theorem d_W_isThere_18 : decode b_W_isThere 18 = .ok (.ifCond .ne 7, 3) := by decide +kernel
theorem d_W_isThere_21 : decode b_W_isThere 21 = .ok (.iconst 1, 1) := by decide +kernel
theorem d_W_isThere_22 : decode b_W_isThere 22 = .ok (.goto 4, 3) := by decide +kernel
theorem d_W_isThere_25 : decode b_W_isThere 25 = .ok (.iconst 0, 1) := by decide +kernel
theorem d_W_isThere_26 : decode b_W_isThere 26 = .ok (.ireturn, 1) := by decide +kernel
theorem d_W_isOn_0 : decode b_W_isOn 0 = .ok (.aload_n 0, 1) := by decide +kernel
theorem d_W_isOn_1 : decode b_W_isOn 1 = .ok (.iload_n 1, 1) := by decide +kernel
theorem d_W_isOn_2 : decode b_W_isOn 2 = .ok (.invokevirtual 38, 3) := by decide +kernel
theorem d_W_isOn_5 : decode b_W_isOn 5 = .ok (.ifCond .eq 17, 3) := by decide +kernel
theorem d_W_isOn_8 : decode b_W_isOn 8 = .ok (.aload_n 0, 1) := by decide +kernel
theorem d_W_isOn_9 : decode b_W_isOn 9 = .ok (.getfield 9, 3) := by decide +kernel
theorem d_W_isOn_12 : decode b_W_isOn 12 = .ok (.iload_n 1, 1) := by decide +kernel
theorem d_W_isOn_13 : decode b_W_isOn 13 = .ok (.iaload, 1) := by decide +kernel
theorem d_W_isOn_14 : decode b_W_isOn 14 = .ok (.iload_n 2, 1) := by decide +kernel
theorem d_W_isOn_15 : decode b_W_isOn 15 = .ok (.if_icmp .ne 7, 3) := by decide +kernel
theorem d_W_isOn_18 : decode b_W_isOn 18 = .ok (.iconst 1, 1) := by decide +kernel
theorem d_W_isOn_19 : decode b_W_isOn 19 = .ok (.goto 4, 3) := by decide +kernel
theorem d_W_isOn_22 : decode b_W_isOn 22 = .ok (.iconst 0, 1) := by decide +kernel
theorem d_W_isOn_23 : decode b_W_isOn 23 = .ok (.ireturn, 1) := by decide +kernel
theorem d_W_isWith_0 : decode b_W_isWith 0 = .ok (.aload_n 0, 1) := by decide +kernel
theorem d_W_isWith_1 : decode b_W_isWith 1 = .ok (.iload_n 1, 1) := by decide +kernel
theorem d_W_isWith_2 : decode b_W_isWith 2 = .ok (.invokevirtual 38, 3) := by decide +kernel
theorem d_W_isWith_5 : decode b_W_isWith 5 = .ok (.ifCond .eq 17, 3) := by decide +kernel
theorem d_W_isWith_8 : decode b_W_isWith 8 = .ok (.aload_n 0, 1) := by decide +kernel
theorem d_W_isWith_9 : decode b_W_isWith 9 = .ok (.getfield 15, 3) := by decide +kernel
theorem d_W_isWith_12 : decode b_W_isWith 12 = .ok (.iload_n 1, 1) := by decide +kernel
theorem d_W_isWith_13 : decode b_W_isWith 13 = .ok (.iaload, 1) := by decide +kernel
theorem d_W_isWith_14 : decode b_W_isWith 14 = .ok (.iload_n 2, 1) := by decide +kernel
theorem d_W_isWith_15 : decode b_W_isWith 15 = .ok (.if_icmp .ne 7, 3) := by decide +kernel
theorem d_W_isWith_18 : decode b_W_isWith 18 = .ok (.iconst 1, 1) := by decide +kernel
theorem d_W_isWith_19 : decode b_W_isWith 19 = .ok (.goto 4, 3) := by decide +kernel
theorem d_W_isWith_22 : decode b_W_isWith 22 = .ok (.iconst 0, 1) := by decide +kernel
theorem d_W_isWith_23 : decode b_W_isWith 23 = .ok (.ireturn, 1) := by decide +kernel
theorem d_W_goesAlongX_0 : decode b_W_goesAlongX 0 = .ok (.aload_n 0, 1) := by decide +kernel
theorem d_W_goesAlongX_1 : decode b_W_goesAlongX 1 = .ok (.getfield 21, 3) := by decide +kernel
theorem d_W_goesAlongX_4 : decode b_W_goesAlongX 4 = .ok (.iload_n 1, 1) := by decide +kernel
theorem d_W_goesAlongX_5 : decode b_W_goesAlongX 5 = .ok (.iaload, 1) := by decide +kernel
theorem d_W_goesAlongX_6 : decode b_W_goesAlongX 6 = .ok (.aload_n 0, 1) := by decide +kernel
theorem d_W_goesAlongX_7 : decode b_W_goesAlongX 7 = .ok (.getfield 27, 3) := by decide +kernel
theorem d_W_goesAlongX_10 : decode b_W_goesAlongX 10 = .ok (.iload_n 1, 1) := by decide +kernel
theorem d_W_goesAlongX_11 : decode b_W_goesAlongX 11 = .ok (.iaload, 1) := by decide +kernel
theorem d_W_goesAlongX_12 : decode b_W_goesAlongX 12 = .ok (.if_icmp .ne 7, 3) := by decide +kernel
theorem d_W_goesAlongX_15 : decode b_W_goesAlongX 15 = .ok (.iconst 1, 1) := by decide +kernel
theorem d_W_goesAlongX_16 : decode b_W_goesAlongX 16 = .ok (.goto 4, 3) := by decide +kernel
theorem d_W_goesAlongX_19 : decode b_W_goesAlongX 19 = .ok (.iconst 0, 1) := by decide +kernel
theorem d_W_goesAlongX_20 : decode b_W_goesAlongX 20 = .ok (.ireturn, 1) := by decide +kernel
theorem d_W_hasEndAt_0 : decode b_W_hasEndAt 0 = .ok (.aload_n 0, 1) := by decide +kernel
theorem d_W_hasEndAt_1 : decode b_W_hasEndAt 1 = .ok (.getfield 18, 3) := by decide +kernel
theorem d_W_hasEndAt_4 : decode b_W_hasEndAt 4 = .ok (.iload_n 1, 1) := by decide +kernel
theorem d_W_hasEndAt_5 : decode b_W_hasEndAt 5 = .ok (.iaload, 1) := by decide +kernel
theorem d_W_hasEndAt_6 : decode b_W_hasEndAt 6 = .ok (.iload_n 2, 1) := by decide +kernel
theorem d_W_hasEndAt_7 : decode b_W_hasEndAt 7 = .ok (.if_icmp .ne 13, 3) := by decide +kernel
theorem d_W_hasEndAt_10 : decode b_W_hasEndAt 10 = .ok (.aload_n 0, 1) := by decide +kernel
theorem d_W_hasEndAt_11 : decode b_W_hasEndAt 11 = .ok (.getfield 21, 3) := by decide +kernel
theorem d_W_hasEndAt_14 : decode b_W_hasEndAt 14 = .ok (.iload_n 1, 1) := by decide +kernel
theorem d_W_hasEndAt_15 : decode b_W_hasEndAt 15 = .ok (.iaload, 1) := by decide +kernel
theorem d_W_hasEndAt_16 : decode b_W_hasEndAt 16 = .ok (.iload_n 3, 1) := by decide +kernel
theorem d_W_hasEndAt_17 : decode b_W_hasEndAt 17 = .ok (.if_icmp .eq 23, 3) := by decide +kernel
theorem d_W_hasEndAt_20 : decode b_W_hasEndAt 20 = .ok (.aload_n 0, 1) := by decide +kernel
theorem d_W_hasEndAt_21 : decode b_W_hasEndAt 21 = .ok (.getfield 24, 3) := by decide +kernel
theorem d_W_hasEndAt_24 : decode b_W_hasEndAt 24 = .ok (.iload_n 1, 1) := by decide +kernel
theorem d_W_hasEndAt_25 : decode b_W_hasEndAt 25 = .ok (.iaload, 1) := by decide +kernel
theorem d_W_hasEndAt_26 : decode b_W_hasEndAt 26 = .ok (.iload_n 2, 1) := by decide +kernel
theorem d_W_hasEndAt_27 : decode b_W_hasEndAt 27 = .ok (.if_icmp .ne 17, 3) := by decide +kernel
theorem d_W_hasEndAt_30 : decode b_W_hasEndAt 30 = .ok (.aload_n 0, 1) := by decide +kernel
theorem d_W_hasEndAt_31 : decode b_W_hasEndAt 31 = .ok (.getfield 27, 3) := by decide +kernel
theorem d_W_hasEndAt_34 : decode b_W_hasEndAt 34 = .ok (.iload_n 1, 1) := by decide +kernel
theorem d_W_hasEndAt_35 : decode b_W_hasEndAt 35 = .ok (.iaload, 1) := by decide +kernel
theorem d_W_hasEndAt_36 : decode b_W_hasEndAt 36 = .ok (.iload_n 3, 1) := by decide +kernel
theorem d_W_hasEndAt_37 : decode b_W_hasEndAt 37 = .ok (.if_icmp .ne 7, 3) := by decide +kernel
theorem d_W_hasEndAt_40 : decode b_W_hasEndAt 40 = .ok (.iconst 1, 1) := by decide +kernel
theorem d_W_hasEndAt_41 : decode b_W_hasEndAt 41 = .ok (.goto 4, 3) := by decide +kernel
theorem d_W_hasEndAt_44 : decode b_W_hasEndAt 44 = .ok (.iconst 0, 1) := by decide +kernel
theorem d_W_hasEndAt_45 : decode b_W_hasEndAt 45 = .ok (.ireturn, 1) := by decide +kernel
theorem d_W_length_0 : decode b_W_length 0 = .ok (.aload_n 0, 1) := by decide +kernel
theorem d_W_length_1 : decode b_W_length 1 = .ok (.getfield 24, 3) := by decide +kernel
theorem d_W_length_4 : decode b_W_length 4 = .ok (.iload_n 1, 1) := by decide +kernel
theorem d_W_length_5 : decode b_W_length 5 = .ok (.iaload, 1) := by decide +kernel
theorem d_W_length_6 : decode b_W_length 6 = .ok (.aload_n 0, 1) := by decide +kernel
theorem d_W_length_7 : decode b_W_length 7 = .ok (.getfield 18, 3) := by decide +kernel
theorem d_W_length_10 : decode b_W_length 10 = .ok (.iload_n 1, 1) := by decide +kernel
theorem d_W_length_11 : decode b_W_length 11 = .ok (.iaload, 1) := by decide +kernel
theorem d_W_length_12 : decode b_W_length 12 = .ok (.isub, 1) := by decide +kernel
theorem d_W_length_13 : decode b_W_length 13 = .ok (.invokestatic 42, 3) := by decide +kernel
theorem d_W_length_16 : decode b_W_length 16 = .ok (.aload_n 0, 1) := by decide +kernel
theorem d_W_length_17 : decode b_W_length 17 = .ok (.getfield 27, 3) := by decide +kernel
theorem d_W_length_20 : decode b_W_length 20 = .ok (.iload_n 1, 1) := by decide +kernel
theorem d_W_length_21 : decode b_W_length 21 = .ok (.iaload, 1) := by decide +kernel
theorem d_W_length_22 : decode b_W_length 22 = .ok (.aload_n 0, 1) := by decide +kernel
theorem d_W_length_23 : decode b_W_length 23 = .ok (.getfield 21, 3) := by decide +kernel
theorem d_W_length_26 : decode b_W_length 26 = .ok (.iload_n 1, 1) := by decide +kernel
theorem d_W_length_27 : decode b_W_length 27 = .ok (.iaload, 1) := by decide +kernel
theorem d_W_length_28 : decode b_W_length 28 = .ok (.isub, 1) := by decide +kernel
theorem d_W_length_29 : decode b_W_length 29 = .ok (.invokestatic 42, 3) := by decide +kernel
theorem d_W_length_32 : decode b_W_length 32 = .ok (.iadd, 1) := by decide +kernel
theorem d_W_length_33 : decode b_W_length 33 = .ok (.ireturn, 1) := by decide +kernel
theorem d_W_manyOn_0 : decode b_W_manyOn 0 = .ok (.iconst 0, 1) := by decide +kernel
theorem d_W_manyOn_1 : decode b_W_manyOn 1 = .ok (.istore_n 2, 1) := by decide +kernel
theorem d_W_manyOn_2 : decode b_W_manyOn 2 = .ok (.iconst 0, 1) := by decide +kernel
theorem d_W_manyOn_3 : decode b_W_manyOn 3 = .ok (.istore_n 3, 1) := by decide +kernel
theorem d_W_manyOn_4 : decode b_W_manyOn 4 = .ok (.iload_n 3, 1) := by decide +kernel
theorem d_W_manyOn_5 : decode b_W_manyOn 5 = .ok (.aload_n 0, 1) := by decide +kernel
theorem d_W_manyOn_6 : decode b_W_manyOn 6 = .ok (.getfield 34, 3) := by decide +kernel
theorem d_W_manyOn_9 : decode b_W_manyOn 9 = .ok (.if_icmp .ge 21, 3) := by decide +kernel
theorem d_W_manyOn_12 : decode b_W_manyOn 12 = .ok (.aload_n 0, 1) := by decide +kernel
theorem d_W_manyOn_13 : decode b_W_manyOn 13 = .ok (.iload_n 3, 1) := by decide +kernel
theorem d_W_manyOn_14 : decode b_W_manyOn 14 = .ok (.iload_n 1, 1) := by decide +kernel
theorem d_W_manyOn_15 : decode b_W_manyOn 15 = .ok (.invokevirtual 48, 3) := by decide +kernel
theorem d_W_manyOn_18 : decode b_W_manyOn 18 = .ok (.ifCond .eq 6, 3) := by decide +kernel
theorem d_W_manyOn_21 : decode b_W_manyOn 21 = .ok (.iinc 2 1, 3) := by decide +kernel
theorem d_W_manyOn_24 : decode b_W_manyOn 24 = .ok (.iinc 3 1, 3) := by decide +kernel
theorem d_W_manyOn_27 : decode b_W_manyOn 27 = .ok (.goto (-23), 3) := by decide +kernel
theorem d_W_manyOn_30 : decode b_W_manyOn 30 = .ok (.iload_n 2, 1) := by decide +kernel
theorem d_W_manyOn_31 : decode b_W_manyOn 31 = .ok (.ireturn, 1) := by decide +kernel
theorem d_W_manyWith_0 : decode b_W_manyWith 0 = .ok (.iconst 0, 1) := by decide +kernel
theorem d_W_manyWith_1 : decode b_W_manyWith 1 = .ok (.istore_n 2, 1) := by decide +kernel
theorem d_W_manyWith_2 : decode b_W_manyWith 2 = .ok (.iconst 0, 1) := by decide +kernel
theorem d_W_manyWith_3 : decode b_W_manyWith 3 = .ok (.istore_n 3, 1) := by decide +kernel
theorem d_W_manyWith_4 : decode b_W_manyWith 4 = .ok (.iload_n 3, 1) := by decide +kernel
theorem d_W_manyWith_5 : decode b_W_manyWith 5 = .ok (.aload_n 0, 1) := by decide +kernel
theorem d_W_manyWith_6 : decode b_W_manyWith 6 = .ok (.getfield 34, 3) := by decide +kernel
theorem d_W_manyWith_9 : decode b_W_manyWith 9 = .ok (.if_icmp .ge 21, 3) := by decide +kernel
theorem d_W_manyWith_12 : decode b_W_manyWith 12 = .ok (.aload_n 0, 1) := by decide +kernel
theorem d_W_manyWith_13 : decode b_W_manyWith 13 = .ok (.iload_n 3, 1) := by decide +kernel
theorem d_W_manyWith_14 : decode b_W_manyWith 14 = .ok (.iload_n 1, 1) := by decide +kernel
theorem d_W_manyWith_15 : decode b_W_manyWith 15 = .ok (.invokevirtual 52, 3) := by decide +kernel
theorem d_W_manyWith_18 : decode b_W_manyWith 18 = .ok (.ifCond .eq 6, 3) := by decide +kernel
theorem d_W_manyWith_21 : decode b_W_manyWith 21 = .ok (.iinc 2 1, 3) := by decide +kernel
theorem d_W_manyWith_24 : decode b_W_manyWith 24 = .ok (.iinc 3 1, 3) := by decide +kernel
theorem d_W_manyWith_27 : decode b_W_manyWith 27 = .ok (.goto (-23), 3) := by decide +kernel
theorem d_W_manyWith_30 : decode b_W_manyWith 30 = .ok (.iload_n 2, 1) := by decide +kernel
theorem d_W_manyWith_31 : decode b_W_manyWith 31 = .ok (.ireturn, 1) := by decide +kernel
theorem d_W_leastAcross_0 : decode b_W_leastAcross 0 = .ok (.iconst 0, 1) := by decide +kernel
theorem d_W_leastAcross_1 : decode b_W_leastAcross 1 = .ok (.istore 4, 2) := by decide +kernel
theorem d_W_leastAcross_3 : decode b_W_leastAcross 3 = .ok (.iload 4, 2) := by decide +kernel
theorem d_W_leastAcross_5 : decode b_W_leastAcross 5 = .ok (.aload_n 0, 1) := by decide +kernel
theorem d_W_leastAcross_6 : decode b_W_leastAcross 6 = .ok (.getfield 34, 3) := by decide +kernel
theorem d_W_leastAcross_9 : decode b_W_leastAcross 9 = .ok (.if_icmp .ge 52, 3) := by decide +kernel
theorem d_W_leastAcross_12 : decode b_W_leastAcross 12 = .ok (.aload_n 0, 1) := by decide +kernel
theorem d_W_leastAcross_13 : decode b_W_leastAcross 13 = .ok (.iload 4, 2) := by decide +kernel
theorem d_W_leastAcross_15 : decode b_W_leastAcross 15 = .ok (.aload_n 0, 1) := by decide +kernel
theorem d_W_leastAcross_16 : decode b_W_leastAcross 16 = .ok (.getfield 9, 3) := by decide +kernel
theorem d_W_leastAcross_19 : decode b_W_leastAcross 19 = .ok (.iload_n 1, 1) := by decide +kernel
theorem d_W_leastAcross_20 : decode b_W_leastAcross 20 = .ok (.iaload, 1) := by decide +kernel
theorem d_W_leastAcross_21 : decode b_W_leastAcross 21 = .ok (.invokevirtual 48, 3) := by decide +kernel
theorem d_W_leastAcross_24 : decode b_W_leastAcross 24 = .ok (.ifCond .eq 31, 3) := by decide +kernel
theorem d_W_leastAcross_27 : decode b_W_leastAcross 27 = .ok (.aload_n 0, 1) := by decide +kernel
theorem d_W_leastAcross_28 : decode b_W_leastAcross 28 = .ok (.iload 4, 2) := by decide +kernel
theorem d_W_leastAcross_30 : decode b_W_leastAcross 30 = .ok (.invokevirtual 55, 3) := by decide +kernel
theorem d_W_leastAcross_33 : decode b_W_leastAcross 33 = .ok (.aload_n 0, 1) := by decide +kernel
theorem d_W_leastAcross_34 : decode b_W_leastAcross 34 = .ok (.iload_n 1, 1) := by decide +kernel
theorem d_W_leastAcross_35 : decode b_W_leastAcross 35 = .ok (.invokevirtual 55, 3) := by decide +kernel
theorem d_W_leastAcross_38 : decode b_W_leastAcross 38 = .ok (.if_icmp .eq 17, 3) := by decide +kernel
theorem d_W_leastAcross_41 : decode b_W_leastAcross 41 = .ok (.aload_n 0, 1) := by decide +kernel
theorem d_W_leastAcross_42 : decode b_W_leastAcross 42 = .ok (.iload 4, 2) := by decide +kernel
theorem d_W_leastAcross_44 : decode b_W_leastAcross 44 = .ok (.iload_n 2, 1) := by decide +kernel
theorem d_W_leastAcross_45 : decode b_W_leastAcross 45 = .ok (.iload_n 3, 1) := by decide +kernel
theorem d_W_leastAcross_46 : decode b_W_leastAcross 46 = .ok (.invokevirtual 58, 3) := by decide +kernel
theorem d_W_leastAcross_49 : decode b_W_leastAcross 49 = .ok (.ifCond .eq 6, 3) := by decide +kernel
theorem d_W_leastAcross_52 : decode b_W_leastAcross 52 = .ok (.iload 4, 2) := by decide +kernel
theorem d_W_leastAcross_54 : decode b_W_leastAcross 54 = .ok (.ireturn, 1) := by decide +kernel
theorem d_W_leastAcross_55 : decode b_W_leastAcross 55 = .ok (.iinc 4 1, 3) := by decide +kernel
theorem d_W_leastAcross_58 : decode b_W_leastAcross 58 = .ok (.goto (-55), 3) := by decide +kernel
theorem d_W_leastAcross_61 : decode b_W_leastAcross 61 = .ok (.iconst (-1), 1) := by decide +kernel
theorem d_W_leastAcross_62 : decode b_W_leastAcross 62 = .ok (.ireturn, 1) := by decide +kernel
