theorem d_C_init_0 : decode b_C_init 0 = .ok (.aload_n 0, 1) := by decide +kernel
theorem d_C_init_1 : decode b_C_init 1 = .ok (.invokespecial 1, 3) := by decide +kernel
theorem d_C_init_4 : decode b_C_init 4 = .ok (.aload_n 0, 1) := by decide +kernel
theorem d_C_init_5 : decode b_C_init 5 = .ok (.new 7, 3) := by decide +kernel
theorem d_C_init_8 : decode b_C_init 8 = .ok (.dup, 1) := by decide +kernel
theorem d_C_init_9 : decode b_C_init 9 = .ok (.invokespecial 9, 3) := by decide +kernel
theorem d_C_init_12 : decode b_C_init 12 = .ok (.putfield 10, 3) := by decide +kernel
theorem d_C_init_15 : decode b_C_init 15 = .ok (.aload_n 0, 1) := by decide +kernel
theorem d_C_init_16 : decode b_C_init 16 = .ok (.new 16, 3) := by decide +kernel
theorem d_C_init_19 : decode b_C_init 19 = .ok (.dup, 1) := by decide +kernel
theorem d_C_init_20 : decode b_C_init 20 = .ok (.invokespecial 18, 3) := by decide +kernel
theorem d_C_init_23 : decode b_C_init 23 = .ok (.putfield 19, 3) := by decide +kernel
theorem d_C_init_26 : decode b_C_init 26 = .ok (.aload_n 0, 1) := by decide +kernel
theorem d_C_init_27 : decode b_C_init 27 = .ok (.new 23, 3) := by decide +kernel
theorem d_C_init_30 : decode b_C_init 30 = .ok (.dup, 1) := by decide +kernel
theorem d_C_init_31 : decode b_C_init 31 = .ok (.invokespecial 25, 3) := by decide +kernel
theorem d_C_init_34 : decode b_C_init 34 = .ok (.putfield 26, 3) := by decide +kernel
theorem d_C_init_37 : decode b_C_init 37 = .ok (.aload_n 0, 1) := by decide +kernel
theorem d_C_init_38 : decode b_C_init 38 = .ok (.new 30, 3) := by decide +kernel
theorem d_C_init_41 : decode b_C_init 41 = .ok (.dup, 1) := by decide +kernel
theorem d_C_init_42 : decode b_C_init 42 = .ok (.invokespecial 32, 3) := by decide +kernel
theorem d_C_init_45 : decode b_C_init 45 = .ok (.putfield 33, 3) := by decide +kernel
theorem d_C_init_48 : decode b_C_init 48 = .ok (.aload_n 0, 1) := by decide +kernel
theorem d_C_init_49 : decode b_C_init 49 = .ok (.new 37, 3) := by decide +kernel
theorem d_C_init_52 : decode b_C_init 52 = .ok (.dup, 1) := by decide +kernel
theorem d_C_init_53 : decode b_C_init 53 = .ok (.invokespecial 39, 3) := by decide +kernel
theorem d_C_init_56 : decode b_C_init 56 = .ok (.putfield 40, 3) := by decide +kernel
theorem d_C_init_59 : decode b_C_init 59 = .ok (.return_, 1) := by decide +kernel
theorem d_C_storey_0 : decode b_C_storey 0 = .ok (.aload_n 0, 1) := by decide +kernel
theorem d_C_storey_1 : decode b_C_storey 1 = .ok (.getfield 10, 3) := by decide +kernel
theorem d_C_storey_4 : decode b_C_storey 4 = .ok (.getfield 44, 3) := by decide +kernel
theorem d_C_storey_7 : decode b_C_storey 7 = .ok (.istore_n 2, 1) := by decide +kernel
theorem d_C_storey_8 : decode b_C_storey 8 = .ok (.aload_n 0, 1) := by decide +kernel
theorem d_C_storey_9 : decode b_C_storey 9 = .ok (.iload_n 2, 1) := by decide +kernel
theorem d_C_storey_10 : decode b_C_storey 10 = .ok (.iload_n 1, 1) := by decide +kernel
theorem d_C_storey_11 : decode b_C_storey 11 = .ok (.invokevirtual 48, 3) := by decide +kernel
theorem d_C_storey_14 : decode b_C_storey 14 = .ok (.iload_n 2, 1) := by decide +kernel
theorem d_C_storey_15 : decode b_C_storey 15 = .ok (.bipush 6, 2) := by decide +kernel
theorem d_C_storey_17 : decode b_C_storey 17 = .ok (.if_icmp .lt 13, 3) := by decide +kernel
theorem d_C_storey_20 : decode b_C_storey 20 = .ok (.new 52, 3) := by decide +kernel
theorem d_C_storey_23 : decode b_C_storey 23 = .ok (.dup, 1) := by decide +kernel
theorem d_C_storey_24 : decode b_C_storey 24 = .ok (.ldc 54, 2) := by decide +kernel
theorem d_C_storey_26 : decode b_C_storey 26 = .ok (.invokespecial 56, 3) := by decide +kernel
theorem d_C_storey_29 : decode b_C_storey 29 = .ok (.athrow, 1) := by decide +kernel
theorem d_C_storey_30 : decode b_C_storey 30 = .ok (.aload_n 0, 1) := by decide +kernel
theorem d_C_storey_31 : decode b_C_storey 31 = .ok (.invokevirtual 59, 3) := by decide +kernel
theorem d_C_storey_34 : decode b_C_storey 34 = .ok (.aload_n 0, 1) := by decide +kernel
theorem d_C_storey_35 : decode b_C_storey 35 = .ok (.getfield 10, 3) := by decide +kernel
theorem d_C_storey_38 : decode b_C_storey 38 = .ok (.getfield 62, 3) := by decide +kernel
theorem d_C_storey_41 : decode b_C_storey 41 = .ok (.iload_n 2, 1) := by decide +kernel
theorem d_C_storey_42 : decode b_C_storey 42 = .ok (.iload_n 1, 1) := by decide +kernel
theorem d_C_storey_43 : decode b_C_storey 43 = .ok (.iastore, 1) := by decide +kernel
theorem d_C_storey_44 : decode b_C_storey 44 = .ok (.aload_n 0, 1) := by decide +kernel
theorem d_C_storey_45 : decode b_C_storey 45 = .ok (.iconst 0, 1) := by decide +kernel
theorem d_C_storey_46 : decode b_C_storey 46 = .ok (.iload_n 2, 1) := by decide +kernel
theorem d_C_storey_47 : decode b_C_storey 47 = .ok (.iconst 0, 1) := by decide +kernel
theorem d_C_storey_48 : decode b_C_storey 48 = .ok (.iconst 0, 1) := by decide +kernel
theorem d_C_storey_49 : decode b_C_storey 49 = .ok (.invokevirtual 66, 3) := by decide +kernel
theorem d_C_storey_52 : decode b_C_storey 52 = .ok (.iload_n 2, 1) := by decide +kernel
theorem d_C_storey_53 : decode b_C_storey 53 = .ok (.ireturn, 1) := by decide +kernel
theorem d_C_level_0 : decode b_C_level 0 = .ok (.aload_n 0, 1) := by decide +kernel
theorem d_C_level_1 : decode b_C_level 1 = .ok (.iload_n 1, 1) := by decide +kernel
theorem d_C_level_2 : decode b_C_level 2 = .ok (.invokevirtual 70, 3) := by decide +kernel
theorem d_C_level_5 : decode b_C_level 5 = .ok (.aload_n 0, 1) := by decide +kernel
theorem d_C_level_6 : decode b_C_level 6 = .ok (.iload_n 1, 1) := by decide +kernel
theorem d_C_level_7 : decode b_C_level 7 = .ok (.iload_n 2, 1) := by decide +kernel
theorem d_C_level_8 : decode b_C_level 8 = .ok (.invokevirtual 48, 3) := by decide +kernel
theorem d_C_level_11 : decode b_C_level 11 = .ok (.aload_n 0, 1) := by decide +kernel
theorem d_C_level_12 : decode b_C_level 12 = .ok (.invokevirtual 59, 3) := by decide +kernel
theorem d_C_level_15 : decode b_C_level 15 = .ok (.aload_n 0, 1) := by decide +kernel
theorem d_C_level_16 : decode b_C_level 16 = .ok (.iconst 3, 1) := by decide +kernel
theorem d_C_level_17 : decode b_C_level 17 = .ok (.iload_n 1, 1) := by decide +kernel
theorem d_C_level_18 : decode b_C_level 18 = .ok (.iload_n 2, 1) := by decide +kernel
theorem d_C_level_19 : decode b_C_level 19 = .ok (.iconst 0, 1) := by decide +kernel
theorem d_C_level_20 : decode b_C_level 20 = .ok (.invokevirtual 66, 3) := by decide +kernel
theorem d_C_level_23 : decode b_C_level 23 = .ok (.return_, 1) := by decide +kernel
theorem d_C_type_0 : decode b_C_type 0 = .ok (.aload_n 0, 1) := by decide +kernel
theorem d_C_type_1 : decode b_C_type 1 = .ok (.getfield 19, 3) := by decide +kernel
theorem d_C_type_4 : decode b_C_type 4 = .ok (.getfield 74, 3) := by decide +kernel
theorem d_C_type_7 : decode b_C_type 7 = .ok (.istore_n 2, 1) := by decide +kernel
theorem d_C_type_8 : decode b_C_type 8 = .ok (.iload_n 1, 1) := by decide +kernel
theorem d_C_type_9 : decode b_C_type 9 = .ok (.invokestatic 75, 3) := by decide +kernel
theorem d_C_type_12 : decode b_C_type 12 = .ok (.iload_n 2, 1) := by decide +kernel
theorem d_C_type_13 : decode b_C_type 13 = .ok (.bipush 8, 2) := by decide +kernel
theorem d_C_type_15 : decode b_C_type 15 = .ok (.if_icmp .lt 13, 3) := by decide +kernel
theorem d_C_type_18 : decode b_C_type 18 = .ok (.new 52, 3) := by decide +kernel
theorem d_C_type_21 : decode b_C_type 21 = .ok (.dup, 1) := by decide +kernel
theorem d_C_type_22 : decode b_C_type 22 = .ok (.ldc 78, 2) := by decide +kernel
theorem d_C_type_24 : decode b_C_type 24 = .ok (.invokespecial 56, 3) := by decide +kernel
theorem d_C_type_27 : decode b_C_type 27 = .ok (.athrow, 1) := by decide +kernel
theorem d_C_type_28 : decode b_C_type 28 = .ok (.aload_n 0, 1) := by decide +kernel
theorem d_C_type_29 : decode b_C_type 29 = .ok (.invokevirtual 59, 3) := by decide +kernel
theorem d_C_type_32 : decode b_C_type 32 = .ok (.aload_n 0, 1) := by decide +kernel
theorem d_C_type_33 : decode b_C_type 33 = .ok (.getfield 19, 3) := by decide +kernel
theorem d_C_type_36 : decode b_C_type 36 = .ok (.getfield 80, 3) := by decide +kernel
theorem d_C_type_39 : decode b_C_type 39 = .ok (.iload_n 2, 1) := by decide +kernel
theorem d_C_type_40 : decode b_C_type 40 = .ok (.iload_n 1, 1) := by decide +kernel
theorem d_C_type_41 : decode b_C_type 41 = .ok (.iastore, 1) := by decide +kernel
theorem d_C_type_42 : decode b_C_type 42 = .ok (.aload_n 0, 1) := by decide +kernel
theorem d_C_type_43 : decode b_C_type 43 = .ok (.iconst 1, 1) := by decide +kernel
theorem d_C_type_44 : decode b_C_type 44 = .ok (.iload_n 2, 1) := by decide +kernel
theorem d_C_type_45 : decode b_C_type 45 = .ok (.iconst 0, 1) := by decide +kernel
theorem d_C_type_46 : decode b_C_type 46 = .ok (.iconst 0, 1) := by decide +kernel
theorem d_C_type_47 : decode b_C_type 47 = .ok (.invokevirtual 66, 3) := by decide +kernel
theorem d_C_type_50 : decode b_C_type 50 = .ok (.iload_n 2, 1) := by decide +kernel
theorem d_C_type_51 : decode b_C_type 51 = .ok (.ireturn, 1) := by decide +kernel
theorem d_C_thickness_0 : decode b_C_thickness 0 = .ok (.aload_n 0, 1) := by decide +kernel
theorem d_C_thickness_1 : decode b_C_thickness 1 = .ok (.iload_n 1, 1) := by decide +kernel
theorem d_C_thickness_2 : decode b_C_thickness 2 = .ok (.invokevirtual 83, 3) := by decide +kernel
theorem d_C_thickness_5 : decode b_C_thickness 5 = .ok (.iload_n 2, 1) := by decide +kernel
theorem d_C_thickness_6 : decode b_C_thickness 6 = .ok (.invokestatic 75, 3) := by decide +kernel
theorem d_C_thickness_9 : decode b_C_thickness 9 = .ok (.aload_n 0, 1) := by decide +kernel
theorem d_C_thickness_10 : decode b_C_thickness 10 = .ok (.invokevirtual 59, 3) := by decide +kernel
theorem d_C_thickness_13 : decode b_C_thickness 13 = .ok (.aload_n 0, 1) := by decide +kernel
theorem d_C_thickness_14 : decode b_C_thickness 14 = .ok (.iconst 4, 1) := by decide +kernel
theorem d_C_thickness_15 : decode b_C_thickness 15 = .ok (.iload_n 1, 1) := by decide +kernel
theorem d_C_thickness_16 : decode b_C_thickness 16 = .ok (.iload_n 2, 1) := by decide +kernel
theorem d_C_thickness_17 : decode b_C_thickness 17 = .ok (.iconst 0, 1) := by decide +kernel
theorem d_C_thickness_18 : decode b_C_thickness 18 = .ok (.invokevirtual 66, 3) := by decide +kernel
theorem d_C_thickness_21 : decode b_C_thickness 21 = .ok (.return_, 1) := by decide +kernel
theorem d_C_wall_0 : decode b_C_wall 0 = .ok (.aload_n 0, 1) := by decide +kernel
theorem d_C_wall_1 : decode b_C_wall 1 = .ok (.iload_n 1, 1) := by decide +kernel
theorem d_C_wall_2 : decode b_C_wall 2 = .ok (.invokevirtual 70, 3) := by decide +kernel
theorem d_C_wall_5 : decode b_C_wall 5 = .ok (.aload_n 0, 1) := by decide +kernel
theorem d_C_wall_6 : decode b_C_wall 6 = .ok (.iload_n 2, 1) := by decide +kernel
theorem d_C_wall_7 : decode b_C_wall 7 = .ok (.invokevirtual 83, 3) := by decide +kernel
theorem d_C_wall_10 : decode b_C_wall 10 = .ok (.iload_n 3, 1) := by decide +kernel
theorem d_C_wall_11 : decode b_C_wall 11 = .ok (.i2l, 1) := by decide +kernel
theorem d_C_wall_12 : decode b_C_wall 12 = .ok (.iload 4, 2) := by decide +kernel
theorem d_C_wall_14 : decode b_C_wall 14 = .ok (.i2l, 1) := by decide +kernel
theorem d_C_wall_15 : decode b_C_wall 15 = .ok (.invokestatic 86, 3) := by decide +kernel
theorem d_C_wall_18 : decode b_C_wall 18 = .ok (.iload 5, 2) := by decide +kernel
theorem d_C_wall_20 : decode b_C_wall 20 = .ok (.i2l, 1) := by decide +kernel
theorem d_C_wall_21 : decode b_C_wall 21 = .ok (.iload 6, 2) := by decide +kernel
theorem d_C_wall_23 : decode b_C_wall 23 = .ok (.i2l, 1) := by decide +kernel
theorem d_C_wall_24 : decode b_C_wall 24 = .ok (.invokestatic 86, 3) := by decide +kernel
theorem d_C_wall_27 : decode b_C_wall 27 = .ok (.iload_n 3, 1) := by decide +kernel
theorem d_C_wall_28 : decode b_C_wall 28 = .ok (.iload 5, 2) := by decide +kernel
theorem d_C_wall_30 : decode b_C_wall 30 = .ok (.if_icmp .ne 7, 3) := by decide +kernel
theorem d_C_wall_33 : decode b_C_wall 33 = .ok (.iconst 1, 1) := by decide +kernel
theorem d_C_wall_34 : decode b_C_wall 34 = .ok (.goto 4, 3) := by decide +kernel
theorem d_C_wall_37 : decode b_C_wall 37 = .ok (.iconst 0, 1) := by decide +kernel
theorem d_C_wall_38 : decode b_C_wall 38 = .ok (.iload 4, 2) := by decide +kernel
theorem d_C_wall_40 : decode b_C_wall 40 = .ok (.iload 6, 2) := by decide +kernel
theorem d_C_wall_42 : decode b_C_wall 42 = .ok (.if_icmp .ne 7, 3) := by decide +kernel
theorem d_C_wall_45 : decode b_C_wall 45 = .ok (.iconst 1, 1) := by decide +kernel
theorem d_C_wall_46 : decode b_C_wall 46 = .ok (.goto 4, 3) := by decide +kernel
theorem d_C_wall_49 : decode b_C_wall 49 = .ok (.iconst 0, 1) := by decide +kernel
theorem d_C_wall_50 : decode b_C_wall 50 = .ok (.if_icmp .ne 13, 3) := by decide +kernel
theorem d_C_wall_53 : decode b_C_wall 53 = .ok (.new 90, 3) := by decide +kernel
theorem d_C_wall_56 : decode b_C_wall 56 = .ok (.dup, 1) := by decide +kernel
theorem d_C_wall_57 : decode b_C_wall 57 = .ok (.ldc 92, 2) := by decide +kernel
theorem d_C_wall_59 : decode b_C_wall 59 = .ok (.invokespecial 94, 3) := by decide +kernel
theorem d_C_wall_62 : decode b_C_wall 62 = .ok (.athrow, 1) := by decide +kernel
theorem d_C_wall_63 : decode b_C_wall 63 = .ok (.aload_n 0, 1) := by decide +kernel
theorem d_C_wall_64 : decode b_C_wall 64 = .ok (.getfield 26, 3) := by decide +kernel
theorem d_C_wall_67 : decode b_C_wall 67 = .ok (.getfield 95, 3) := by decide +kernel
theorem d_C_wall_70 : decode b_C_wall 70 = .ok (.istore 7, 2) := by decide +kernel
theorem d_C_wall_72 : decode b_C_wall 72 = .ok (.iload 7, 2) := by decide +kernel
theorem d_C_wall_74 : decode b_C_wall 74 = .ok (.bipush 40, 2) := by decide +kernel
theorem d_C_wall_76 : decode b_C_wall 76 = .ok (.if_icmp .lt 13, 3) := by decide +kernel
theorem d_C_wall_79 : decode b_C_wall 79 = .ok (.new 52, 3) := by decide +kernel
theorem d_C_wall_82 : decode b_C_wall 82 = .ok (.dup, 1) := by decide +kernel
theorem d_C_wall_83 : decode b_C_wall 83 = .ok (.ldc 96, 2) := by decide +kernel
theorem d_C_wall_85 : decode b_C_wall 85 = .ok (.invokespecial 56, 3) := by decide +kernel
theorem d_C_wall_88 : decode b_C_wall 88 = .ok (.athrow, 1) := by decide +kernel
theorem d_C_wall_89 : decode b_C_wall 89 = .ok (.aload_n 0, 1) := by decide +kernel
theorem d_C_wall_90 : decode b_C_wall 90 = .ok (.invokevirtual 59, 3) := by decide +kernel
theorem d_C_wall_93 : decode b_C_wall 93 = .ok (.aload_n 0, 1) := by decide +kernel
theorem d_C_wall_94 : decode b_C_wall 94 = .ok (.getfield 26, 3) := by decide +kernel
theorem d_C_wall_97 : decode b_C_wall 97 = .ok (.iload_n 1, 1) := by decide +kernel
theorem d_C_wall_98 : decode b_C_wall 98 = .ok (.iload_n 2, 1) := by decide +kernel
theorem d_C_wall_99 : decode b_C_wall 99 = .ok (.iload_n 3, 1) := by decide +kernel
theorem d_C_wall_100 : decode b_C_wall 100 = .ok (.iload 4, 2) := by decide +kernel
theorem d_C_wall_102 : decode b_C_wall 102 = .ok (.iload 5, 2) := by decide +kernel
theorem d_C_wall_104 : decode b_C_wall 104 = .ok (.iload 6, 2) := by decide +kernel
theorem d_C_wall_106 : decode b_C_wall 106 = .ok (.invokevirtual 98, 3) := by decide +kernel
theorem d_C_wall_109 : decode b_C_wall 109 = .ok (.aload_n 0, 1) := by decide +kernel
theorem d_C_wall_110 : decode b_C_wall 110 = .ok (.iconst 2, 1) := by decide +kernel
theorem d_C_wall_111 : decode b_C_wall 111 = .ok (.iload 7, 2) := by decide +kernel
theorem d_C_wall_113 : decode b_C_wall 113 = .ok (.iconst 1, 1) := by decide +kernel
theorem d_C_wall_114 : decode b_C_wall 114 = .ok (.iconst 0, 1) := by decide +kernel
theorem d_C_wall_115 : decode b_C_wall 115 = .ok (.invokevirtual 66, 3) := by decide +kernel
theorem d_C_wall_118 : decode b_C_wall 118 = .ok (.iload 7, 2) := by decide +kernel
theorem d_C_wall_120 : decode b_C_wall 120 = .ok (.ireturn, 1) := by decide +kernel
theorem d_C_move_0 : decode b_C_move 0 = .ok (.aload_n 0, 1) := by decide +kernel
theorem d_C_move_1 : decode b_C_move 1 = .ok (.iload_n 1, 1) := by decide +kernel
theorem d_C_move_2 : decode b_C_move 2 = .ok (.invokevirtual 102, 3) := by decide +kernel
theorem d_C_move_5 : decode b_C_move 5 = .ok (.aload_n 0, 1) := by decide +kernel
theorem d_C_move_6 : decode b_C_move 6 = .ok (.getfield 26, 3) := by decide +kernel
theorem d_C_move_9 : decode b_C_move 9 = .ok (.getfield 105, 3) := by decide +kernel
theorem d_C_move_12 : decode b_C_move 12 = .ok (.iload_n 1, 1) := by decide +kernel
theorem d_C_move_13 : decode b_C_move 13 = .ok (.iaload, 1) := by decide +kernel
theorem d_C_move_14 : decode b_C_move 14 = .ok (.i2l, 1) := by decide +kernel
theorem d_C_move_15 : decode b_C_move 15 = .ok (.iload_n 2, 1) := by decide +kernel
theorem d_C_move_16 : decode b_C_move 16 = .ok (.i2l, 1) := by decide +kernel
theorem d_C_move_17 : decode b_C_move 17 = .ok (.ladd, 1) := by decide +kernel
theorem d_C_move_18 : decode b_C_move 18 = .ok (.aload_n 0, 1) := by decide +kernel
theorem d_C_move_19 : decode b_C_move 19 = .ok (.getfield 26, 3) := by decide +kernel
theorem d_C_move_22 : decode b_C_move 22 = .ok (.getfield 108, 3) := by decide +kernel
theorem d_C_move_25 : decode b_C_move 25 = .ok (.iload_n 1, 1) := by decide +kernel
theorem d_C_move_26 : decode b_C_move 26 = .ok (.iaload, 1) := by decide +kernel
theorem d_C_move_27 : decode b_C_move 27 = .ok (.i2l, 1) := by decide +kernel
theorem d_C_move_28 : decode b_C_move 28 = .ok (.iload_n 3, 1) := by decide +kernel
theorem d_C_move_29 : decode b_C_move 29 = .ok (.i2l, 1) := by decide +kernel
theorem d_C_move_30 : decode b_C_move 30 = .ok (.ladd, 1) := by decide +kernel
theorem d_C_move_31 : decode b_C_move 31 = .ok (.invokestatic 86, 3) := by decide +kernel
theorem d_C_move_34 : decode b_C_move 34 = .ok (.aload_n 0, 1) := by decide +kernel
theorem d_C_move_35 : decode b_C_move 35 = .ok (.getfield 26, 3) := by decide +kernel
theorem d_C_move_38 : decode b_C_move 38 = .ok (.getfield 111, 3) := by decide +kernel
theorem d_C_move_41 : decode b_C_move 41 = .ok (.iload_n 1, 1) := by decide +kernel
theorem d_C_move_42 : decode b_C_move 42 = .ok (.iaload, 1) := by decide +kernel
theorem d_C_move_43 : decode b_C_move 43 = .ok (.i2l, 1) := by decide +kernel
theorem d_C_move_44 : decode b_C_move 44 = .ok (.iload_n 2, 1) := by decide +kernel
theorem d_C_move_45 : decode b_C_move 45 = .ok (.i2l, 1) := by decide +kernel
theorem d_C_move_46 : decode b_C_move 46 = .ok (.ladd, 1) := by decide +kernel
theorem d_C_move_47 : decode b_C_move 47 = .ok (.aload_n 0, 1) := by decide +kernel
theorem d_C_move_48 : decode b_C_move 48 = .ok (.getfield 26, 3) := by decide +kernel
theorem d_C_move_51 : decode b_C_move 51 = .ok (.getfield 114, 3) := by decide +kernel
theorem d_C_move_54 : decode b_C_move 54 = .ok (.iload_n 1, 1) := by decide +kernel
theorem d_C_move_55 : decode b_C_move 55 = .ok (.iaload, 1) := by decide +kernel
theorem d_C_move_56 : decode b_C_move 56 = .ok (.i2l, 1) := by decide +kernel
theorem d_C_move_57 : decode b_C_move 57 = .ok (.iload_n 3, 1) := by decide +kernel
theorem d_C_move_58 : decode b_C_move 58 = .ok (.i2l, 1) := by decide +kernel
theorem d_C_move_59 : decode b_C_move 59 = .ok (.ladd, 1) := by decide +kernel
theorem d_C_move_60 : decode b_C_move 60 = .ok (.invokestatic 86, 3) := by decide +kernel
theorem d_C_move_63 : decode b_C_move 63 = .ok (.aload_n 0, 1) := by decide +kernel
theorem d_C_move_64 : decode b_C_move 64 = .ok (.invokevirtual 59, 3) := by decide +kernel
theorem d_C_move_67 : decode b_C_move 67 = .ok (.aload_n 0, 1) := by decide +kernel
theorem d_C_move_68 : decode b_C_move 68 = .ok (.bipush 6, 2) := by decide +kernel
theorem d_C_move_70 : decode b_C_move 70 = .ok (.iload_n 1, 1) := by decide +kernel
theorem d_C_move_71 : decode b_C_move 71 = .ok (.iload_n 2, 1) := by decide +kernel
theorem d_C_move_72 : decode b_C_move 72 = .ok (.iload_n 3, 1) := by decide +kernel
theorem d_C_move_73 : decode b_C_move 73 = .ok (.invokevirtual 66, 3) := by decide +kernel
theorem d_C_move_76 : decode b_C_move 76 = .ok (.return_, 1) := by decide +kernel
theorem d_C_retype_0 : decode b_C_retype 0 = .ok (.aload_n 0, 1) := by decide +kernel
theorem d_C_retype_1 : decode b_C_retype 1 = .ok (.iload_n 1, 1) := by decide +kernel
theorem d_C_retype_2 : decode b_C_retype 2 = .ok (.invokevirtual 102, 3) := by decide +kernel
theorem d_C_retype_5 : decode b_C_retype 5 = .ok (.aload_n 0, 1) := by decide +kernel
theorem d_C_retype_6 : decode b_C_retype 6 = .ok (.iload_n 2, 1) := by decide +kernel
theorem d_C_retype_7 : decode b_C_retype 7 = .ok (.invokevirtual 83, 3) := by decide +kernel
theorem d_C_retype_10 : decode b_C_retype 10 = .ok (.aload_n 0, 1) := by decide +kernel
theorem d_C_retype_11 : decode b_C_retype 11 = .ok (.invokevirtual 59, 3) := by decide +kernel
theorem d_C_retype_14 : decode b_C_retype 14 = .ok (.aload_n 0, 1) := by decide +kernel
theorem d_C_retype_15 : decode b_C_retype 15 = .ok (.iconst 5, 1) := by decide +kernel
theorem d_C_retype_16 : decode b_C_retype 16 = .ok (.iload_n 1, 1) := by decide +kernel
theorem d_C_retype_17 : decode b_C_retype 17 = .ok (.iload_n 2, 1) := by decide +kernel
theorem d_C_retype_18 : decode b_C_retype 18 = .ok (.iconst 0, 1) := by decide +kernel
theorem d_C_retype_19 : decode b_C_retype 19 = .ok (.invokevirtual 66, 3) := by decide +kernel
theorem d_C_retype_22 : decode b_C_retype 22 = .ok (.return_, 1) := by decide +kernel
theorem d_C_remove_0 : decode b_C_remove 0 = .ok (.aload_n 0, 1) := by decide +kernel
theorem d_C_remove_1 : decode b_C_remove 1 = .ok (.iload_n 1, 1) := by decide +kernel
theorem d_C_remove_2 : decode b_C_remove 2 = .ok (.invokevirtual 102, 3) := by decide +kernel
theorem d_C_remove_5 : decode b_C_remove 5 = .ok (.aload_n 0, 1) := by decide +kernel
theorem d_C_remove_6 : decode b_C_remove 6 = .ok (.invokevirtual 59, 3) := by decide +kernel
theorem d_C_remove_9 : decode b_C_remove 9 = .ok (.aload_n 0, 1) := by decide +kernel
theorem d_C_remove_10 : decode b_C_remove 10 = .ok (.bipush 7, 2) := by decide +kernel
theorem d_C_remove_12 : decode b_C_remove 12 = .ok (.iload_n 1, 1) := by decide +kernel
theorem d_C_remove_13 : decode b_C_remove 13 = .ok (.iconst 0, 1) := by decide +kernel
theorem d_C_remove_14 : decode b_C_remove 14 = .ok (.iconst 0, 1) := by decide +kernel
theorem d_C_remove_15 : decode b_C_remove 15 = .ok (.invokevirtual 66, 3) := by decide +kernel
theorem d_C_remove_18 : decode b_C_remove 18 = .ok (.return_, 1) := by decide +kernel
theorem d_C_opening_0 : decode b_C_opening 0 = .ok (.aload_n 0, 1) := by decide +kernel
theorem d_C_opening_1 : decode b_C_opening 1 = .ok (.iload_n 1, 1) := by decide +kernel
theorem d_C_opening_2 : decode b_C_opening 2 = .ok (.invokevirtual 102, 3) := by decide +kernel
theorem d_C_opening_5 : decode b_C_opening 5 = .ok (.iload_n 2, 1) := by decide +kernel
theorem d_C_opening_6 : decode b_C_opening 6 = .ok (.ifCond .lt 26, 3) := by decide +kernel
theorem d_C_opening_9 : decode b_C_opening 9 = .ok (.iload_n 3, 1) := by decide +kernel
theorem d_C_opening_10 : decode b_C_opening 10 = .ok (.iconst 1, 1) := by decide +kernel
theorem d_C_opening_11 : decode b_C_opening 11 = .ok (.if_icmp .lt 21, 3) := by decide +kernel
theorem d_C_opening_14 : decode b_C_opening 14 = .ok (.iload_n 2, 1) := by decide +kernel
theorem d_C_opening_15 : decode b_C_opening 15 = .ok (.i2l, 1) := by decide +kernel
theorem d_C_opening_16 : decode b_C_opening 16 = .ok (.iload_n 3, 1) := by decide +kernel
theorem d_C_opening_17 : decode b_C_opening 17 = .ok (.i2l, 1) := by decide +kernel
theorem d_C_opening_18 : decode b_C_opening 18 = .ok (.ladd, 1) := by decide +kernel
theorem d_C_opening_19 : decode b_C_opening 19 = .ok (.aload_n 0, 1) := by decide +kernel
theorem d_C_opening_20 : decode b_C_opening 20 = .ok (.getfield 26, 3) := by decide +kernel
theorem d_C_opening_23 : decode b_C_opening 23 = .ok (.iload_n 1, 1) := by decide +kernel
theorem d_C_opening_24 : decode b_C_opening 24 = .ok (.invokevirtual 117, 3) := by decide +kernel
theorem d_C_opening_27 : decode b_C_opening 27 = .ok (.i2l, 1) := by decide +kernel
theorem d_C_opening_28 : decode b_C_opening 28 = .ok (.lcmp, 1) := by decide +kernel
theorem d_C_opening_29 : decode b_C_opening 29 = .ok (.ifCond .le 13, 3) := by decide +kernel
theorem d_C_opening_32 : decode b_C_opening 32 = .ok (.new 90, 3) := by decide +kernel
theorem d_C_opening_35 : decode b_C_opening 35 = .ok (.dup, 1) := by decide +kernel
theorem d_C_opening_36 : decode b_C_opening 36 = .ok (.ldc 121, 2) := by decide +kernel
theorem d_C_opening_38 : decode b_C_opening 38 = .ok (.invokespecial 94, 3) := by decide +kernel
theorem d_C_opening_41 : decode b_C_opening 41 = .ok (.athrow, 1) := by decide +kernel
theorem d_C_opening_42 : decode b_C_opening 42 = .ok (.aload_n 0, 1) := by decide +kernel
theorem d_C_opening_43 : decode b_C_opening 43 = .ok (.getfield 33, 3) := by decide +kernel
theorem d_C_opening_46 : decode b_C_opening 46 = .ok (.getfield 123, 3) := by decide +kernel
theorem d_C_opening_49 : decode b_C_opening 49 = .ok (.istore 4, 2) := by decide +kernel
theorem d_C_opening_51 : decode b_C_opening 51 = .ok (.aload_n 0, 1) := by decide +kernel
theorem d_C_opening_52 : decode b_C_opening 52 = .ok (.getfield 33, 3) := by decide +kernel
theorem d_C_opening_55 : decode b_C_opening 55 = .ok (.iload_n 1, 1) := by decide +kernel
theorem d_C_opening_56 : decode b_C_opening 56 = .ok (.iload_n 2, 1) := by decide +kernel
theorem d_C_opening_57 : decode b_C_opening 57 = .ok (.iload_n 3, 1) := by decide +kernel
theorem d_C_opening_58 : decode b_C_opening 58 = .ok (.invokevirtual 124, 3) := by decide +kernel
theorem d_C_opening_61 : decode b_C_opening 61 = .ok (.ifCond .eq 13, 3) := by decide +kernel
theorem d_C_opening_64 : decode b_C_opening 64 = .ok (.new 52, 3) := by decide +kernel
theorem d_C_opening_67 : decode b_C_opening 67 = .ok (.dup, 1) := by decide +kernel
theorem d_C_opening_68 : decode b_C_opening 68 = .ok (.ldc 128, 2) := by decide +kernel
theorem d_C_opening_70 : decode b_C_opening 70 = .ok (.invokespecial 56, 3) := by decide +kernel
theorem d_C_opening_73 : decode b_C_opening 73 = .ok (.athrow, 1) := by decide +kernel
theorem d_C_opening_74 : decode b_C_opening 74 = .ok (.iload 4, 2) := by decide +kernel
theorem d_C_opening_76 : decode b_C_opening 76 = .ok (.bipush 60, 2) := by decide +kernel
theorem d_C_opening_78 : decode b_C_opening 78 = .ok (.if_icmp .lt 13, 3) := by decide +kernel
theorem d_C_opening_81 : decode b_C_opening 81 = .ok (.new 52, 3) := by decide +kernel
theorem d_C_opening_84 : decode b_C_opening 84 = .ok (.dup, 1) := by decide +kernel
theorem d_C_opening_85 : decode b_C_opening 85 = .ok (.ldc 130, 2) := by decide +kernel
theorem d_C_opening_87 : decode b_C_opening 87 = .ok (.invokespecial 56, 3) := by decide +kernel
theorem d_C_opening_90 : decode b_C_opening 90 = .ok (.athrow, 1) := by decide +kernel
theorem d_C_opening_91 : decode b_C_opening 91 = .ok (.aload_n 0, 1) := by decide +kernel
theorem d_C_opening_92 : decode b_C_opening 92 = .ok (.invokevirtual 59, 3) := by decide +kernel
theorem d_C_opening_95 : decode b_C_opening 95 = .ok (.aload_n 0, 1) := by decide +kernel
theorem d_C_opening_96 : decode b_C_opening 96 = .ok (.getfield 33, 3) := by decide +kernel
theorem d_C_opening_99 : decode b_C_opening 99 = .ok (.iload 4, 2) := by decide +kernel
theorem d_C_opening_101 : decode b_C_opening 101 = .ok (.iload_n 1, 1) := by decide +kernel
theorem d_C_opening_102 : decode b_C_opening 102 = .ok (.iload_n 2, 1) := by decide +kernel
theorem d_C_opening_103 : decode b_C_opening 103 = .ok (.iload_n 3, 1) := by decide +kernel
theorem d_C_opening_104 : decode b_C_opening 104 = .ok (.invokevirtual 132, 3) := by decide +kernel
theorem d_C_opening_107 : decode b_C_opening 107 = .ok (.aload_n 0, 1) := by decide +kernel
theorem d_C_opening_108 : decode b_C_opening 108 = .ok (.iconst 2, 1) := by decide +kernel
theorem d_C_opening_109 : decode b_C_opening 109 = .ok (.iload_n 1, 1) := by decide +kernel
theorem d_C_opening_110 : decode b_C_opening 110 = .ok (.iconst 0, 1) := by decide +kernel
theorem d_C_opening_111 : decode b_C_opening 111 = .ok (.iconst 1, 1) := by decide +kernel
theorem d_C_opening_112 : decode b_C_opening 112 = .ok (.invokevirtual 66, 3) := by decide +kernel
theorem d_C_opening_115 : decode b_C_opening 115 = .ok (.iload 4, 2) := by decide +kernel
theorem d_C_opening_117 : decode b_C_opening 117 = .ok (.ireturn, 1) := by decide +kernel
theorem d_C_copy_0 : decode b_C_copy 0 = .ok (.aload_n 0, 1) := by decide +kernel
theorem d_C_copy_1 : decode b_C_copy 1 = .ok (.iload_n 1, 1) := by decide +kernel
theorem d_C_copy_2 : decode b_C_copy 2 = .ok (.invokevirtual 70, 3) := by decide +kernel
theorem d_C_copy_5 : decode b_C_copy 5 = .ok (.aload_n 0, 1) := by decide +kernel
theorem d_C_copy_6 : decode b_C_copy 6 = .ok (.iload_n 2, 1) := by decide +kernel
theorem d_C_copy_7 : decode b_C_copy 7 = .ok (.invokevirtual 70, 3) := by decide +kernel
theorem d_C_copy_10 : decode b_C_copy 10 = .ok (.iload_n 1, 1) := by decide +kernel
theorem d_C_copy_11 : decode b_C_copy 11 = .ok (.iload_n 2, 1) := by decide +kernel
theorem d_C_copy_12 : decode b_C_copy 12 = .ok (.if_icmp .ne 13, 3) := by decide +kernel
theorem d_C_copy_15 : decode b_C_copy 15 = .ok (.new 90, 3) := by decide +kernel
theorem d_C_copy_18 : decode b_C_copy 18 = .ok (.dup, 1) := by decide +kernel
theorem d_C_copy_19 : decode b_C_copy 19 = .ok (.ldc 135, 2) := by decide +kernel
theorem d_C_copy_21 : decode b_C_copy 21 = .ok (.invokespecial 94, 3) := by decide +kernel
theorem d_C_copy_24 : decode b_C_copy 24 = .ok (.athrow, 1) := by decide +kernel
theorem d_C_copy_25 : decode b_C_copy 25 = .ok (.aload_n 0, 1) := by decide +kernel
theorem d_C_copy_26 : decode b_C_copy 26 = .ok (.getfield 26, 3) := by decide +kernel
theorem d_C_copy_29 : decode b_C_copy 29 = .ok (.iload_n 1, 1) := by decide +kernel
theorem d_C_copy_30 : decode b_C_copy 30 = .ok (.invokevirtual 137, 3) := by decide +kernel
theorem d_C_copy_33 : decode b_C_copy 33 = .ok (.istore_n 3, 1) := by decide +kernel
theorem d_C_copy_34 : decode b_C_copy 34 = .ok (.aload_n 0, 1) := by decide +kernel
theorem d_C_copy_35 : decode b_C_copy 35 = .ok (.iload_n 1, 1) := by decide +kernel
theorem d_C_copy_36 : decode b_C_copy 36 = .ok (.invokevirtual 140, 3) := by decide +kernel
theorem d_C_copy_39 : decode b_C_copy 39 = .ok (.istore 4, 2) := by decide +kernel
theorem d_C_copy_41 : decode b_C_copy 41 = .ok (.aload_n 0, 1) := by decide +kernel
theorem d_C_copy_42 : decode b_C_copy 42 = .ok (.getfield 26, 3) := by decide +kernel
theorem d_C_copy_45 : decode b_C_copy 45 = .ok (.getfield 95, 3) := by decide +kernel
theorem d_C_copy_48 : decode b_C_copy 48 = .ok (.iload_n 3, 1) := by decide +kernel
theorem d_C_copy_49 : decode b_C_copy 49 = .ok (.iadd, 1) := by decide +kernel
theorem d_C_copy_50 : decode b_C_copy 50 = .ok (.bipush 40, 2) := by decide +kernel
theorem d_C_copy_52 : decode b_C_copy 52 = .ok (.if_icmp .le 13, 3) := by decide +kernel
theorem d_C_copy_55 : decode b_C_copy 55 = .ok (.new 52, 3) := by decide +kernel
theorem d_C_copy_58 : decode b_C_copy 58 = .ok (.dup, 1) := by decide +kernel
theorem d_C_copy_59 : decode b_C_copy 59 = .ok (.ldc 143, 2) := by decide +kernel
theorem d_C_copy_61 : decode b_C_copy 61 = .ok (.invokespecial 56, 3) := by decide +kernel
theorem d_C_copy_64 : decode b_C_copy 64 = .ok (.athrow, 1) := by decide +kernel
theorem d_C_copy_65 : decode b_C_copy 65 = .ok (.aload_n 0, 1) := by decide +kernel
theorem d_C_copy_66 : decode b_C_copy 66 = .ok (.getfield 33, 3) := by decide +kernel
theorem d_C_copy_69 : decode b_C_copy 69 = .ok (.getfield 123, 3) := by decide +kernel
theorem d_C_copy_72 : decode b_C_copy 72 = .ok (.iload 4, 2) := by decide +kernel
theorem d_C_copy_74 : decode b_C_copy 74 = .ok (.iadd, 1) := by decide +kernel
theorem d_C_copy_75 : decode b_C_copy 75 = .ok (.bipush 60, 2) := by decide +kernel
theorem d_C_copy_77 : decode b_C_copy 77 = .ok (.if_icmp .le 13, 3) := by decide +kernel
theorem d_C_copy_80 : decode b_C_copy 80 = .ok (.new 52, 3) := by decide +kernel
theorem d_C_copy_83 : decode b_C_copy 83 = .ok (.dup, 1) := by decide +kernel
theorem d_C_copy_84 : decode b_C_copy 84 = .ok (.ldc 145, 2) := by decide +kernel
theorem d_C_copy_86 : decode b_C_copy 86 = .ok (.invokespecial 56, 3) := by decide +kernel
theorem d_C_copy_89 : decode b_C_copy 89 = .ok (.athrow, 1) := by decide +kernel
theorem d_C_copy_90 : decode b_C_copy 90 = .ok (.aload_n 0, 1) := by decide +kernel
theorem d_C_copy_91 : decode b_C_copy 91 = .ok (.invokevirtual 59, 3) := by decide +kernel
theorem d_C_copy_94 : decode b_C_copy 94 = .ok (.aload_n 0, 1) := by decide +kernel
theorem d_C_copy_95 : decode b_C_copy 95 = .ok (.iload_n 1, 1) := by decide +kernel
theorem d_C_copy_96 : decode b_C_copy 96 = .ok (.iload_n 2, 1) := by decide +kernel
theorem d_C_copy_97 : decode b_C_copy 97 = .ok (.invokevirtual 147, 3) := by decide +kernel
theorem d_C_copy_100 : decode b_C_copy 100 = .ok (.aload_n 0, 1) := by decide +kernel
theorem d_C_copy_101 : decode b_C_copy 101 = .ok (.iconst 2, 1) := by decide +kernel
theorem d_C_copy_102 : decode b_C_copy 102 = .ok (.iload_n 2, 1) := by decide +kernel
theorem d_C_copy_103 : decode b_C_copy 103 = .ok (.iload_n 3, 1) := by decide +kernel
theorem d_C_copy_104 : decode b_C_copy 104 = .ok (.iload 4, 2) := by decide +kernel
theorem d_C_copy_106 : decode b_C_copy 106 = .ok (.invokevirtual 66, 3) := by decide +kernel
theorem d_C_copy_109 : decode b_C_copy 109 = .ok (.iload_n 3, 1) := by decide +kernel
theorem d_C_copy_110 : decode b_C_copy 110 = .ok (.ireturn, 1) := by decide +kernel
theorem d_C_undo_0 : decode b_C_undo 0 = .ok (.aload_n 0, 1) := by decide +kernel
theorem d_C_undo_1 : decode b_C_undo 1 = .ok (.getfield 40, 3) := by decide +kernel
theorem d_C_undo_4 : decode b_C_undo 4 = .ok (.getfield 150, 3) := by decide +kernel
theorem d_C_undo_7 : decode b_C_undo 7 = .ok (.ifCond .gt 5, 3) := by decide +kernel
theorem d_C_undo_10 : decode b_C_undo 10 = .ok (.iconst 0, 1) := by decide +kernel
theorem d_C_undo_11 : decode b_C_undo 11 = .ok (.ireturn, 1) := by decide +kernel
theorem d_C_undo_12 : decode b_C_undo 12 = .ok (.aload_n 0, 1) := by decide +kernel
theorem d_C_undo_13 : decode b_C_undo 13 = .ok (.getfield 40, 3) := by decide +kernel
theorem d_C_undo_16 : decode b_C_undo 16 = .ok (.dup, 1) := by decide +kernel
theorem d_C_undo_17 : decode b_C_undo 17 = .ok (.getfield 150, 3) := by decide +kernel
theorem d_C_undo_20 : decode b_C_undo 20 = .ok (.iconst 1, 1) := by decide +kernel
theorem d_C_undo_21 : decode b_C_undo 21 = .ok (.isub, 1) := by decide +kernel
theorem d_C_undo_22 : decode b_C_undo 22 = .ok (.putfield 150, 3) := by decide +kernel
theorem d_C_undo_25 : decode b_C_undo 25 = .ok (.aload_n 0, 1) := by decide +kernel
theorem d_C_undo_26 : decode b_C_undo 26 = .ok (.aload_n 0, 1) := by decide +kernel
theorem d_C_undo_27 : decode b_C_undo 27 = .ok (.getfield 40, 3) := by decide +kernel
theorem d_C_undo_30 : decode b_C_undo 30 = .ok (.getfield 150, 3) := by decide +kernel
theorem d_C_undo_33 : decode b_C_undo 33 = .ok (.iconst (-1), 1) := by decide +kernel
theorem d_C_undo_34 : decode b_C_undo 34 = .ok (.invokevirtual 153, 3) := by decide +kernel
theorem d_C_undo_37 : decode b_C_undo 37 = .ok (.iconst 1, 1) := by decide +kernel
theorem d_C_undo_38 : decode b_C_undo 38 = .ok (.ireturn, 1) := by decide +kernel
theorem d_C_redo_0 : decode b_C_redo 0 = .ok (.aload_n 0, 1) := by decide +kernel
theorem d_C_redo_1 : decode b_C_redo 1 = .ok (.getfield 40, 3) := by decide +kernel
theorem d_C_redo_4 : decode b_C_redo 4 = .ok (.getfield 150, 3) := by decide +kernel
theorem d_C_redo_7 : decode b_C_redo 7 = .ok (.aload_n 0, 1) := by decide +kernel
theorem d_C_redo_8 : decode b_C_redo 8 = .ok (.getfield 40, 3) := by decide +kernel
theorem d_C_redo_11 : decode b_C_redo 11 = .ok (.getfield 156, 3) := by decide +kernel
theorem d_C_redo_14 : decode b_C_redo 14 = .ok (.if_icmp .lt 5, 3) := by decide +kernel
theorem d_C_redo_17 : decode b_C_redo 17 = .ok (.iconst 0, 1) := by decide +kernel
theorem d_C_redo_18 : decode b_C_redo 18 = .ok (.ireturn, 1) := by decide +kernel
theorem d_C_redo_19 : decode b_C_redo 19 = .ok (.aload_n 0, 1) := by decide +kernel
theorem d_C_redo_20 : decode b_C_redo 20 = .ok (.invokevirtual 159, 3) := by decide +kernel
theorem d_C_redo_23 : decode b_C_redo 23 = .ok (.iconst 1, 1) := by decide +kernel
theorem d_C_redo_24 : decode b_C_redo 24 = .ok (.ireturn, 1) := by decide +kernel
theorem d_C_acts_0 : decode b_C_acts 0 = .ok (.iload_n 1, 1) := by decide +kernel
theorem d_C_acts_1 : decode b_C_acts 1 = .ok (.lookupswitch 51 #[(0, 27), (1, 35)], 27) := by decide +kernel
theorem d_C_acts_28 : decode b_C_acts 28 = .ok (.aload_n 0, 1) := by decide +kernel
theorem d_C_acts_29 : decode b_C_acts 29 = .ok (.getfield 40, 3) := by decide +kernel
theorem d_C_acts_32 : decode b_C_acts 32 = .ok (.getfield 150, 3) := by decide +kernel
theorem d_C_acts_35 : decode b_C_acts 35 = .ok (.ireturn, 1) := by decide +kernel
theorem d_C_acts_36 : decode b_C_acts 36 = .ok (.aload_n 0, 1) := by decide +kernel
theorem d_C_acts_37 : decode b_C_acts 37 = .ok (.getfield 40, 3) := by decide +kernel
theorem d_C_acts_40 : decode b_C_acts 40 = .ok (.getfield 156, 3) := by decide +kernel
theorem d_C_acts_43 : decode b_C_acts 43 = .ok (.aload_n 0, 1) := by decide +kernel
theorem d_C_acts_44 : decode b_C_acts 44 = .ok (.getfield 40, 3) := by decide +kernel
theorem d_C_acts_47 : decode b_C_acts 47 = .ok (.getfield 150, 3) := by decide +kernel
theorem d_C_acts_50 : decode b_C_acts 50 = .ok (.isub, 1) := by decide +kernel
theorem d_C_acts_51 : decode b_C_acts 51 = .ok (.ireturn, 1) := by decide +kernel
theorem d_C_acts_52 : decode b_C_acts 52 = .ok (.new 90, 3) := by decide +kernel
theorem d_C_acts_55 : decode b_C_acts 55 = .ok (.dup, 1) := by decide +kernel
theorem d_C_acts_56 : decode b_C_acts 56 = .ok (.ldc 162, 2) := by decide +kernel
theorem d_C_acts_58 : decode b_C_acts 58 = .ok (.invokespecial 94, 3) := by decide +kernel
theorem d_C_acts_61 : decode b_C_acts 61 = .ok (.athrow, 1) := by decide +kernel
theorem d_C_many_0 : decode b_C_many 0 = .ok (.iload_n 1, 1) := by decide +kernel
theorem d_C_many_1 : decode b_C_many 1 = .ok (.tableswitch 63 0 3 #[31, 39, 47, 55], 31) := by decide +kernel
theorem d_C_many_32 : decode b_C_many 32 = .ok (.aload_n 0, 1) := by decide +kernel
theorem d_C_many_33 : decode b_C_many 33 = .ok (.getfield 10, 3) := by decide +kernel
theorem d_C_many_36 : decode b_C_many 36 = .ok (.getfield 44, 3) := by decide +kernel
theorem d_C_many_39 : decode b_C_many 39 = .ok (.ireturn, 1) := by decide +kernel
theorem d_C_many_40 : decode b_C_many 40 = .ok (.aload_n 0, 1) := by decide +kernel
theorem d_C_many_41 : decode b_C_many 41 = .ok (.getfield 19, 3) := by decide +kernel
theorem d_C_many_44 : decode b_C_many 44 = .ok (.getfield 74, 3) := by decide +kernel
theorem d_C_many_47 : decode b_C_many 47 = .ok (.ireturn, 1) := by decide +kernel
theorem d_C_many_48 : decode b_C_many 48 = .ok (.aload_n 0, 1) := by decide +kernel
theorem d_C_many_49 : decode b_C_many 49 = .ok (.getfield 26, 3) := by decide +kernel
theorem d_C_many_52 : decode b_C_many 52 = .ok (.getfield 95, 3) := by decide +kernel
theorem d_C_many_55 : decode b_C_many 55 = .ok (.ireturn, 1) := by decide +kernel
theorem d_C_many_56 : decode b_C_many 56 = .ok (.aload_n 0, 1) := by decide +kernel
theorem d_C_many_57 : decode b_C_many 57 = .ok (.getfield 33, 3) := by decide +kernel
theorem d_C_many_60 : decode b_C_many 60 = .ok (.getfield 123, 3) := by decide +kernel
theorem d_C_many_63 : decode b_C_many 63 = .ok (.ireturn, 1) := by decide +kernel
theorem d_C_many_64 : decode b_C_many 64 = .ok (.new 90, 3) := by decide +kernel
theorem d_C_many_67 : decode b_C_many 67 = .ok (.dup, 1) := by decide +kernel
theorem d_C_many_68 : decode b_C_many 68 = .ok (.ldc 164, 2) := by decide +kernel
theorem d_C_many_70 : decode b_C_many 70 = .ok (.invokespecial 94, 3) := by decide +kernel
theorem d_C_many_73 : decode b_C_many 73 = .ok (.athrow, 1) := by decide +kernel
theorem d_C_wallAt_0 : decode b_C_wallAt 0 = .ok (.aload_n 0, 1) := by decide +kernel
theorem d_C_wallAt_1 : decode b_C_wallAt 1 = .ok (.iload_n 1, 1) := by decide +kernel
theorem d_C_wallAt_2 : decode b_C_wallAt 2 = .ok (.invokevirtual 102, 3) := by decide +kernel
theorem d_C_wallAt_5 : decode b_C_wallAt 5 = .ok (.iload_n 2, 1) := by decide +kernel
theorem d_C_wallAt_6 : decode b_C_wallAt 6 = .ok (.tableswitch 152 0 9 #[54, 65, 76, 87, 98, 109, 120, 130, 136, 142], 54) := by decide +kernel
theorem d_C_wallAt_60 : decode b_C_wallAt 60 = .ok (.aload_n 0, 1) := by decide +kernel
theorem d_C_wallAt_61 : decode b_C_wallAt 61 = .ok (.getfield 26, 3) := by decide +kernel
theorem d_C_wallAt_64 : decode b_C_wallAt 64 = .ok (.getfield 166, 3) := by decide +kernel
theorem d_C_wallAt_67 : decode b_C_wallAt 67 = .ok (.iload_n 1, 1) := by decide +kernel
theorem d_C_wallAt_68 : decode b_C_wallAt 68 = .ok (.iaload, 1) := by decide +kernel
theorem d_C_wallAt_69 : decode b_C_wallAt 69 = .ok (.i2l, 1) := by decide +kernel
theorem d_C_wallAt_70 : decode b_C_wallAt 70 = .ok (.lreturn, 1) := by decide +kernel
theorem d_C_wallAt_71 : decode b_C_wallAt 71 = .ok (.aload_n 0, 1) := by decide +kernel
theorem d_C_wallAt_72 : decode b_C_wallAt 72 = .ok (.getfield 26, 3) := by decide +kernel
theorem d_C_wallAt_75 : decode b_C_wallAt 75 = .ok (.getfield 168, 3) := by decide +kernel
theorem d_C_wallAt_78 : decode b_C_wallAt 78 = .ok (.iload_n 1, 1) := by decide +kernel
theorem d_C_wallAt_79 : decode b_C_wallAt 79 = .ok (.iaload, 1) := by decide +kernel
theorem d_C_wallAt_80 : decode b_C_wallAt 80 = .ok (.i2l, 1) := by decide +kernel
theorem d_C_wallAt_81 : decode b_C_wallAt 81 = .ok (.lreturn, 1) := by decide +kernel
theorem d_C_wallAt_82 : decode b_C_wallAt 82 = .ok (.aload_n 0, 1) := by decide +kernel
theorem d_C_wallAt_83 : decode b_C_wallAt 83 = .ok (.getfield 26, 3) := by decide +kernel
theorem d_C_wallAt_86 : decode b_C_wallAt 86 = .ok (.getfield 105, 3) := by decide +kernel
theorem d_C_wallAt_89 : decode b_C_wallAt 89 = .ok (.iload_n 1, 1) := by decide +kernel
theorem d_C_wallAt_90 : decode b_C_wallAt 90 = .ok (.iaload, 1) := by decide +kernel
theorem d_C_wallAt_91 : decode b_C_wallAt 91 = .ok (.i2l, 1) := by decide +kernel
theorem d_C_wallAt_92 : decode b_C_wallAt 92 = .ok (.lreturn, 1) := by decide +kernel
theorem d_C_wallAt_93 : decode b_C_wallAt 93 = .ok (.aload_n 0, 1) := by decide +kernel
theorem d_C_wallAt_94 : decode b_C_wallAt 94 = .ok (.getfield 26, 3) := by decide +kernel
theorem d_C_wallAt_97 : decode b_C_wallAt 97 = .ok (.getfield 108, 3) := by decide +kernel
theorem d_C_wallAt_100 : decode b_C_wallAt 100 = .ok (.iload_n 1, 1) := by decide +kernel
theorem d_C_wallAt_101 : decode b_C_wallAt 101 = .ok (.iaload, 1) := by decide +kernel
theorem d_C_wallAt_102 : decode b_C_wallAt 102 = .ok (.i2l, 1) := by decide +kernel
theorem d_C_wallAt_103 : decode b_C_wallAt 103 = .ok (.lreturn, 1) := by decide +kernel
theorem d_C_wallAt_104 : decode b_C_wallAt 104 = .ok (.aload_n 0, 1) := by decide +kernel
theorem d_C_wallAt_105 : decode b_C_wallAt 105 = .ok (.getfield 26, 3) := by decide +kernel
theorem d_C_wallAt_108 : decode b_C_wallAt 108 = .ok (.getfield 111, 3) := by decide +kernel
theorem d_C_wallAt_111 : decode b_C_wallAt 111 = .ok (.iload_n 1, 1) := by decide +kernel
theorem d_C_wallAt_112 : decode b_C_wallAt 112 = .ok (.iaload, 1) := by decide +kernel
theorem d_C_wallAt_113 : decode b_C_wallAt 113 = .ok (.i2l, 1) := by decide +kernel
theorem d_C_wallAt_114 : decode b_C_wallAt 114 = .ok (.lreturn, 1) := by decide +kernel
theorem d_C_wallAt_115 : decode b_C_wallAt 115 = .ok (.aload_n 0, 1) := by decide +kernel
theorem d_C_wallAt_116 : decode b_C_wallAt 116 = .ok (.getfield 26, 3) := by decide +kernel
theorem d_C_wallAt_119 : decode b_C_wallAt 119 = .ok (.getfield 114, 3) := by decide +kernel
theorem d_C_wallAt_122 : decode b_C_wallAt 122 = .ok (.iload_n 1, 1) := by decide +kernel
theorem d_C_wallAt_123 : decode b_C_wallAt 123 = .ok (.iaload, 1) := by decide +kernel
theorem d_C_wallAt_124 : decode b_C_wallAt 124 = .ok (.i2l, 1) := by decide +kernel
theorem d_C_wallAt_125 : decode b_C_wallAt 125 = .ok (.lreturn, 1) := by decide +kernel
theorem d_C_wallAt_126 : decode b_C_wallAt 126 = .ok (.aload_n 0, 1) := by decide +kernel
theorem d_C_wallAt_127 : decode b_C_wallAt 127 = .ok (.getfield 26, 3) := by decide +kernel
theorem d_C_wallAt_130 : decode b_C_wallAt 130 = .ok (.iload_n 1, 1) := by decide +kernel
theorem d_C_wallAt_131 : decode b_C_wallAt 131 = .ok (.invokevirtual 117, 3) := by decide +kernel
theorem d_C_wallAt_134 : decode b_C_wallAt 134 = .ok (.i2l, 1) := by decide +kernel
theorem d_C_wallAt_135 : decode b_C_wallAt 135 = .ok (.lreturn, 1) := by decide +kernel
theorem d_C_wallAt_136 : decode b_C_wallAt 136 = .ok (.aload_n 0, 1) := by decide +kernel
theorem d_C_wallAt_137 : decode b_C_wallAt 137 = .ok (.iload_n 1, 1) := by decide +kernel
theorem d_C_wallAt_138 : decode b_C_wallAt 138 = .ok (.invokevirtual 170, 3) := by decide +kernel
theorem d_C_wallAt_141 : decode b_C_wallAt 141 = .ok (.lreturn, 1) := by decide +kernel
theorem d_C_wallAt_142 : decode b_C_wallAt 142 = .ok (.aload_n 0, 1) := by decide +kernel
theorem d_C_wallAt_143 : decode b_C_wallAt 143 = .ok (.iload_n 1, 1) := by decide +kernel
theorem d_C_wallAt_144 : decode b_C_wallAt 144 = .ok (.invokevirtual 174, 3) := by decide +kernel
theorem d_C_wallAt_147 : decode b_C_wallAt 147 = .ok (.lreturn, 1) := by decide +kernel
theorem d_C_wallAt_148 : decode b_C_wallAt 148 = .ok (.aload_n 0, 1) := by decide +kernel
theorem d_C_wallAt_149 : decode b_C_wallAt 149 = .ok (.getfield 33, 3) := by decide +kernel
theorem d_C_wallAt_152 : decode b_C_wallAt 152 = .ok (.iload_n 1, 1) := by decide +kernel
theorem d_C_wallAt_153 : decode b_C_wallAt 153 = .ok (.invokevirtual 177, 3) := by decide +kernel
theorem d_C_wallAt_156 : decode b_C_wallAt 156 = .ok (.i2l, 1) := by decide +kernel
theorem d_C_wallAt_157 : decode b_C_wallAt 157 = .ok (.lreturn, 1) := by decide +kernel
theorem d_C_wallAt_158 : decode b_C_wallAt 158 = .ok (.new 90, 3) := by decide +kernel
theorem d_C_wallAt_161 : decode b_C_wallAt 161 = .ok (.dup, 1) := by decide +kernel
theorem d_C_wallAt_162 : decode b_C_wallAt 162 = .ok (.ldc 180, 2) := by decide +kernel
theorem d_C_wallAt_164 : decode b_C_wallAt 164 = .ok (.invokespecial 94, 3) := by decide +kernel
theorem d_C_wallAt_167 : decode b_C_wallAt 167 = .ok (.athrow, 1) := by decide +kernel
theorem d_C_openingAt_0 : decode b_C_openingAt 0 = .ok (.aload_n 0, 1) := by decide +kernel
theorem d_C_openingAt_1 : decode b_C_openingAt 1 = .ok (.getfield 33, 3) := by decide +kernel
theorem d_C_openingAt_4 : decode b_C_openingAt 4 = .ok (.iload_n 1, 1) := by decide +kernel
theorem d_C_openingAt_5 : decode b_C_openingAt 5 = .ok (.invokevirtual 182, 3) := by decide +kernel
theorem d_C_openingAt_8 : decode b_C_openingAt 8 = .ok (.ifCond .eq 22, 3) := by decide +kernel
theorem d_C_openingAt_11 : decode b_C_openingAt 11 = .ok (.aload_n 0, 1) := by decide +kernel
theorem d_C_openingAt_12 : decode b_C_openingAt 12 = .ok (.getfield 26, 3) := by decide +kernel
theorem d_C_openingAt_15 : decode b_C_openingAt 15 = .ok (.aload_n 0, 1) := by decide +kernel
theorem d_C_openingAt_16 : decode b_C_openingAt 16 = .ok (.getfield 33, 3) := by decide +kernel
theorem d_C_openingAt_19 : decode b_C_openingAt 19 = .ok (.getfield 186, 3) := by decide +kernel
theorem d_C_openingAt_22 : decode b_C_openingAt 22 = .ok (.iload_n 1, 1) := by decide +kernel
theorem d_C_openingAt_23 : decode b_C_openingAt 23 = .ok (.iaload, 1) := by decide +kernel
theorem d_C_openingAt_24 : decode b_C_openingAt 24 = .ok (.invokevirtual 188, 3) := by decide +kernel
theorem d_C_openingAt_27 : decode b_C_openingAt 27 = .ok (.ifCond .ne 13, 3) := by decide +kernel
theorem d_C_openingAt_30 : decode b_C_openingAt 30 = .ok (.new 90, 3) := by decide +kernel
theorem d_C_openingAt_33 : decode b_C_openingAt 33 = .ok (.dup, 1) := by decide +kernel
theorem d_C_openingAt_34 : decode b_C_openingAt 34 = .ok (.ldc 191, 2) := by decide +kernel
theorem d_C_openingAt_36 : decode b_C_openingAt 36 = .ok (.invokespecial 94, 3) := by decide +kernel
theorem d_C_openingAt_39 : decode b_C_openingAt 39 = .ok (.athrow, 1) := by decide +kernel
theorem d_C_openingAt_40 : decode b_C_openingAt 40 = .ok (.iload_n 2, 1) := by decide +kernel
theorem d_C_openingAt_41 : decode b_C_openingAt 41 = .ok (.tableswitch 57 0 2 #[27, 37, 47], 27) := by decide +kernel
theorem d_C_openingAt_68 : decode b_C_openingAt 68 = .ok (.aload_n 0, 1) := by decide +kernel
theorem d_C_openingAt_69 : decode b_C_openingAt 69 = .ok (.getfield 33, 3) := by decide +kernel
theorem d_C_openingAt_72 : decode b_C_openingAt 72 = .ok (.getfield 186, 3) := by decide +kernel
theorem d_C_openingAt_75 : decode b_C_openingAt 75 = .ok (.iload_n 1, 1) := by decide +kernel
theorem d_C_openingAt_76 : decode b_C_openingAt 76 = .ok (.iaload, 1) := by decide +kernel
theorem d_C_openingAt_77 : decode b_C_openingAt 77 = .ok (.ireturn, 1) := by decide +kernel
theorem d_C_openingAt_78 : decode b_C_openingAt 78 = .ok (.aload_n 0, 1) := by decide +kernel
theorem d_C_openingAt_79 : decode b_C_openingAt 79 = .ok (.getfield 33, 3) := by decide +kernel
theorem d_C_openingAt_82 : decode b_C_openingAt 82 = .ok (.getfield 193, 3) := by decide +kernel
theorem d_C_openingAt_85 : decode b_C_openingAt 85 = .ok (.iload_n 1, 1) := by decide +kernel
theorem d_C_openingAt_86 : decode b_C_openingAt 86 = .ok (.iaload, 1) := by decide +kernel
theorem d_C_openingAt_87 : decode b_C_openingAt 87 = .ok (.ireturn, 1) := by decide +kernel
theorem d_C_openingAt_88 : decode b_C_openingAt 88 = .ok (.aload_n 0, 1) := by decide +kernel
theorem d_C_openingAt_89 : decode b_C_openingAt 89 = .ok (.getfield 33, 3) := by decide +kernel
theorem d_C_openingAt_92 : decode b_C_openingAt 92 = .ok (.getfield 196, 3) := by decide +kernel
theorem d_C_openingAt_95 : decode b_C_openingAt 95 = .ok (.iload_n 1, 1) := by decide +kernel
theorem d_C_openingAt_96 : decode b_C_openingAt 96 = .ok (.iaload, 1) := by decide +kernel
theorem d_C_openingAt_97 : decode b_C_openingAt 97 = .ok (.ireturn, 1) := by decide +kernel
theorem d_C_openingAt_98 : decode b_C_openingAt 98 = .ok (.new 90, 3) := by decide +kernel
theorem d_C_openingAt_101 : decode b_C_openingAt 101 = .ok (.dup, 1) := by decide +kernel
theorem d_C_openingAt_102 : decode b_C_openingAt 102 = .ok (.ldc 199, 2) := by decide +kernel
theorem d_C_openingAt_104 : decode b_C_openingAt 104 = .ok (.invokespecial 94, 3) := by decide +kernel
theorem d_C_openingAt_107 : decode b_C_openingAt 107 = .ok (.athrow, 1) := by decide +kernel
theorem d_C_storeyAt_0 : decode b_C_storeyAt 0 = .ok (.aload_n 0, 1) := by decide +kernel
theorem d_C_storeyAt_1 : decode b_C_storeyAt 1 = .ok (.iload_n 1, 1) := by decide +kernel
theorem d_C_storeyAt_2 : decode b_C_storeyAt 2 = .ok (.invokevirtual 70, 3) := by decide +kernel
theorem d_C_storeyAt_5 : decode b_C_storeyAt 5 = .ok (.iload_n 2, 1) := by decide +kernel
theorem d_C_storeyAt_6 : decode b_C_storeyAt 6 = .ok (.tableswitch 67 0 3 #[30, 41, 51, 61], 30) := by decide +kernel
theorem d_C_storeyAt_36 : decode b_C_storeyAt 36 = .ok (.aload_n 0, 1) := by decide +kernel
theorem d_C_storeyAt_37 : decode b_C_storeyAt 37 = .ok (.getfield 10, 3) := by decide +kernel
theorem d_C_storeyAt_40 : decode b_C_storeyAt 40 = .ok (.getfield 62, 3) := by decide +kernel
theorem d_C_storeyAt_43 : decode b_C_storeyAt 43 = .ok (.iload_n 1, 1) := by decide +kernel
theorem d_C_storeyAt_44 : decode b_C_storeyAt 44 = .ok (.iaload, 1) := by decide +kernel
theorem d_C_storeyAt_45 : decode b_C_storeyAt 45 = .ok (.i2l, 1) := by decide +kernel
theorem d_C_storeyAt_46 : decode b_C_storeyAt 46 = .ok (.lreturn, 1) := by decide +kernel
theorem d_C_storeyAt_47 : decode b_C_storeyAt 47 = .ok (.aload_n 0, 1) := by decide +kernel
theorem d_C_storeyAt_48 : decode b_C_storeyAt 48 = .ok (.getfield 10, 3) := by decide +kernel
theorem d_C_storeyAt_51 : decode b_C_storeyAt 51 = .ok (.iload_n 1, 1) := by decide +kernel
theorem d_C_storeyAt_52 : decode b_C_storeyAt 52 = .ok (.invokevirtual 201, 3) := by decide +kernel
theorem d_C_storeyAt_55 : decode b_C_storeyAt 55 = .ok (.i2l, 1) := by decide +kernel
theorem d_C_storeyAt_56 : decode b_C_storeyAt 56 = .ok (.lreturn, 1) := by decide +kernel
theorem d_C_storeyAt_57 : decode b_C_storeyAt 57 = .ok (.aload_n 0, 1) := by decide +kernel
theorem d_C_storeyAt_58 : decode b_C_storeyAt 58 = .ok (.getfield 26, 3) := by decide +kernel
theorem d_C_storeyAt_61 : decode b_C_storeyAt 61 = .ok (.iload_n 1, 1) := by decide +kernel
theorem d_C_storeyAt_62 : decode b_C_storeyAt 62 = .ok (.invokevirtual 137, 3) := by decide +kernel
theorem d_C_storeyAt_65 : decode b_C_storeyAt 65 = .ok (.i2l, 1) := by decide +kernel
theorem d_C_storeyAt_66 : decode b_C_storeyAt 66 = .ok (.lreturn, 1) := by decide +kernel
theorem d_C_storeyAt_67 : decode b_C_storeyAt 67 = .ok (.aload_n 0, 1) := by decide +kernel
theorem d_C_storeyAt_68 : decode b_C_storeyAt 68 = .ok (.iload_n 1, 1) := by decide +kernel
theorem d_C_storeyAt_69 : decode b_C_storeyAt 69 = .ok (.invokevirtual 204, 3) := by decide +kernel
theorem d_C_storeyAt_72 : decode b_C_storeyAt 72 = .ok (.lreturn, 1) := by decide +kernel
theorem d_C_storeyAt_73 : decode b_C_storeyAt 73 = .ok (.new 90, 3) := by decide +kernel
theorem d_C_storeyAt_76 : decode b_C_storeyAt 76 = .ok (.dup, 1) := by decide +kernel
theorem d_C_storeyAt_77 : decode b_C_storeyAt 77 = .ok (.ldc 207, 2) := by decide +kernel
theorem d_C_storeyAt_79 : decode b_C_storeyAt 79 = .ok (.invokespecial 94, 3) := by decide +kernel
theorem d_C_storeyAt_82 : decode b_C_storeyAt 82 = .ok (.athrow, 1) := by decide +kernel
theorem d_C_typeAt_0 : decode b_C_typeAt 0 = .ok (.aload_n 0, 1) := by decide +kernel
theorem d_C_typeAt_1 : decode b_C_typeAt 1 = .ok (.iload_n 1, 1) := by decide +kernel
theorem d_C_typeAt_2 : decode b_C_typeAt 2 = .ok (.invokevirtual 83, 3) := by decide +kernel
theorem d_C_typeAt_5 : decode b_C_typeAt 5 = .ok (.iload_n 2, 1) := by decide +kernel
theorem d_C_typeAt_6 : decode b_C_typeAt 6 = .ok (.tableswitch 53 0 2 #[26, 37, 47], 26) := by decide +kernel
theorem d_C_typeAt_32 : decode b_C_typeAt 32 = .ok (.aload_n 0, 1) := by decide +kernel
theorem d_C_typeAt_33 : decode b_C_typeAt 33 = .ok (.getfield 19, 3) := by decide +kernel
theorem d_C_typeAt_36 : decode b_C_typeAt 36 = .ok (.getfield 80, 3) := by decide +kernel
theorem d_C_typeAt_39 : decode b_C_typeAt 39 = .ok (.iload_n 1, 1) := by decide +kernel
theorem d_C_typeAt_40 : decode b_C_typeAt 40 = .ok (.iaload, 1) := by decide +kernel
theorem d_C_typeAt_41 : decode b_C_typeAt 41 = .ok (.i2l, 1) := by decide +kernel
theorem d_C_typeAt_42 : decode b_C_typeAt 42 = .ok (.lreturn, 1) := by decide +kernel
theorem d_C_typeAt_43 : decode b_C_typeAt 43 = .ok (.aload_n 0, 1) := by decide +kernel
theorem d_C_typeAt_44 : decode b_C_typeAt 44 = .ok (.getfield 26, 3) := by decide +kernel
theorem d_C_typeAt_47 : decode b_C_typeAt 47 = .ok (.iload_n 1, 1) := by decide +kernel
theorem d_C_typeAt_48 : decode b_C_typeAt 48 = .ok (.invokevirtual 209, 3) := by decide +kernel
theorem d_C_typeAt_51 : decode b_C_typeAt 51 = .ok (.i2l, 1) := by decide +kernel
theorem d_C_typeAt_52 : decode b_C_typeAt 52 = .ok (.lreturn, 1) := by decide +kernel
theorem d_C_typeAt_53 : decode b_C_typeAt 53 = .ok (.aload_n 0, 1) := by decide +kernel
theorem d_C_typeAt_54 : decode b_C_typeAt 54 = .ok (.iload_n 1, 1) := by decide +kernel
theorem d_C_typeAt_55 : decode b_C_typeAt 55 = .ok (.invokevirtual 212, 3) := by decide +kernel
theorem d_C_typeAt_58 : decode b_C_typeAt 58 = .ok (.lreturn, 1) := by decide +kernel
theorem d_C_typeAt_59 : decode b_C_typeAt 59 = .ok (.new 90, 3) := by decide +kernel
theorem d_C_typeAt_62 : decode b_C_typeAt 62 = .ok (.dup, 1) := by decide +kernel
theorem d_C_typeAt_63 : decode b_C_typeAt 63 = .ok (.ldc 215, 2) := by decide +kernel
theorem d_C_typeAt_65 : decode b_C_typeAt 65 = .ok (.invokespecial 94, 3) := by decide +kernel
theorem d_C_typeAt_68 : decode b_C_typeAt 68 = .ok (.athrow, 1) := by decide +kernel
theorem d_C_body_0 : decode b_C_body 0 = .ok (.aload_n 0, 1) := by decide +kernel
theorem d_C_body_1 : decode b_C_body 1 = .ok (.iload_n 1, 1) := by decide +kernel
theorem d_C_body_2 : decode b_C_body 2 = .ok (.invokevirtual 70, 3) := by decide +kernel
theorem d_C_body_5 : decode b_C_body 5 = .ok (.iload_n 2, 1) := by decide +kernel
theorem d_C_body_6 : decode b_C_body 6 = .ok (.i2l, 1) := by decide +kernel
theorem d_C_body_7 : decode b_C_body 7 = .ok (.iload_n 3, 1) := by decide +kernel
theorem d_C_body_8 : decode b_C_body 8 = .ok (.i2l, 1) := by decide +kernel
theorem d_C_body_9 : decode b_C_body 9 = .ok (.invokestatic 86, 3) := by decide +kernel
theorem d_C_body_12 : decode b_C_body 12 = .ok (.iload 4, 2) := by decide +kernel
theorem d_C_body_14 : decode b_C_body 14 = .ok (.ifCond .ge 13, 3) := by decide +kernel
theorem d_C_body_17 : decode b_C_body 17 = .ok (.new 90, 3) := by decide +kernel
theorem d_C_body_20 : decode b_C_body 20 = .ok (.dup, 1) := by decide +kernel
theorem d_C_body_21 : decode b_C_body 21 = .ok (.ldc 217, 2) := by decide +kernel
theorem d_C_body_23 : decode b_C_body 23 = .ok (.invokespecial 94, 3) := by decide +kernel
theorem d_C_body_26 : decode b_C_body 26 = .ok (.athrow, 1) := by decide +kernel
theorem d_C_body_27 : decode b_C_body 27 = .ok (.iload 4, 2) := by decide +kernel
theorem d_C_body_29 : decode b_C_body 29 = .ok (.istore 5, 2) := by decide +kernel
theorem d_C_body_31 : decode b_C_body 31 = .ok (.iconst 0, 1) := by decide +kernel
theorem d_C_body_32 : decode b_C_body 32 = .ok (.istore 6, 2) := by decide +kernel
theorem d_C_body_34 : decode b_C_body 34 = .ok (.iload 6, 2) := by decide +kernel
theorem d_C_body_36 : decode b_C_body 36 = .ok (.aload_n 0, 1) := by decide +kernel
theorem d_C_body_37 : decode b_C_body 37 = .ok (.getfield 26, 3) := by decide +kernel
theorem d_C_body_40 : decode b_C_body 40 = .ok (.getfield 95, 3) := by decide +kernel
theorem d_C_body_43 : decode b_C_body 43 = .ok (.if_icmp .ge 44, 3) := by decide +kernel
theorem d_C_body_46 : decode b_C_body 46 = .ok (.aload_n 0, 1) := by decide +kernel
theorem d_C_body_47 : decode b_C_body 47 = .ok (.getfield 26, 3) := by decide +kernel
theorem d_C_body_50 : decode b_C_body 50 = .ok (.iload 6, 2) := by decide +kernel
theorem d_C_body_52 : decode b_C_body 52 = .ok (.iload_n 1, 1) := by decide +kernel
theorem d_C_body_53 : decode b_C_body 53 = .ok (.invokevirtual 219, 3) := by decide +kernel
theorem d_C_body_56 : decode b_C_body 56 = .ok (.ifCond .eq 25, 3) := by decide +kernel
theorem d_C_body_59 : decode b_C_body 59 = .ok (.aload_n 0, 1) := by decide +kernel
theorem d_C_body_60 : decode b_C_body 60 = .ok (.iload 6, 2) := by decide +kernel
theorem d_C_body_62 : decode b_C_body 62 = .ok (.iload_n 2, 1) := by decide +kernel
theorem d_C_body_63 : decode b_C_body 63 = .ok (.iload_n 3, 1) := by decide +kernel
theorem d_C_body_64 : decode b_C_body 64 = .ok (.invokevirtual 223, 3) := by decide +kernel
theorem d_C_body_67 : decode b_C_body 67 = .ok (.ifCond .eq 14, 3) := by decide +kernel
theorem d_C_body_70 : decode b_C_body 70 = .ok (.iload 5, 2) := by decide +kernel
theorem d_C_body_72 : decode b_C_body 72 = .ok (.ifCond .ne 6, 3) := by decide +kernel
theorem d_C_body_75 : decode b_C_body 75 = .ok (.iload 6, 2) := by decide +kernel
theorem d_C_body_77 : decode b_C_body 77 = .ok (.ireturn, 1) := by decide +kernel
theorem d_C_body_78 : decode b_C_body 78 = .ok (.iinc 5 (-1), 3) := by decide +kernel
theorem d_C_body_81 : decode b_C_body 81 = .ok (.iinc 6 1, 3) := by decide +kernel
theorem d_C_body_84 : decode b_C_body 84 = .ok (.goto (-50), 3) := by decide +kernel
theorem d_C_body_87 : decode b_C_body 87 = .ok (.iconst (-1), 1) := by decide +kernel
theorem d_C_body_88 : decode b_C_body 88 = .ok (.ireturn, 1) := by decide +kernel
theorem d_C_checkStorey_0 : decode b_C_checkStorey 0 = .ok (.aload_n 0, 1) := by decide +kernel
theorem d_C_checkStorey_1 : decode b_C_checkStorey 1 = .ok (.getfield 10, 3) := by decide +kernel
theorem d_C_checkStorey_4 : decode b_C_checkStorey 4 = .ok (.iload_n 1, 1) := by decide +kernel
theorem d_C_checkStorey_5 : decode b_C_checkStorey 5 = .ok (.invokevirtual 226, 3) := by decide +kernel
theorem d_C_checkStorey_8 : decode b_C_checkStorey 8 = .ok (.ifCond .ne 13, 3) := by decide +kernel
theorem d_C_checkStorey_11 : decode b_C_checkStorey 11 = .ok (.new 90, 3) := by decide +kernel
theorem d_C_checkStorey_14 : decode b_C_checkStorey 14 = .ok (.dup, 1) := by decide +kernel
theorem d_C_checkStorey_15 : decode b_C_checkStorey 15 = .ok (.ldc 227, 2) := by decide +kernel
theorem d_C_checkStorey_17 : decode b_C_checkStorey 17 = .ok (.invokespecial 94, 3) := by decide +kernel
theorem d_C_checkStorey_20 : decode b_C_checkStorey 20 = .ok (.athrow, 1) := by decide +kernel
theorem d_C_checkStorey_21 : decode b_C_checkStorey 21 = .ok (.return_, 1) := by decide +kernel
theorem d_C_checkLevel_0 : decode b_C_checkLevel 0 = .ok (.iload_n 2, 1) := by decide +kernel
theorem d_C_checkLevel_1 : decode b_C_checkLevel 1 = .ok (.sipush (-1000), 3) := by decide +kernel
theorem d_C_checkLevel_4 : decode b_C_checkLevel 4 = .ok (.if_icmp .lt 10, 3) := by decide +kernel
theorem d_C_checkLevel_7 : decode b_C_checkLevel 7 = .ok (.iload_n 2, 1) := by decide +kernel
theorem d_C_checkLevel_8 : decode b_C_checkLevel 8 = .ok (.sipush 10000, 3) := by decide +kernel
theorem d_C_checkLevel_11 : decode b_C_checkLevel 11 = .ok (.if_icmp .le 13, 3) := by decide +kernel
theorem d_C_checkLevel_14 : decode b_C_checkLevel 14 = .ok (.new 90, 3) := by decide +kernel
theorem d_C_checkLevel_17 : decode b_C_checkLevel 17 = .ok (.dup, 1) := by decide +kernel
theorem d_C_checkLevel_18 : decode b_C_checkLevel 18 = .ok (.ldc 229, 2) := by decide +kernel
theorem d_C_checkLevel_20 : decode b_C_checkLevel 20 = .ok (.invokespecial 94, 3) := by decide +kernel
theorem d_C_checkLevel_23 : decode b_C_checkLevel 23 = .ok (.athrow, 1) := by decide +kernel
theorem d_C_checkLevel_24 : decode b_C_checkLevel 24 = .ok (.aload_n 0, 1) := by decide +kernel
theorem d_C_checkLevel_25 : decode b_C_checkLevel 25 = .ok (.getfield 10, 3) := by decide +kernel
theorem d_C_checkLevel_28 : decode b_C_checkLevel 28 = .ok (.iload_n 1, 1) := by decide +kernel
theorem d_C_checkLevel_29 : decode b_C_checkLevel 29 = .ok (.iload_n 2, 1) := by decide +kernel
theorem d_C_checkLevel_30 : decode b_C_checkLevel 30 = .ok (.invokevirtual 231, 3) := by decide +kernel
theorem d_C_checkLevel_33 : decode b_C_checkLevel 33 = .ok (.ifCond .ne 13, 3) := by decide +kernel
theorem d_C_checkLevel_36 : decode b_C_checkLevel 36 = .ok (.new 90, 3) := by decide +kernel
theorem d_C_checkLevel_39 : decode b_C_checkLevel 39 = .ok (.dup, 1) := by decide +kernel
theorem d_C_checkLevel_40 : decode b_C_checkLevel 40 = .ok (.ldc 234, 2) := by decide +kernel
theorem d_C_checkLevel_42 : decode b_C_checkLevel 42 = .ok (.invokespecial 94, 3) := by decide +kernel
theorem d_C_checkLevel_45 : decode b_C_checkLevel 45 = .ok (.athrow, 1) := by decide +kernel
theorem d_C_checkLevel_46 : decode b_C_checkLevel 46 = .ok (.return_, 1) := by decide +kernel
theorem d_C_checkType_0 : decode b_C_checkType 0 = .ok (.aload_n 0, 1) := by decide +kernel
theorem d_C_checkType_1 : decode b_C_checkType 1 = .ok (.getfield 19, 3) := by decide +kernel
theorem d_C_checkType_4 : decode b_C_checkType 4 = .ok (.iload_n 1, 1) := by decide +kernel
theorem d_C_checkType_5 : decode b_C_checkType 5 = .ok (.invokevirtual 236, 3) := by decide +kernel
theorem d_C_checkType_8 : decode b_C_checkType 8 = .ok (.ifCond .ne 13, 3) := by decide +kernel
theorem d_C_checkType_11 : decode b_C_checkType 11 = .ok (.new 90, 3) := by decide +kernel
theorem d_C_checkType_14 : decode b_C_checkType 14 = .ok (.dup, 1) := by decide +kernel
theorem d_C_checkType_15 : decode b_C_checkType 15 = .ok (.ldc 237, 2) := by decide +kernel
theorem d_C_checkType_17 : decode b_C_checkType 17 = .ok (.invokespecial 94, 3) := by decide +kernel
theorem d_C_checkType_20 : decode b_C_checkType 20 = .ok (.athrow, 1) := by decide +kernel
theorem d_C_checkType_21 : decode b_C_checkType 21 = .ok (.return_, 1) := by decide +kernel
theorem d_C_checkThickness_0 : decode b_C_checkThickness 0 = .ok (.iload_n 0, 1) := by decide +kernel
theorem d_C_checkThickness_1 : decode b_C_checkThickness 1 = .ok (.iconst 2, 1) := by decide +kernel
theorem d_C_checkThickness_2 : decode b_C_checkThickness 2 = .ok (.if_icmp .lt 15, 3) := by decide +kernel
theorem d_C_checkThickness_5 : decode b_C_checkThickness 5 = .ok (.iload_n 0, 1) := by decide +kernel
theorem d_C_checkThickness_6 : decode b_C_checkThickness 6 = .ok (.bipush 100, 2) := by decide +kernel
theorem d_C_checkThickness_8 : decode b_C_checkThickness 8 = .ok (.if_icmp .gt 9, 3) := by decide +kernel
theorem d_C_checkThickness_11 : decode b_C_checkThickness 11 = .ok (.iload_n 0, 1) := by decide +kernel
theorem d_C_checkThickness_12 : decode b_C_checkThickness 12 = .ok (.iconst 2, 1) := by decide +kernel
theorem d_C_checkThickness_13 : decode b_C_checkThickness 13 = .ok (.irem, 1) := by decide +kernel
theorem d_C_checkThickness_14 : decode b_C_checkThickness 14 = .ok (.ifCond .eq 13, 3) := by decide +kernel
theorem d_C_checkThickness_17 : decode b_C_checkThickness 17 = .ok (.new 90, 3) := by decide +kernel
theorem d_C_checkThickness_20 : decode b_C_checkThickness 20 = .ok (.dup, 1) := by decide +kernel
theorem d_C_checkThickness_21 : decode b_C_checkThickness 21 = .ok (.ldc 239, 2) := by decide +kernel
theorem d_C_checkThickness_23 : decode b_C_checkThickness 23 = .ok (.invokespecial 94, 3) := by decide +kernel
theorem d_C_checkThickness_26 : decode b_C_checkThickness 26 = .ok (.athrow, 1) := by decide +kernel
theorem d_C_checkThickness_27 : decode b_C_checkThickness 27 = .ok (.return_, 1) := by decide +kernel
theorem d_C_checkWall_0 : decode b_C_checkWall 0 = .ok (.aload_n 0, 1) := by decide +kernel
theorem d_C_checkWall_1 : decode b_C_checkWall 1 = .ok (.getfield 26, 3) := by decide +kernel
theorem d_C_checkWall_4 : decode b_C_checkWall 4 = .ok (.iload_n 1, 1) := by decide +kernel
theorem d_C_checkWall_5 : decode b_C_checkWall 5 = .ok (.invokevirtual 188, 3) := by decide +kernel
theorem d_C_checkWall_8 : decode b_C_checkWall 8 = .ok (.ifCond .ne 13, 3) := by decide +kernel
theorem d_C_checkWall_11 : decode b_C_checkWall 11 = .ok (.new 90, 3) := by decide +kernel
theorem d_C_checkWall_14 : decode b_C_checkWall 14 = .ok (.dup, 1) := by decide +kernel
theorem d_C_checkWall_15 : decode b_C_checkWall 15 = .ok (.ldc 241, 2) := by decide +kernel
theorem d_C_checkWall_17 : decode b_C_checkWall 17 = .ok (.invokespecial 94, 3) := by decide +kernel
theorem d_C_checkWall_20 : decode b_C_checkWall 20 = .ok (.athrow, 1) := by decide +kernel
theorem d_C_checkWall_21 : decode b_C_checkWall 21 = .ok (.return_, 1) := by decide +kernel
theorem d_C_checkPlace_0 : decode b_C_checkPlace 0 = .ok (.lload_n 0, 1) := by decide +kernel
theorem d_C_checkPlace_1 : decode b_C_checkPlace 1 = .ok (.ldc2_w 243, 3) := by decide +kernel
theorem d_C_checkPlace_4 : decode b_C_checkPlace 4 = .ok (.lcmp, 1) := by decide +kernel
theorem d_C_checkPlace_5 : decode b_C_checkPlace 5 = .ok (.ifCond .lt 27, 3) := by decide +kernel
theorem d_C_checkPlace_8 : decode b_C_checkPlace 8 = .ok (.lload_n 0, 1) := by decide +kernel
theorem d_C_checkPlace_9 : decode b_C_checkPlace 9 = .ok (.ldc2_w 245, 3) := by decide +kernel
theorem d_C_checkPlace_12 : decode b_C_checkPlace 12 = .ok (.lcmp, 1) := by decide +kernel
theorem d_C_checkPlace_13 : decode b_C_checkPlace 13 = .ok (.ifCond .gt 19, 3) := by decide +kernel
theorem d_C_checkPlace_16 : decode b_C_checkPlace 16 = .ok (.lload_n 2, 1) := by decide +kernel
theorem d_C_checkPlace_17 : decode b_C_checkPlace 17 = .ok (.ldc2_w 243, 3) := by decide +kernel
theorem d_C_checkPlace_20 : decode b_C_checkPlace 20 = .ok (.lcmp, 1) := by decide +kernel
theorem d_C_checkPlace_21 : decode b_C_checkPlace 21 = .ok (.ifCond .lt 11, 3) := by decide +kernel
theorem d_C_checkPlace_24 : decode b_C_checkPlace 24 = .ok (.lload_n 2, 1) := by decide +kernel
theorem d_C_checkPlace_25 : decode b_C_checkPlace 25 = .ok (.ldc2_w 245, 3) := by decide +kernel
theorem d_C_checkPlace_28 : decode b_C_checkPlace 28 = .ok (.lcmp, 1) := by decide +kernel
theorem d_C_checkPlace_29 : decode b_C_checkPlace 29 = .ok (.ifCond .le 13, 3) := by decide +kernel
theorem d_C_checkPlace_32 : decode b_C_checkPlace 32 = .ok (.new 90, 3) := by decide +kernel
theorem d_C_checkPlace_35 : decode b_C_checkPlace 35 = .ok (.dup, 1) := by decide +kernel
theorem d_C_checkPlace_36 : decode b_C_checkPlace 36 = .ok (.ldc 247, 2) := by decide +kernel
theorem d_C_checkPlace_38 : decode b_C_checkPlace 38 = .ok (.invokespecial 94, 3) := by decide +kernel
theorem d_C_checkPlace_41 : decode b_C_checkPlace 41 = .ok (.athrow, 1) := by decide +kernel
theorem d_C_checkPlace_42 : decode b_C_checkPlace 42 = .ok (.return_, 1) := by decide +kernel
theorem d_C_checkRoomForAct_0 : decode b_C_checkRoomForAct 0 = .ok (.aload_n 0, 1) := by decide +kernel
theorem d_C_checkRoomForAct_1 : decode b_C_checkRoomForAct 1 = .ok (.getfield 40, 3) := by decide +kernel
theorem d_C_checkRoomForAct_4 : decode b_C_checkRoomForAct 4 = .ok (.getfield 150, 3) := by decide +kernel
theorem d_C_checkRoomForAct_7 : decode b_C_checkRoomForAct 7 = .ok (.sipush 200, 3) := by decide +kernel
theorem d_C_checkRoomForAct_10 : decode b_C_checkRoomForAct 10 = .ok (.if_icmp .lt 13, 3) := by decide +kernel
theorem d_C_checkRoomForAct_13 : decode b_C_checkRoomForAct 13 = .ok (.new 52, 3) := by decide +kernel
theorem d_C_checkRoomForAct_16 : decode b_C_checkRoomForAct 16 = .ok (.dup, 1) := by decide +kernel
theorem d_C_checkRoomForAct_17 : decode b_C_checkRoomForAct 17 = .ok (.ldc 249, 2) := by decide +kernel
theorem d_C_checkRoomForAct_19 : decode b_C_checkRoomForAct 19 = .ok (.invokespecial 56, 3) := by decide +kernel
theorem d_C_checkRoomForAct_22 : decode b_C_checkRoomForAct 22 = .ok (.athrow, 1) := by decide +kernel
theorem d_C_checkRoomForAct_23 : decode b_C_checkRoomForAct 23 = .ok (.return_, 1) := by decide +kernel
theorem d_C_perform_0 : decode b_C_perform 0 = .ok (.aload_n 0, 1) := by decide +kernel
theorem d_C_perform_1 : decode b_C_perform 1 = .ok (.getfield 40, 3) := by decide +kernel
theorem d_C_perform_4 : decode b_C_perform 4 = .ok (.iload_n 1, 1) := by decide +kernel
theorem d_C_perform_5 : decode b_C_perform 5 = .ok (.iload_n 2, 1) := by decide +kernel
theorem d_C_perform_6 : decode b_C_perform 6 = .ok (.iload_n 3, 1) := by decide +kernel
theorem d_C_perform_7 : decode b_C_perform 7 = .ok (.iload 4, 2) := by decide +kernel
theorem d_C_perform_9 : decode b_C_perform 9 = .ok (.invokevirtual 251, 3) := by decide +kernel
theorem d_C_perform_12 : decode b_C_perform 12 = .ok (.aload_n 0, 1) := by decide +kernel
theorem d_C_perform_13 : decode b_C_perform 13 = .ok (.invokevirtual 159, 3) := by decide +kernel
theorem d_C_perform_16 : decode b_C_perform 16 = .ok (.return_, 1) := by decide +kernel
theorem d_C_goForward_0 : decode b_C_goForward 0 = .ok (.aload_n 0, 1) := by decide +kernel
theorem d_C_goForward_1 : decode b_C_goForward 1 = .ok (.aload_n 0, 1) := by decide +kernel
theorem d_C_goForward_2 : decode b_C_goForward 2 = .ok (.getfield 40, 3) := by decide +kernel
theorem d_C_goForward_5 : decode b_C_goForward 5 = .ok (.getfield 150, 3) := by decide +kernel
theorem d_C_goForward_8 : decode b_C_goForward 8 = .ok (.iconst 1, 1) := by decide +kernel
theorem d_C_goForward_9 : decode b_C_goForward 9 = .ok (.invokevirtual 153, 3) := by decide +kernel
theorem d_C_goForward_12 : decode b_C_goForward 12 = .ok (.aload_n 0, 1) := by decide +kernel
theorem d_C_goForward_13 : decode b_C_goForward 13 = .ok (.getfield 40, 3) := by decide +kernel
theorem d_C_goForward_16 : decode b_C_goForward 16 = .ok (.dup, 1) := by decide +kernel
theorem d_C_goForward_17 : decode b_C_goForward 17 = .ok (.getfield 150, 3) := by decide +kernel
theorem d_C_goForward_20 : decode b_C_goForward 20 = .ok (.iconst 1, 1) := by decide +kernel
theorem d_C_goForward_21 : decode b_C_goForward 21 = .ok (.iadd, 1) := by decide +kernel
theorem d_C_goForward_22 : decode b_C_goForward 22 = .ok (.putfield 150, 3) := by decide +kernel
theorem d_C_goForward_25 : decode b_C_goForward 25 = .ok (.return_, 1) := by decide +kernel
theorem d_C_step_0 : decode b_C_step 0 = .ok (.aload_n 0, 1) := by decide +kernel
theorem d_C_step_1 : decode b_C_step 1 = .ok (.getfield 40, 3) := by decide +kernel
theorem d_C_step_4 : decode b_C_step 4 = .ok (.getfield 252, 3) := by decide +kernel
theorem d_C_step_7 : decode b_C_step 7 = .ok (.iload_n 1, 1) := by decide +kernel
theorem d_C_step_8 : decode b_C_step 8 = .ok (.iaload, 1) := by decide +kernel
theorem d_C_step_9 : decode b_C_step 9 = .ok (.istore_n 3, 1) := by decide +kernel
theorem d_C_step_10 : decode b_C_step 10 = .ok (.aload_n 0, 1) := by decide +kernel
theorem d_C_step_11 : decode b_C_step 11 = .ok (.getfield 40, 3) := by decide +kernel
theorem d_C_step_14 : decode b_C_step 14 = .ok (.getfield 255, 3) := by decide +kernel
theorem d_C_step_17 : decode b_C_step 17 = .ok (.iload_n 1, 1) := by decide +kernel
theorem d_C_step_18 : decode b_C_step 18 = .ok (.iaload, 1) := by decide +kernel
theorem d_C_step_19 : decode b_C_step 19 = .ok (.istore 4, 2) := by decide +kernel
theorem d_C_step_21 : decode b_C_step 21 = .ok (.aload_n 0, 1) := by decide +kernel
theorem d_C_step_22 : decode b_C_step 22 = .ok (.getfield 40, 3) := by decide +kernel
theorem d_C_step_25 : decode b_C_step 25 = .ok (.getfield 258, 3) := by decide +kernel
theorem d_C_step_28 : decode b_C_step 28 = .ok (.iload_n 1, 1) := by decide +kernel
theorem d_C_step_29 : decode b_C_step 29 = .ok (.iaload, 1) := by decide +kernel
theorem d_C_step_30 : decode b_C_step 30 = .ok (.istore 5, 2) := by decide +kernel
theorem d_C_step_32 : decode b_C_step 32 = .ok (.aload_n 0, 1) := by decide +kernel
theorem d_C_step_33 : decode b_C_step 33 = .ok (.getfield 40, 3) := by decide +kernel
theorem d_C_step_36 : decode b_C_step 36 = .ok (.getfield 261, 3) := by decide +kernel
theorem d_C_step_39 : decode b_C_step 39 = .ok (.iload_n 1, 1) := by decide +kernel
theorem d_C_step_40 : decode b_C_step 40 = .ok (.iaload, 1) := by decide +kernel
theorem d_C_step_41 : decode b_C_step 41 = .ok (.tableswitch 155 0 7 #[47, 63, 79, 155, 155, 155, 114, 133], 47) := by decide +kernel
theorem d_C_step_88 : decode b_C_step 88 = .ok (.aload_n 0, 1) := by decide +kernel
theorem d_C_step_89 : decode b_C_step 89 = .ok (.getfield 10, 3) := by decide +kernel
theorem d_C_step_92 : decode b_C_step 92 = .ok (.dup, 1) := by decide +kernel
theorem d_C_step_93 : decode b_C_step 93 = .ok (.getfield 44, 3) := by decide +kernel
theorem d_C_step_96 : decode b_C_step 96 = .ok (.iload_n 2, 1) := by decide +kernel
theorem d_C_step_97 : decode b_C_step 97 = .ok (.iadd, 1) := by decide +kernel
theorem d_C_step_98 : decode b_C_step 98 = .ok (.putfield 44, 3) := by decide +kernel
theorem d_C_step_101 : decode b_C_step 101 = .ok (.goto 120, 3) := by decide +kernel
theorem d_C_step_104 : decode b_C_step 104 = .ok (.aload_n 0, 1) := by decide +kernel
theorem d_C_step_105 : decode b_C_step 105 = .ok (.getfield 19, 3) := by decide +kernel
theorem d_C_step_108 : decode b_C_step 108 = .ok (.dup, 1) := by decide +kernel
theorem d_C_step_109 : decode b_C_step 109 = .ok (.getfield 74, 3) := by decide +kernel
theorem d_C_step_112 : decode b_C_step 112 = .ok (.iload_n 2, 1) := by decide +kernel
theorem d_C_step_113 : decode b_C_step 113 = .ok (.iadd, 1) := by decide +kernel
theorem d_C_step_114 : decode b_C_step 114 = .ok (.putfield 74, 3) := by decide +kernel
theorem d_C_step_117 : decode b_C_step 117 = .ok (.goto 104, 3) := by decide +kernel
theorem d_C_step_120 : decode b_C_step 120 = .ok (.aload_n 0, 1) := by decide +kernel
theorem d_C_step_121 : decode b_C_step 121 = .ok (.getfield 26, 3) := by decide +kernel
theorem d_C_step_124 : decode b_C_step 124 = .ok (.dup, 1) := by decide +kernel
theorem d_C_step_125 : decode b_C_step 125 = .ok (.getfield 95, 3) := by decide +kernel
theorem d_C_step_128 : decode b_C_step 128 = .ok (.iload_n 2, 1) := by decide +kernel
theorem d_C_step_129 : decode b_C_step 129 = .ok (.iload 4, 2) := by decide +kernel
theorem d_C_step_131 : decode b_C_step 131 = .ok (.imul, 1) := by decide +kernel
theorem d_C_step_132 : decode b_C_step 132 = .ok (.iadd, 1) := by decide +kernel
theorem d_C_step_133 : decode b_C_step 133 = .ok (.putfield 95, 3) := by decide +kernel
theorem d_C_step_136 : decode b_C_step 136 = .ok (.aload_n 0, 1) := by decide +kernel
theorem d_C_step_137 : decode b_C_step 137 = .ok (.getfield 33, 3) := by decide +kernel
theorem d_C_step_140 : decode b_C_step 140 = .ok (.dup, 1) := by decide +kernel
theorem d_C_step_141 : decode b_C_step 141 = .ok (.getfield 123, 3) := by decide +kernel
theorem d_C_step_144 : decode b_C_step 144 = .ok (.iload_n 2, 1) := by decide +kernel
theorem d_C_step_145 : decode b_C_step 145 = .ok (.iload 5, 2) := by decide +kernel
theorem d_C_step_147 : decode b_C_step 147 = .ok (.imul, 1) := by decide +kernel
theorem d_C_step_148 : decode b_C_step 148 = .ok (.iadd, 1) := by decide +kernel
theorem d_C_step_149 : decode b_C_step 149 = .ok (.putfield 123, 3) := by decide +kernel
theorem d_C_step_152 : decode b_C_step 152 = .ok (.goto 69, 3) := by decide +kernel
theorem d_C_step_155 : decode b_C_step 155 = .ok (.aload_n 0, 1) := by decide +kernel
theorem d_C_step_156 : decode b_C_step 156 = .ok (.getfield 26, 3) := by decide +kernel
theorem d_C_step_159 : decode b_C_step 159 = .ok (.iload_n 3, 1) := by decide +kernel
theorem d_C_step_160 : decode b_C_step 160 = .ok (.iload_n 2, 1) := by decide +kernel
theorem d_C_step_161 : decode b_C_step 161 = .ok (.iload 4, 2) := by decide +kernel
theorem d_C_step_163 : decode b_C_step 163 = .ok (.imul, 1) := by decide +kernel
theorem d_C_step_164 : decode b_C_step 164 = .ok (.iload_n 2, 1) := by decide +kernel
theorem d_C_step_165 : decode b_C_step 165 = .ok (.iload 5, 2) := by decide +kernel
theorem d_C_step_167 : decode b_C_step 167 = .ok (.imul, 1) := by decide +kernel
theorem d_C_step_168 : decode b_C_step 168 = .ok (.invokevirtual 264, 3) := by decide +kernel
theorem d_C_step_171 : decode b_C_step 171 = .ok (.goto 50, 3) := by decide +kernel
theorem d_C_step_174 : decode b_C_step 174 = .ok (.aload_n 0, 1) := by decide +kernel
theorem d_C_step_175 : decode b_C_step 175 = .ok (.getfield 26, 3) := by decide +kernel
theorem d_C_step_178 : decode b_C_step 178 = .ok (.getfield 268, 3) := by decide +kernel
theorem d_C_step_181 : decode b_C_step 181 = .ok (.iload_n 3, 1) := by decide +kernel
theorem d_C_step_182 : decode b_C_step 182 = .ok (.iload_n 2, 1) := by decide +kernel
theorem d_C_step_183 : decode b_C_step 183 = .ok (.iconst 1, 1) := by decide +kernel
theorem d_C_step_184 : decode b_C_step 184 = .ok (.if_icmp .ne 7, 3) := by decide +kernel
theorem d_C_step_187 : decode b_C_step 187 = .ok (.iconst 1, 1) := by decide +kernel
theorem d_C_step_188 : decode b_C_step 188 = .ok (.goto 4, 3) := by decide +kernel
theorem d_C_step_191 : decode b_C_step 191 = .ok (.iconst 0, 1) := by decide +kernel
theorem d_C_step_192 : decode b_C_step 192 = .ok (.bastore, 1) := by decide +kernel
theorem d_C_step_193 : decode b_C_step 193 = .ok (.goto 28, 3) := by decide +kernel
theorem d_C_step_196 : decode b_C_step 196 = .ok (.aload_n 0, 1) := by decide +kernel
theorem d_C_step_197 : decode b_C_step 197 = .ok (.getfield 40, 3) := by decide +kernel
theorem d_C_step_200 : decode b_C_step 200 = .ok (.getfield 255, 3) := by decide +kernel
theorem d_C_step_203 : decode b_C_step 203 = .ok (.iload_n 1, 1) := by decide +kernel
theorem d_C_step_204 : decode b_C_step 204 = .ok (.aload_n 0, 1) := by decide +kernel
theorem d_C_step_205 : decode b_C_step 205 = .ok (.aload_n 0, 1) := by decide +kernel
theorem d_C_step_206 : decode b_C_step 206 = .ok (.getfield 40, 3) := by decide +kernel
theorem d_C_step_209 : decode b_C_step 209 = .ok (.getfield 261, 3) := by decide +kernel
theorem d_C_step_212 : decode b_C_step 212 = .ok (.iload_n 1, 1) := by decide +kernel
theorem d_C_step_213 : decode b_C_step 213 = .ok (.iaload, 1) := by decide +kernel
theorem d_C_step_214 : decode b_C_step 214 = .ok (.iload_n 3, 1) := by decide +kernel
theorem d_C_step_215 : decode b_C_step 215 = .ok (.iload 4, 2) := by decide +kernel
theorem d_C_step_217 : decode b_C_step 217 = .ok (.invokevirtual 272, 3) := by decide +kernel
theorem d_C_step_220 : decode b_C_step 220 = .ok (.iastore, 1) := by decide +kernel
theorem d_C_step_221 : decode b_C_step 221 = .ok (.return_, 1) := by decide +kernel
theorem d_C_exchange_0 : decode b_C_exchange 0 = .ok (.iload_n 1, 1) := by decide +kernel
theorem d_C_exchange_1 : decode b_C_exchange 1 = .ok (.iconst 3, 1) := by decide +kernel
theorem d_C_exchange_2 : decode b_C_exchange 2 = .ok (.if_icmp .ne 27, 3) := by decide +kernel
theorem d_C_exchange_5 : decode b_C_exchange 5 = .ok (.aload_n 0, 1) := by decide +kernel
theorem d_C_exchange_6 : decode b_C_exchange 6 = .ok (.getfield 10, 3) := by decide +kernel
theorem d_C_exchange_9 : decode b_C_exchange 9 = .ok (.getfield 62, 3) := by decide +kernel
theorem d_C_exchange_12 : decode b_C_exchange 12 = .ok (.iload_n 2, 1) := by decide +kernel
theorem d_C_exchange_13 : decode b_C_exchange 13 = .ok (.iaload, 1) := by decide +kernel
theorem d_C_exchange_14 : decode b_C_exchange 14 = .ok (.istore 4, 2) := by decide +kernel
theorem d_C_exchange_16 : decode b_C_exchange 16 = .ok (.aload_n 0, 1) := by decide +kernel
theorem d_C_exchange_17 : decode b_C_exchange 17 = .ok (.getfield 10, 3) := by decide +kernel
theorem d_C_exchange_20 : decode b_C_exchange 20 = .ok (.getfield 62, 3) := by decide +kernel
theorem d_C_exchange_23 : decode b_C_exchange 23 = .ok (.iload_n 2, 1) := by decide +kernel
theorem d_C_exchange_24 : decode b_C_exchange 24 = .ok (.iload_n 3, 1) := by decide +kernel
theorem d_C_exchange_25 : decode b_C_exchange 25 = .ok (.iastore, 1) := by decide +kernel
theorem d_C_exchange_26 : decode b_C_exchange 26 = .ok (.goto 53, 3) := by decide +kernel
theorem d_C_exchange_29 : decode b_C_exchange 29 = .ok (.iload_n 1, 1) := by decide +kernel
theorem d_C_exchange_30 : decode b_C_exchange 30 = .ok (.iconst 4, 1) := by decide +kernel
theorem d_C_exchange_31 : decode b_C_exchange 31 = .ok (.if_icmp .ne 27, 3) := by decide +kernel
theorem d_C_exchange_34 : decode b_C_exchange 34 = .ok (.aload_n 0, 1) := by decide +kernel
theorem d_C_exchange_35 : decode b_C_exchange 35 = .ok (.getfield 19, 3) := by decide +kernel
theorem d_C_exchange_38 : decode b_C_exchange 38 = .ok (.getfield 80, 3) := by decide +kernel
theorem d_C_exchange_41 : decode b_C_exchange 41 = .ok (.iload_n 2, 1) := by decide +kernel
theorem d_C_exchange_42 : decode b_C_exchange 42 = .ok (.iaload, 1) := by decide +kernel
theorem d_C_exchange_43 : decode b_C_exchange 43 = .ok (.istore 4, 2) := by decide +kernel
theorem d_C_exchange_45 : decode b_C_exchange 45 = .ok (.aload_n 0, 1) := by decide +kernel
theorem d_C_exchange_46 : decode b_C_exchange 46 = .ok (.getfield 19, 3) := by decide +kernel
theorem d_C_exchange_49 : decode b_C_exchange 49 = .ok (.getfield 80, 3) := by decide +kernel
theorem d_C_exchange_52 : decode b_C_exchange 52 = .ok (.iload_n 2, 1) := by decide +kernel
theorem d_C_exchange_53 : decode b_C_exchange 53 = .ok (.iload_n 3, 1) := by decide +kernel
theorem d_C_exchange_54 : decode b_C_exchange 54 = .ok (.iastore, 1) := by decide +kernel
theorem d_C_exchange_55 : decode b_C_exchange 55 = .ok (.goto 24, 3) := by decide +kernel
theorem d_C_exchange_58 : decode b_C_exchange 58 = .ok (.aload_n 0, 1) := by decide +kernel
theorem d_C_exchange_59 : decode b_C_exchange 59 = .ok (.getfield 26, 3) := by decide +kernel
theorem d_C_exchange_62 : decode b_C_exchange 62 = .ok (.getfield 168, 3) := by decide +kernel
theorem d_C_exchange_65 : decode b_C_exchange 65 = .ok (.iload_n 2, 1) := by decide +kernel
theorem d_C_exchange_66 : decode b_C_exchange 66 = .ok (.iaload, 1) := by decide +kernel
theorem d_C_exchange_67 : decode b_C_exchange 67 = .ok (.istore 4, 2) := by decide +kernel
theorem d_C_exchange_69 : decode b_C_exchange 69 = .ok (.aload_n 0, 1) := by decide +kernel
theorem d_C_exchange_70 : decode b_C_exchange 70 = .ok (.getfield 26, 3) := by decide +kernel
theorem d_C_exchange_73 : decode b_C_exchange 73 = .ok (.getfield 168, 3) := by decide +kernel
theorem d_C_exchange_76 : decode b_C_exchange 76 = .ok (.iload_n 2, 1) := by decide +kernel
theorem d_C_exchange_77 : decode b_C_exchange 77 = .ok (.iload_n 3, 1) := by decide +kernel
theorem d_C_exchange_78 : decode b_C_exchange 78 = .ok (.iastore, 1) := by decide +kernel
theorem d_C_exchange_79 : decode b_C_exchange 79 = .ok (.iload 4, 2) := by decide +kernel
theorem d_C_exchange_81 : decode b_C_exchange 81 = .ok (.ireturn, 1) := by decide +kernel
theorem d_C_writeCopies_0 : decode b_C_writeCopies 0 = .ok (.aload_n 0, 1) := by decide +kernel
theorem d_C_writeCopies_1 : decode b_C_writeCopies 1 = .ok (.getfield 26, 3) := by decide +kernel
theorem d_C_writeCopies_4 : decode b_C_writeCopies 4 = .ok (.getfield 95, 3) := by decide +kernel
theorem d_C_writeCopies_7 : decode b_C_writeCopies 7 = .ok (.istore_n 3, 1) := by decide +kernel
theorem d_C_writeCopies_8 : decode b_C_writeCopies 8 = .ok (.aload_n 0, 1) := by decide +kernel
theorem d_C_writeCopies_9 : decode b_C_writeCopies 9 = .ok (.getfield 33, 3) := by decide +kernel
theorem d_C_writeCopies_12 : decode b_C_writeCopies 12 = .ok (.getfield 123, 3) := by decide +kernel
theorem d_C_writeCopies_15 : decode b_C_writeCopies 15 = .ok (.istore 4, 2) := by decide +kernel
theorem d_C_writeCopies_17 : decode b_C_writeCopies 17 = .ok (.iconst 0, 1) := by decide +kernel
theorem d_C_writeCopies_18 : decode b_C_writeCopies 18 = .ok (.istore 5, 2) := by decide +kernel
theorem d_C_writeCopies_20 : decode b_C_writeCopies 20 = .ok (.iload 5, 2) := by decide +kernel
theorem d_C_writeCopies_22 : decode b_C_writeCopies 22 = .ok (.aload_n 0, 1) := by decide +kernel
theorem d_C_writeCopies_23 : decode b_C_writeCopies 23 = .ok (.getfield 26, 3) := by decide +kernel
theorem d_C_writeCopies_26 : decode b_C_writeCopies 26 = .ok (.getfield 95, 3) := by decide +kernel
theorem d_C_writeCopies_29 : decode b_C_writeCopies 29 = .ok (.if_icmp .ge 50, 3) := by decide +kernel
theorem d_C_writeCopies_32 : decode b_C_writeCopies 32 = .ok (.aload_n 0, 1) := by decide +kernel
theorem d_C_writeCopies_33 : decode b_C_writeCopies 33 = .ok (.getfield 26, 3) := by decide +kernel
theorem d_C_writeCopies_36 : decode b_C_writeCopies 36 = .ok (.iload 5, 2) := by decide +kernel
theorem d_C_writeCopies_38 : decode b_C_writeCopies 38 = .ok (.iload_n 1, 1) := by decide +kernel
theorem d_C_writeCopies_39 : decode b_C_writeCopies 39 = .ok (.invokevirtual 219, 3) := by decide +kernel
theorem d_C_writeCopies_42 : decode b_C_writeCopies 42 = .ok (.ifCond .eq 31, 3) := by decide +kernel
theorem d_C_writeCopies_45 : decode b_C_writeCopies 45 = .ok (.aload_n 0, 1) := by decide +kernel
theorem d_C_writeCopies_46 : decode b_C_writeCopies 46 = .ok (.getfield 26, 3) := by decide +kernel
theorem d_C_writeCopies_49 : decode b_C_writeCopies 49 = .ok (.iload 5, 2) := by decide +kernel
theorem d_C_writeCopies_51 : decode b_C_writeCopies 51 = .ok (.iload_n 3, 1) := by decide +kernel
theorem d_C_writeCopies_52 : decode b_C_writeCopies 52 = .ok (.iload_n 2, 1) := by decide +kernel
theorem d_C_writeCopies_53 : decode b_C_writeCopies 53 = .ok (.invokevirtual 276, 3) := by decide +kernel
theorem d_C_writeCopies_56 : decode b_C_writeCopies 56 = .ok (.aload_n 0, 1) := by decide +kernel
theorem d_C_writeCopies_57 : decode b_C_writeCopies 57 = .ok (.getfield 33, 3) := by decide +kernel
theorem d_C_writeCopies_60 : decode b_C_writeCopies 60 = .ok (.iload 5, 2) := by decide +kernel
theorem d_C_writeCopies_62 : decode b_C_writeCopies 62 = .ok (.iload_n 3, 1) := by decide +kernel
theorem d_C_writeCopies_63 : decode b_C_writeCopies 63 = .ok (.iload 4, 2) := by decide +kernel
theorem d_C_writeCopies_65 : decode b_C_writeCopies 65 = .ok (.invokevirtual 279, 3) := by decide +kernel
theorem d_C_writeCopies_68 : decode b_C_writeCopies 68 = .ok (.istore 4, 2) := by decide +kernel
theorem d_C_writeCopies_70 : decode b_C_writeCopies 70 = .ok (.iinc 3 1, 3) := by decide +kernel
theorem d_C_writeCopies_73 : decode b_C_writeCopies 73 = .ok (.iinc 5 1, 3) := by decide +kernel
theorem d_C_writeCopies_76 : decode b_C_writeCopies 76 = .ok (.goto (-56), 3) := by decide +kernel
theorem d_C_writeCopies_79 : decode b_C_writeCopies 79 = .ok (.return_, 1) := by decide +kernel
theorem d_C_openingsOn_0 : decode b_C_openingsOn 0 = .ok (.iconst 0, 1) := by decide +kernel
theorem d_C_openingsOn_1 : decode b_C_openingsOn 1 = .ok (.istore_n 2, 1) := by decide +kernel
theorem d_C_openingsOn_2 : decode b_C_openingsOn 2 = .ok (.iconst 0, 1) := by decide +kernel
theorem d_C_openingsOn_3 : decode b_C_openingsOn 3 = .ok (.istore_n 3, 1) := by decide +kernel
theorem d_C_openingsOn_4 : decode b_C_openingsOn 4 = .ok (.iload_n 3, 1) := by decide +kernel
theorem d_C_openingsOn_5 : decode b_C_openingsOn 5 = .ok (.aload_n 0, 1) := by decide +kernel
theorem d_C_openingsOn_6 : decode b_C_openingsOn 6 = .ok (.getfield 33, 3) := by decide +kernel
theorem d_C_openingsOn_9 : decode b_C_openingsOn 9 = .ok (.getfield 123, 3) := by decide +kernel
theorem d_C_openingsOn_12 : decode b_C_openingsOn 12 = .ok (.if_icmp .ge 32, 3) := by decide +kernel
theorem d_C_openingsOn_15 : decode b_C_openingsOn 15 = .ok (.aload_n 0, 1) := by decide +kernel
theorem d_C_openingsOn_16 : decode b_C_openingsOn 16 = .ok (.getfield 26, 3) := by decide +kernel
theorem d_C_openingsOn_19 : decode b_C_openingsOn 19 = .ok (.aload_n 0, 1) := by decide +kernel
theorem d_C_openingsOn_20 : decode b_C_openingsOn 20 = .ok (.getfield 33, 3) := by decide +kernel
theorem d_C_openingsOn_23 : decode b_C_openingsOn 23 = .ok (.getfield 186, 3) := by decide +kernel
theorem d_C_openingsOn_26 : decode b_C_openingsOn 26 = .ok (.iload_n 3, 1) := by decide +kernel
theorem d_C_openingsOn_27 : decode b_C_openingsOn 27 = .ok (.iaload, 1) := by decide +kernel
theorem d_C_openingsOn_28 : decode b_C_openingsOn 28 = .ok (.iload_n 1, 1) := by decide +kernel
theorem d_C_openingsOn_29 : decode b_C_openingsOn 29 = .ok (.invokevirtual 219, 3) := by decide +kernel
theorem d_C_openingsOn_32 : decode b_C_openingsOn 32 = .ok (.ifCond .eq 6, 3) := by decide +kernel
theorem d_C_openingsOn_35 : decode b_C_openingsOn 35 = .ok (.iinc 2 1, 3) := by decide +kernel
theorem d_C_openingsOn_38 : decode b_C_openingsOn 38 = .ok (.iinc 3 1, 3) := by decide +kernel
theorem d_C_openingsOn_41 : decode b_C_openingsOn 41 = .ok (.goto (-37), 3) := by decide +kernel
theorem d_C_openingsOn_44 : decode b_C_openingsOn 44 = .ok (.iload_n 2, 1) := by decide +kernel
theorem d_C_openingsOn_45 : decode b_C_openingsOn 45 = .ok (.ireturn, 1) := by decide +kernel
theorem d_C_netLength_0 : decode b_C_netLength 0 = .ok (.aload_n 0, 1) := by decide +kernel
theorem d_C_netLength_1 : decode b_C_netLength 1 = .ok (.getfield 26, 3) := by decide +kernel
theorem d_C_netLength_4 : decode b_C_netLength 4 = .ok (.iload_n 1, 1) := by decide +kernel
theorem d_C_netLength_5 : decode b_C_netLength 5 = .ok (.aload_n 0, 1) := by decide +kernel
theorem d_C_netLength_6 : decode b_C_netLength 6 = .ok (.getfield 26, 3) := by decide +kernel
theorem d_C_netLength_9 : decode b_C_netLength 9 = .ok (.getfield 105, 3) := by decide +kernel
theorem d_C_netLength_12 : decode b_C_netLength 12 = .ok (.iload_n 1, 1) := by decide +kernel
theorem d_C_netLength_13 : decode b_C_netLength 13 = .ok (.iaload, 1) := by decide +kernel
theorem d_C_netLength_14 : decode b_C_netLength 14 = .ok (.aload_n 0, 1) := by decide +kernel
theorem d_C_netLength_15 : decode b_C_netLength 15 = .ok (.getfield 26, 3) := by decide +kernel
theorem d_C_netLength_18 : decode b_C_netLength 18 = .ok (.getfield 108, 3) := by decide +kernel
theorem d_C_netLength_21 : decode b_C_netLength 21 = .ok (.iload_n 1, 1) := by decide +kernel
theorem d_C_netLength_22 : decode b_C_netLength 22 = .ok (.iaload, 1) := by decide +kernel
theorem d_C_netLength_23 : decode b_C_netLength 23 = .ok (.invokevirtual 281, 3) := by decide +kernel
theorem d_C_netLength_26 : decode b_C_netLength 26 = .ok (.istore_n 2, 1) := by decide +kernel
theorem d_C_netLength_27 : decode b_C_netLength 27 = .ok (.aload_n 0, 1) := by decide +kernel
theorem d_C_netLength_28 : decode b_C_netLength 28 = .ok (.getfield 26, 3) := by decide +kernel
theorem d_C_netLength_31 : decode b_C_netLength 31 = .ok (.iload_n 1, 1) := by decide +kernel
theorem d_C_netLength_32 : decode b_C_netLength 32 = .ok (.aload_n 0, 1) := by decide +kernel
theorem d_C_netLength_33 : decode b_C_netLength 33 = .ok (.getfield 26, 3) := by decide +kernel
theorem d_C_netLength_36 : decode b_C_netLength 36 = .ok (.getfield 111, 3) := by decide +kernel
theorem d_C_netLength_39 : decode b_C_netLength 39 = .ok (.iload_n 1, 1) := by decide +kernel
theorem d_C_netLength_40 : decode b_C_netLength 40 = .ok (.iaload, 1) := by decide +kernel
theorem d_C_netLength_41 : decode b_C_netLength 41 = .ok (.aload_n 0, 1) := by decide +kernel
theorem d_C_netLength_42 : decode b_C_netLength 42 = .ok (.getfield 26, 3) := by decide +kernel
theorem d_C_netLength_45 : decode b_C_netLength 45 = .ok (.getfield 114, 3) := by decide +kernel
theorem d_C_netLength_48 : decode b_C_netLength 48 = .ok (.iload_n 1, 1) := by decide +kernel
theorem d_C_netLength_49 : decode b_C_netLength 49 = .ok (.iaload, 1) := by decide +kernel
theorem d_C_netLength_50 : decode b_C_netLength 50 = .ok (.invokevirtual 281, 3) := by decide +kernel
theorem d_C_netLength_53 : decode b_C_netLength 53 = .ok (.istore_n 3, 1) := by decide +kernel
theorem d_C_netLength_54 : decode b_C_netLength 54 = .ok (.aload_n 0, 1) := by decide +kernel
theorem d_C_netLength_55 : decode b_C_netLength 55 = .ok (.getfield 26, 3) := by decide +kernel
theorem d_C_netLength_58 : decode b_C_netLength 58 = .ok (.iload_n 1, 1) := by decide +kernel
theorem d_C_netLength_59 : decode b_C_netLength 59 = .ok (.invokevirtual 117, 3) := by decide +kernel
theorem d_C_netLength_62 : decode b_C_netLength 62 = .ok (.i2l, 1) := by decide +kernel
theorem d_C_netLength_63 : decode b_C_netLength 63 = .ok (.aload_n 0, 1) := by decide +kernel
theorem d_C_netLength_64 : decode b_C_netLength 64 = .ok (.iload_n 1, 1) := by decide +kernel
theorem d_C_netLength_65 : decode b_C_netLength 65 = .ok (.iload_n 2, 1) := by decide +kernel
theorem d_C_netLength_66 : decode b_C_netLength 66 = .ok (.invokevirtual 284, 3) := by decide +kernel
theorem d_C_netLength_69 : decode b_C_netLength 69 = .ok (.i2l, 1) := by decide +kernel
theorem d_C_netLength_70 : decode b_C_netLength 70 = .ok (.ladd, 1) := by decide +kernel
theorem d_C_netLength_71 : decode b_C_netLength 71 = .ok (.aload_n 0, 1) := by decide +kernel
theorem d_C_netLength_72 : decode b_C_netLength 72 = .ok (.iload_n 1, 1) := by decide +kernel
theorem d_C_netLength_73 : decode b_C_netLength 73 = .ok (.iload_n 3, 1) := by decide +kernel
theorem d_C_netLength_74 : decode b_C_netLength 74 = .ok (.invokevirtual 284, 3) := by decide +kernel
theorem d_C_netLength_77 : decode b_C_netLength 77 = .ok (.i2l, 1) := by decide +kernel
theorem d_C_netLength_78 : decode b_C_netLength 78 = .ok (.ladd, 1) := by decide +kernel
theorem d_C_netLength_79 : decode b_C_netLength 79 = .ok (.lreturn, 1) := by decide +kernel
theorem d_C_gainByJoin_0 : decode b_C_gainByJoin 0 = .ok (.iload_n 2, 1) := by decide +kernel
theorem d_C_gainByJoin_1 : decode b_C_gainByJoin 1 = .ok (.iconst (-1), 1) := by decide +kernel
theorem d_C_gainByJoin_2 : decode b_C_gainByJoin 2 = .ok (.if_icmp .ne 5, 3) := by decide +kernel
theorem d_C_gainByJoin_5 : decode b_C_gainByJoin 5 = .ok (.iconst 0, 1) := by decide +kernel
theorem d_C_gainByJoin_6 : decode b_C_gainByJoin 6 = .ok (.ireturn, 1) := by decide +kernel
theorem d_C_gainByJoin_7 : decode b_C_gainByJoin 7 = .ok (.aload_n 0, 1) := by decide +kernel
theorem d_C_gainByJoin_8 : decode b_C_gainByJoin 8 = .ok (.iload_n 2, 1) := by decide +kernel
theorem d_C_gainByJoin_9 : decode b_C_gainByJoin 9 = .ok (.invokevirtual 288, 3) := by decide +kernel
theorem d_C_gainByJoin_12 : decode b_C_gainByJoin 12 = .ok (.istore_n 3, 1) := by decide +kernel
theorem d_C_gainByJoin_13 : decode b_C_gainByJoin 13 = .ok (.iload_n 2, 1) := by decide +kernel
theorem d_C_gainByJoin_14 : decode b_C_gainByJoin 14 = .ok (.iload_n 1, 1) := by decide +kernel
theorem d_C_gainByJoin_15 : decode b_C_gainByJoin 15 = .ok (.if_icmp .ge 8, 3) := by decide +kernel
theorem d_C_gainByJoin_18 : decode b_C_gainByJoin 18 = .ok (.iload_n 3, 1) := by decide +kernel
theorem d_C_gainByJoin_19 : decode b_C_gainByJoin 19 = .ok (.ineg, 1) := by decide +kernel
theorem d_C_gainByJoin_20 : decode b_C_gainByJoin 20 = .ok (.goto 4, 3) := by decide +kernel
theorem d_C_gainByJoin_23 : decode b_C_gainByJoin 23 = .ok (.iload_n 3, 1) := by decide +kernel
theorem d_C_gainByJoin_24 : decode b_C_gainByJoin 24 = .ok (.ireturn, 1) := by decide +kernel
theorem d_C_halfThickness_0 : decode b_C_halfThickness 0 = .ok (.aload_n 0, 1) := by decide +kernel
theorem d_C_halfThickness_1 : decode b_C_halfThickness 1 = .ok (.getfield 19, 3) := by decide +kernel
theorem d_C_halfThickness_4 : decode b_C_halfThickness 4 = .ok (.getfield 80, 3) := by decide +kernel
theorem d_C_halfThickness_7 : decode b_C_halfThickness 7 = .ok (.aload_n 0, 1) := by decide +kernel
theorem d_C_halfThickness_8 : decode b_C_halfThickness 8 = .ok (.getfield 26, 3) := by decide +kernel
theorem d_C_halfThickness_11 : decode b_C_halfThickness 11 = .ok (.getfield 168, 3) := by decide +kernel
theorem d_C_halfThickness_14 : decode b_C_halfThickness 14 = .ok (.iload_n 1, 1) := by decide +kernel
theorem d_C_halfThickness_15 : decode b_C_halfThickness 15 = .ok (.iaload, 1) := by decide +kernel
theorem d_C_halfThickness_16 : decode b_C_halfThickness 16 = .ok (.iaload, 1) := by decide +kernel
theorem d_C_halfThickness_17 : decode b_C_halfThickness 17 = .ok (.iconst 2, 1) := by decide +kernel
theorem d_C_halfThickness_18 : decode b_C_halfThickness 18 = .ok (.idiv, 1) := by decide +kernel
theorem d_C_halfThickness_19 : decode b_C_halfThickness 19 = .ok (.ireturn, 1) := by decide +kernel
theorem d_C_area_0 : decode b_C_area 0 = .ok (.aload_n 0, 1) := by decide +kernel
theorem d_C_area_1 : decode b_C_area 1 = .ok (.getfield 10, 3) := by decide +kernel
theorem d_C_area_4 : decode b_C_area 4 = .ok (.aload_n 0, 1) := by decide +kernel
theorem d_C_area_5 : decode b_C_area 5 = .ok (.getfield 26, 3) := by decide +kernel
theorem d_C_area_8 : decode b_C_area 8 = .ok (.getfield 166, 3) := by decide +kernel
theorem d_C_area_11 : decode b_C_area 11 = .ok (.iload_n 1, 1) := by decide +kernel
theorem d_C_area_12 : decode b_C_area 12 = .ok (.iaload, 1) := by decide +kernel
theorem d_C_area_13 : decode b_C_area 13 = .ok (.invokevirtual 201, 3) := by decide +kernel
theorem d_C_area_16 : decode b_C_area 16 = .ok (.istore_n 2, 1) := by decide +kernel
theorem d_C_area_17 : decode b_C_area 17 = .ok (.iload_n 2, 1) := by decide +kernel
theorem d_C_area_18 : decode b_C_area 18 = .ok (.sipush 200, 3) := by decide +kernel
theorem d_C_area_21 : decode b_C_area 21 = .ok (.invokestatic 291, 3) := by decide +kernel
theorem d_C_area_24 : decode b_C_area 24 = .ok (.istore_n 3, 1) := by decide +kernel
theorem d_C_area_25 : decode b_C_area 25 = .ok (.aload_n 0, 1) := by decide +kernel
theorem d_C_area_26 : decode b_C_area 26 = .ok (.iload_n 1, 1) := by decide +kernel
theorem d_C_area_27 : decode b_C_area 27 = .ok (.invokevirtual 170, 3) := by decide +kernel
theorem d_C_area_30 : decode b_C_area 30 = .ok (.iload_n 2, 1) := by decide +kernel
theorem d_C_area_31 : decode b_C_area 31 = .ok (.i2l, 1) := by decide +kernel
theorem d_C_area_32 : decode b_C_area 32 = .ok (.lmul, 1) := by decide +kernel
theorem d_C_area_33 : decode b_C_area 33 = .ok (.aload_n 0, 1) := by decide +kernel
theorem d_C_area_34 : decode b_C_area 34 = .ok (.getfield 33, 3) := by decide +kernel
theorem d_C_area_37 : decode b_C_area 37 = .ok (.iload_n 1, 1) := by decide +kernel
theorem d_C_area_38 : decode b_C_area 38 = .ok (.invokevirtual 296, 3) := by decide +kernel
theorem d_C_area_41 : decode b_C_area 41 = .ok (.i2l, 1) := by decide +kernel
theorem d_C_area_42 : decode b_C_area 42 = .ok (.iload_n 3, 1) := by decide +kernel
theorem d_C_area_43 : decode b_C_area 43 = .ok (.i2l, 1) := by decide +kernel
theorem d_C_area_44 : decode b_C_area 44 = .ok (.lmul, 1) := by decide +kernel
theorem d_C_area_45 : decode b_C_area 45 = .ok (.lsub, 1) := by decide +kernel
theorem d_C_area_46 : decode b_C_area 46 = .ok (.lreturn, 1) := by decide +kernel
theorem d_C_areaOf_0 : decode b_C_areaOf 0 = .ok (.lconst 0, 1) := by decide +kernel
theorem d_C_areaOf_1 : decode b_C_areaOf 1 = .ok (.lstore_n 2, 1) := by decide +kernel
theorem d_C_areaOf_2 : decode b_C_areaOf 2 = .ok (.iconst 0, 1) := by decide +kernel
theorem d_C_areaOf_3 : decode b_C_areaOf 3 = .ok (.istore 4, 2) := by decide +kernel
theorem d_C_areaOf_5 : decode b_C_areaOf 5 = .ok (.iload 4, 2) := by decide +kernel
theorem d_C_areaOf_7 : decode b_C_areaOf 7 = .ok (.aload_n 0, 1) := by decide +kernel
theorem d_C_areaOf_8 : decode b_C_areaOf 8 = .ok (.getfield 26, 3) := by decide +kernel
theorem d_C_areaOf_11 : decode b_C_areaOf 11 = .ok (.getfield 95, 3) := by decide +kernel
theorem d_C_areaOf_14 : decode b_C_areaOf 14 = .ok (.if_icmp .ge 31, 3) := by decide +kernel
theorem d_C_areaOf_17 : decode b_C_areaOf 17 = .ok (.aload_n 0, 1) := by decide +kernel
theorem d_C_areaOf_18 : decode b_C_areaOf 18 = .ok (.getfield 26, 3) := by decide +kernel
theorem d_C_areaOf_21 : decode b_C_areaOf 21 = .ok (.iload 4, 2) := by decide +kernel
theorem d_C_areaOf_23 : decode b_C_areaOf 23 = .ok (.iload_n 1, 1) := by decide +kernel
theorem d_C_areaOf_24 : decode b_C_areaOf 24 = .ok (.invokevirtual 219, 3) := by decide +kernel
theorem d_C_areaOf_27 : decode b_C_areaOf 27 = .ok (.ifCond .eq 12, 3) := by decide +kernel
theorem d_C_areaOf_30 : decode b_C_areaOf 30 = .ok (.lload_n 2, 1) := by decide +kernel
theorem d_C_areaOf_31 : decode b_C_areaOf 31 = .ok (.aload_n 0, 1) := by decide +kernel
theorem d_C_areaOf_32 : decode b_C_areaOf 32 = .ok (.iload 4, 2) := by decide +kernel
theorem d_C_areaOf_34 : decode b_C_areaOf 34 = .ok (.invokevirtual 174, 3) := by decide +kernel
theorem d_C_areaOf_37 : decode b_C_areaOf 37 = .ok (.ladd, 1) := by decide +kernel
theorem d_C_areaOf_38 : decode b_C_areaOf 38 = .ok (.lstore_n 2, 1) := by decide +kernel
theorem d_C_areaOf_39 : decode b_C_areaOf 39 = .ok (.iinc 4 1, 3) := by decide +kernel
theorem d_C_areaOf_42 : decode b_C_areaOf 42 = .ok (.goto (-37), 3) := by decide +kernel
theorem d_C_areaOf_45 : decode b_C_areaOf 45 = .ok (.lload_n 2, 1) := by decide +kernel
theorem d_C_areaOf_46 : decode b_C_areaOf 46 = .ok (.lreturn, 1) := by decide +kernel
theorem d_C_netLengthWith_0 : decode b_C_netLengthWith 0 = .ok (.lconst 0, 1) := by decide +kernel
theorem d_C_netLengthWith_1 : decode b_C_netLengthWith 1 = .ok (.lstore_n 2, 1) := by decide +kernel
theorem d_C_netLengthWith_2 : decode b_C_netLengthWith 2 = .ok (.iconst 0, 1) := by decide +kernel
theorem d_C_netLengthWith_3 : decode b_C_netLengthWith 3 = .ok (.istore 4, 2) := by decide +kernel
theorem d_C_netLengthWith_5 : decode b_C_netLengthWith 5 = .ok (.iload 4, 2) := by decide +kernel
theorem d_C_netLengthWith_7 : decode b_C_netLengthWith 7 = .ok (.aload_n 0, 1) := by decide +kernel
theorem d_C_netLengthWith_8 : decode b_C_netLengthWith 8 = .ok (.getfield 26, 3) := by decide +kernel
theorem d_C_netLengthWith_11 : decode b_C_netLengthWith 11 = .ok (.getfield 95, 3) := by decide +kernel
theorem d_C_netLengthWith_14 : decode b_C_netLengthWith 14 = .ok (.if_icmp .ge 31, 3) := by decide +kernel
theorem d_C_netLengthWith_17 : decode b_C_netLengthWith 17 = .ok (.aload_n 0, 1) := by decide +kernel
theorem d_C_netLengthWith_18 : decode b_C_netLengthWith 18 = .ok (.getfield 26, 3) := by decide +kernel
theorem d_C_netLengthWith_21 : decode b_C_netLengthWith 21 = .ok (.iload 4, 2) := by decide +kernel
theorem d_C_netLengthWith_23 : decode b_C_netLengthWith 23 = .ok (.iload_n 1, 1) := by decide +kernel
theorem d_C_netLengthWith_24 : decode b_C_netLengthWith 24 = .ok (.invokevirtual 299, 3) := by decide +kernel
theorem d_C_netLengthWith_27 : decode b_C_netLengthWith 27 = .ok (.ifCond .eq 12, 3) := by decide +kernel
theorem d_C_netLengthWith_30 : decode b_C_netLengthWith 30 = .ok (.lload_n 2, 1) := by decide +kernel
theorem d_C_netLengthWith_31 : decode b_C_netLengthWith 31 = .ok (.aload_n 0, 1) := by decide +kernel
theorem d_C_netLengthWith_32 : decode b_C_netLengthWith 32 = .ok (.iload 4, 2) := by decide +kernel
theorem d_C_netLengthWith_34 : decode b_C_netLengthWith 34 = .ok (.invokevirtual 170, 3) := by decide +kernel
theorem d_C_netLengthWith_37 : decode b_C_netLengthWith 37 = .ok (.ladd, 1) := by decide +kernel
theorem d_C_netLengthWith_38 : decode b_C_netLengthWith 38 = .ok (.lstore_n 2, 1) := by decide +kernel
theorem d_C_netLengthWith_39 : decode b_C_netLengthWith 39 = .ok (.iinc 4 1, 3) := by decide +kernel
theorem d_C_netLengthWith_42 : decode b_C_netLengthWith 42 = .ok (.goto (-37), 3) := by decide +kernel
theorem d_C_netLengthWith_45 : decode b_C_netLengthWith 45 = .ok (.lload_n 2, 1) := by decide +kernel
theorem d_C_netLengthWith_46 : decode b_C_netLengthWith 46 = .ok (.lreturn, 1) := by decide +kernel
theorem d_C_covers_0 : decode b_C_covers 0 = .ok (.aload_n 0, 1) := by decide +kernel
theorem d_C_covers_1 : decode b_C_covers 1 = .ok (.iload_n 1, 1) := by decide +kernel
theorem d_C_covers_2 : decode b_C_covers 2 = .ok (.invokevirtual 288, 3) := by decide +kernel
theorem d_C_covers_5 : decode b_C_covers 5 = .ok (.istore 4, 2) := by decide +kernel
theorem d_C_covers_7 : decode b_C_covers 7 = .ok (.aload_n 0, 1) := by decide +kernel
theorem d_C_covers_8 : decode b_C_covers 8 = .ok (.getfield 26, 3) := by decide +kernel
theorem d_C_covers_11 : decode b_C_covers 11 = .ok (.iload_n 1, 1) := by decide +kernel
theorem d_C_covers_12 : decode b_C_covers 12 = .ok (.invokevirtual 302, 3) := by decide +kernel
theorem d_C_covers_15 : decode b_C_covers 15 = .ok (.ifCond .eq 7, 3) := by decide +kernel
theorem d_C_covers_18 : decode b_C_covers 18 = .ok (.iconst 0, 1) := by decide +kernel
theorem d_C_covers_19 : decode b_C_covers 19 = .ok (.goto 5, 3) := by decide +kernel
theorem d_C_covers_22 : decode b_C_covers 22 = .ok (.iload 4, 2) := by decide +kernel
theorem d_C_covers_24 : decode b_C_covers 24 = .ok (.istore 5, 2) := by decide +kernel
theorem d_C_covers_26 : decode b_C_covers 26 = .ok (.aload_n 0, 1) := by decide +kernel
theorem d_C_covers_27 : decode b_C_covers 27 = .ok (.getfield 26, 3) := by decide +kernel
theorem d_C_covers_30 : decode b_C_covers 30 = .ok (.iload_n 1, 1) := by decide +kernel
theorem d_C_covers_31 : decode b_C_covers 31 = .ok (.invokevirtual 302, 3) := by decide +kernel
theorem d_C_covers_34 : decode b_C_covers 34 = .ok (.ifCond .eq 8, 3) := by decide +kernel
theorem d_C_covers_37 : decode b_C_covers 37 = .ok (.iload 4, 2) := by decide +kernel
theorem d_C_covers_39 : decode b_C_covers 39 = .ok (.goto 4, 3) := by decide +kernel
theorem d_C_covers_42 : decode b_C_covers 42 = .ok (.iconst 0, 1) := by decide +kernel
theorem d_C_covers_43 : decode b_C_covers 43 = .ok (.istore 6, 2) := by decide +kernel
theorem d_C_covers_45 : decode b_C_covers 45 = .ok (.iload_n 2, 1) := by decide +kernel
theorem d_C_covers_46 : decode b_C_covers 46 = .ok (.aload_n 0, 1) := by decide +kernel
