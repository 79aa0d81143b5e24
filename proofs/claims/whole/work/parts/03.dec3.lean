theorem d_W_shift_0 : decode b_W_shift 0 = .ok (.aload_n 0, 1) := by decide +kernel
theorem d_W_shift_1 : decode b_W_shift 1 = .ok (.getfield 18, 3) := by decide +kernel
theorem d_W_shift_4 : decode b_W_shift 4 = .ok (.iload_n 1, 1) := by decide +kernel
theorem d_W_shift_5 : decode b_W_shift 5 = .ok (.dup2, 1) := by decide +kernel
theorem d_W_shift_6 : decode b_W_shift 6 = .ok (.iaload, 1) := by decide +kernel
theorem d_W_shift_7 : decode b_W_shift 7 = .ok (.iload_n 2, 1) := by decide +kernel
theorem d_W_shift_8 : decode b_W_shift 8 = .ok (.iadd, 1) := by decide +kernel
theorem d_W_shift_9 : decode b_W_shift 9 = .ok (.iastore, 1) := by decide +kernel
theorem d_W_shift_10 : decode b_W_shift 10 = .ok (.aload_n 0, 1) := by decide +kernel
theorem d_W_shift_11 : decode b_W_shift 11 = .ok (.getfield 21, 3) := by decide +kernel
theorem d_W_shift_14 : decode b_W_shift 14 = .ok (.iload_n 1, 1) := by decide +kernel
theorem d_W_shift_15 : decode b_W_shift 15 = .ok (.dup2, 1) := by decide +kernel
theorem d_W_shift_16 : decode b_W_shift 16 = .ok (.iaload, 1) := by decide +kernel
theorem d_W_shift_17 : decode b_W_shift 17 = .ok (.iload_n 3, 1) := by decide +kernel
theorem d_W_shift_18 : decode b_W_shift 18 = .ok (.iadd, 1) := by decide +kernel
theorem d_W_shift_19 : decode b_W_shift 19 = .ok (.iastore, 1) := by decide +kernel
theorem d_W_shift_20 : decode b_W_shift 20 = .ok (.aload_n 0, 1) := by decide +kernel
theorem d_W_shift_21 : decode b_W_shift 21 = .ok (.getfield 24, 3) := by decide +kernel
theorem d_W_shift_24 : decode b_W_shift 24 = .ok (.iload_n 1, 1) := by decide +kernel
theorem d_W_shift_25 : decode b_W_shift 25 = .ok (.dup2, 1) := by decide +kernel
theorem d_W_shift_26 : decode b_W_shift 26 = .ok (.iaload, 1) := by decide +kernel
theorem d_W_shift_27 : decode b_W_shift 27 = .ok (.iload_n 2, 1) := by decide +kernel
theorem d_W_shift_28 : decode b_W_shift 28 = .ok (.iadd, 1) := by decide +kernel
theorem d_W_shift_29 : decode b_W_shift 29 = .ok (.iastore, 1) := by decide +kernel
theorem d_W_shift_30 : decode b_W_shift 30 = .ok (.aload_n 0, 1) := by decide +kernel
theorem d_W_shift_31 : decode b_W_shift 31 = .ok (.getfield 27, 3) := by decide +kernel
theorem d_W_shift_34 : decode b_W_shift 34 = .ok (.iload_n 1, 1) := by decide +kernel
theorem d_W_shift_35 : decode b_W_shift 35 = .ok (.dup2, 1) := by decide +kernel
theorem d_W_shift_36 : decode b_W_shift 36 = .ok (.iaload, 1) := by decide +kernel
theorem d_W_shift_37 : decode b_W_shift 37 = .ok (.iload_n 3, 1) := by decide +kernel
theorem d_W_shift_38 : decode b_W_shift 38 = .ok (.iadd, 1) := by decide +kernel
theorem d_W_shift_39 : decode b_W_shift 39 = .ok (.iastore, 1) := by decide +kernel
theorem d_W_shift_40 : decode b_W_shift 40 = .ok (.return_, 1) := by decide +kernel
theorem d_W_writeNext_0 : decode b_W_writeNext 0 = .ok (.aload_n 0, 1) := by decide +kernel
theorem d_W_writeNext_1 : decode b_W_writeNext 1 = .ok (.getfield 9, 3) := by decide +kernel
theorem d_W_writeNext_4 : decode b_W_writeNext 4 = .ok (.aload_n 0, 1) := by decide +kernel
theorem d_W_writeNext_5 : decode b_W_writeNext 5 = .ok (.getfield 34, 3) := by decide +kernel
theorem d_W_writeNext_8 : decode b_W_writeNext 8 = .ok (.iload_n 1, 1) := by decide +kernel
theorem d_W_writeNext_9 : decode b_W_writeNext 9 = .ok (.iastore, 1) := by decide +kernel
theorem d_W_writeNext_10 : decode b_W_writeNext 10 = .ok (.aload_n 0, 1) := by decide +kernel
theorem d_W_writeNext_11 : decode b_W_writeNext 11 = .ok (.getfield 15, 3) := by decide +kernel
theorem d_W_writeNext_14 : decode b_W_writeNext 14 = .ok (.aload_n 0, 1) := by decide +kernel
theorem d_W_writeNext_15 : decode b_W_writeNext 15 = .ok (.getfield 34, 3) := by decide +kernel
theorem d_W_writeNext_18 : decode b_W_writeNext 18 = .ok (.iload_n 2, 1) := by decide +kernel
theorem d_W_writeNext_19 : decode b_W_writeNext 19 = .ok (.iastore, 1) := by decide +kernel
theorem d_W_writeNext_20 : decode b_W_writeNext 20 = .ok (.aload_n 0, 1) := by decide +kernel
theorem d_W_writeNext_21 : decode b_W_writeNext 21 = .ok (.getfield 18, 3) := by decide +kernel
theorem d_W_writeNext_24 : decode b_W_writeNext 24 = .ok (.aload_n 0, 1) := by decide +kernel
theorem d_W_writeNext_25 : decode b_W_writeNext 25 = .ok (.getfield 34, 3) := by decide +kernel
theorem d_W_writeNext_28 : decode b_W_writeNext 28 = .ok (.iload_n 3, 1) := by decide +kernel
theorem d_W_writeNext_29 : decode b_W_writeNext 29 = .ok (.iastore, 1) := by decide +kernel
theorem d_W_writeNext_30 : decode b_W_writeNext 30 = .ok (.aload_n 0, 1) := by decide +kernel
theorem d_W_writeNext_31 : decode b_W_writeNext 31 = .ok (.getfield 21, 3) := by decide +kernel
theorem d_W_writeNext_34 : decode b_W_writeNext 34 = .ok (.aload_n 0, 1) := by decide +kernel
theorem d_W_writeNext_35 : decode b_W_writeNext 35 = .ok (.getfield 34, 3) := by decide +kernel
theorem d_W_writeNext_38 : decode b_W_writeNext 38 = .ok (.iload 4, 2) := by decide +kernel
theorem d_W_writeNext_40 : decode b_W_writeNext 40 = .ok (.iastore, 1) := by decide +kernel
theorem d_W_writeNext_41 : decode b_W_writeNext 41 = .ok (.aload_n 0, 1) := by decide +kernel
theorem d_W_writeNext_42 : decode b_W_writeNext 42 = .ok (.getfield 24, 3) := by decide +kernel
theorem d_W_writeNext_45 : decode b_W_writeNext 45 = .ok (.aload_n 0, 1) := by decide +kernel
theorem d_W_writeNext_46 : decode b_W_writeNext 46 = .ok (.getfield 34, 3) := by decide +kernel
theorem d_W_writeNext_49 : decode b_W_writeNext 49 = .ok (.iload 5, 2) := by decide +kernel
theorem d_W_writeNext_51 : decode b_W_writeNext 51 = .ok (.iastore, 1) := by decide +kernel
theorem d_W_writeNext_52 : decode b_W_writeNext 52 = .ok (.aload_n 0, 1) := by decide +kernel
theorem d_W_writeNext_53 : decode b_W_writeNext 53 = .ok (.getfield 27, 3) := by decide +kernel
theorem d_W_writeNext_56 : decode b_W_writeNext 56 = .ok (.aload_n 0, 1) := by decide +kernel
theorem d_W_writeNext_57 : decode b_W_writeNext 57 = .ok (.getfield 34, 3) := by decide +kernel
theorem d_W_writeNext_60 : decode b_W_writeNext 60 = .ok (.iload 6, 2) := by decide +kernel
theorem d_W_writeNext_62 : decode b_W_writeNext 62 = .ok (.iastore, 1) := by decide +kernel
theorem d_W_writeNext_63 : decode b_W_writeNext 63 = .ok (.aload_n 0, 1) := by decide +kernel
theorem d_W_writeNext_64 : decode b_W_writeNext 64 = .ok (.getfield 30, 3) := by decide +kernel
theorem d_W_writeNext_67 : decode b_W_writeNext 67 = .ok (.aload_n 0, 1) := by decide +kernel
theorem d_W_writeNext_68 : decode b_W_writeNext 68 = .ok (.getfield 34, 3) := by decide +kernel
theorem d_W_writeNext_71 : decode b_W_writeNext 71 = .ok (.iconst 0, 1) := by decide +kernel
theorem d_W_writeNext_72 : decode b_W_writeNext 72 = .ok (.bastore, 1) := by decide +kernel
theorem d_W_writeNext_73 : decode b_W_writeNext 73 = .ok (.return_, 1) := by decide +kernel
theorem d_W_writeCopy_0 : decode b_W_writeCopy 0 = .ok (.aload_n 0, 1) := by decide +kernel
theorem d_W_writeCopy_1 : decode b_W_writeCopy 1 = .ok (.getfield 9, 3) := by decide +kernel
theorem d_W_writeCopy_4 : decode b_W_writeCopy 4 = .ok (.iload_n 2, 1) := by decide +kernel
theorem d_W_writeCopy_5 : decode b_W_writeCopy 5 = .ok (.iload_n 3, 1) := by decide +kernel
theorem d_W_writeCopy_6 : decode b_W_writeCopy 6 = .ok (.iastore, 1) := by decide +kernel
theorem d_W_writeCopy_7 : decode b_W_writeCopy 7 = .ok (.aload_n 0, 1) := by decide +kernel
theorem d_W_writeCopy_8 : decode b_W_writeCopy 8 = .ok (.getfield 15, 3) := by decide +kernel
theorem d_W_writeCopy_11 : decode b_W_writeCopy 11 = .ok (.iload_n 2, 1) := by decide +kernel
theorem d_W_writeCopy_12 : decode b_W_writeCopy 12 = .ok (.aload_n 0, 1) := by decide +kernel
theorem d_W_writeCopy_13 : decode b_W_writeCopy 13 = .ok (.getfield 15, 3) := by decide +kernel
theorem d_W_writeCopy_16 : decode b_W_writeCopy 16 = .ok (.iload_n 1, 1) := by decide +kernel
theorem d_W_writeCopy_17 : decode b_W_writeCopy 17 = .ok (.iaload, 1) := by decide +kernel
theorem d_W_writeCopy_18 : decode b_W_writeCopy 18 = .ok (.iastore, 1) := by decide +kernel
theorem d_W_writeCopy_19 : decode b_W_writeCopy 19 = .ok (.aload_n 0, 1) := by decide +kernel
theorem d_W_writeCopy_20 : decode b_W_writeCopy 20 = .ok (.getfield 18, 3) := by decide +kernel
theorem d_W_writeCopy_23 : decode b_W_writeCopy 23 = .ok (.iload_n 2, 1) := by decide +kernel
theorem d_W_writeCopy_24 : decode b_W_writeCopy 24 = .ok (.aload_n 0, 1) := by decide +kernel
theorem d_W_writeCopy_25 : decode b_W_writeCopy 25 = .ok (.getfield 18, 3) := by decide +kernel
theorem d_W_writeCopy_28 : decode b_W_writeCopy 28 = .ok (.iload_n 1, 1) := by decide +kernel
theorem d_W_writeCopy_29 : decode b_W_writeCopy 29 = .ok (.iaload, 1) := by decide +kernel
theorem d_W_writeCopy_30 : decode b_W_writeCopy 30 = .ok (.iastore, 1) := by decide +kernel
theorem d_W_writeCopy_31 : decode b_W_writeCopy 31 = .ok (.aload_n 0, 1) := by decide +kernel
theorem d_W_writeCopy_32 : decode b_W_writeCopy 32 = .ok (.getfield 21, 3) := by decide +kernel
theorem d_W_writeCopy_35 : decode b_W_writeCopy 35 = .ok (.iload_n 2, 1) := by decide +kernel
theorem d_W_writeCopy_36 : decode b_W_writeCopy 36 = .ok (.aload_n 0, 1) := by decide +kernel
theorem d_W_writeCopy_37 : decode b_W_writeCopy 37 = .ok (.getfield 21, 3) := by decide +kernel
theorem d_W_writeCopy_40 : decode b_W_writeCopy 40 = .ok (.iload_n 1, 1) := by decide +kernel
theorem d_W_writeCopy_41 : decode b_W_writeCopy 41 = .ok (.iaload, 1) := by decide +kernel
theorem d_W_writeCopy_42 : decode b_W_writeCopy 42 = .ok (.iastore, 1) := by decide +kernel
theorem d_W_writeCopy_43 : decode b_W_writeCopy 43 = .ok (.aload_n 0, 1) := by decide +kernel
theorem d_W_writeCopy_44 : decode b_W_writeCopy 44 = .ok (.getfield 24, 3) := by decide +kernel
theorem d_W_writeCopy_47 : decode b_W_writeCopy 47 = .ok (.iload_n 2, 1) := by decide +kernel
theorem d_W_writeCopy_48 : decode b_W_writeCopy 48 = .ok (.aload_n 0, 1) := by decide +kernel
theorem d_W_writeCopy_49 : decode b_W_writeCopy 49 = .ok (.getfield 24, 3) := by decide +kernel
theorem d_W_writeCopy_52 : decode b_W_writeCopy 52 = .ok (.iload_n 1, 1) := by decide +kernel
theorem d_W_writeCopy_53 : decode b_W_writeCopy 53 = .ok (.iaload, 1) := by decide +kernel
theorem d_W_writeCopy_54 : decode b_W_writeCopy 54 = .ok (.iastore, 1) := by decide +kernel
theorem d_W_writeCopy_55 : decode b_W_writeCopy 55 = .ok (.aload_n 0, 1) := by decide +kernel
theorem d_W_writeCopy_56 : decode b_W_writeCopy 56 = .ok (.getfield 27, 3) := by decide +kernel
theorem d_W_writeCopy_59 : decode b_W_writeCopy 59 = .ok (.iload_n 2, 1) := by decide +kernel
theorem d_W_writeCopy_60 : decode b_W_writeCopy 60 = .ok (.aload_n 0, 1) := by decide +kernel
theorem d_W_writeCopy_61 : decode b_W_writeCopy 61 = .ok (.getfield 27, 3) := by decide +kernel
theorem d_W_writeCopy_64 : decode b_W_writeCopy 64 = .ok (.iload_n 1, 1) := by decide +kernel
theorem d_W_writeCopy_65 : decode b_W_writeCopy 65 = .ok (.iaload, 1) := by decide +kernel
theorem d_W_writeCopy_66 : decode b_W_writeCopy 66 = .ok (.iastore, 1) := by decide +kernel
theorem d_W_writeCopy_67 : decode b_W_writeCopy 67 = .ok (.aload_n 0, 1) := by decide +kernel
theorem d_W_writeCopy_68 : decode b_W_writeCopy 68 = .ok (.getfield 30, 3) := by decide +kernel
theorem d_W_writeCopy_71 : decode b_W_writeCopy 71 = .ok (.iload_n 2, 1) := by decide +kernel
theorem d_W_writeCopy_72 : decode b_W_writeCopy 72 = .ok (.iconst 0, 1) := by decide +kernel
theorem d_W_writeCopy_73 : decode b_W_writeCopy 73 = .ok (.bastore, 1) := by decide +kernel
theorem d_W_writeCopy_74 : decode b_W_writeCopy 74 = .ok (.return_, 1) := by decide +kernel
theorem d_L_storey_0 : decode b_L_storey 0 = .ok (.aload_n 2, 1) := by decide +kernel
theorem d_L_storey_1 : decode b_L_storey 1 = .ok (.iconst 0, 1) := by decide +kernel
theorem d_L_storey_2 : decode b_L_storey 2 = .ok (.aload_n 0, 1) := by decide +kernel
theorem d_L_storey_3 : decode b_L_storey 3 = .ok (.iload_n 1, 1) := by decide +kernel
theorem d_L_storey_4 : decode b_L_storey 4 = .ok (.invokevirtual 7, 3) := by decide +kernel
theorem d_L_storey_7 : decode b_L_storey 7 = .ok (.i2l, 1) := by decide +kernel
theorem d_L_storey_8 : decode b_L_storey 8 = .ok (.lastore, 1) := by decide +kernel
theorem d_L_storey_9 : decode b_L_storey 9 = .ok (.goto 9, 3) := by decide +kernel
theorem d_L_storey_12 : decode b_L_storey 12 = .ok (.astore_n 3, 1) := by decide +kernel
theorem d_L_storey_13 : decode b_L_storey 13 = .ok (.iconst 1, 1) := by decide +kernel
theorem d_L_storey_14 : decode b_L_storey 14 = .ok (.ireturn, 1) := by decide +kernel
theorem d_L_storey_15 : decode b_L_storey 15 = .ok (.astore_n 3, 1) := by decide +kernel
theorem d_L_storey_16 : decode b_L_storey 16 = .ok (.iconst 2, 1) := by decide +kernel
theorem d_L_storey_17 : decode b_L_storey 17 = .ok (.ireturn, 1) := by decide +kernel
theorem d_L_storey_18 : decode b_L_storey 18 = .ok (.iconst 0, 1) := by decide +kernel
theorem d_L_storey_19 : decode b_L_storey 19 = .ok (.ireturn, 1) := by decide +kernel
theorem d_L_level_0 : decode b_L_level 0 = .ok (.aload_n 0, 1) := by decide +kernel
theorem d_L_level_1 : decode b_L_level 1 = .ok (.iload_n 1, 1) := by decide +kernel
theorem d_L_level_2 : decode b_L_level 2 = .ok (.iload_n 2, 1) := by decide +kernel
theorem d_L_level_3 : decode b_L_level 3 = .ok (.invokevirtual 17, 3) := by decide +kernel
theorem d_L_level_6 : decode b_L_level 6 = .ok (.goto 9, 3) := by decide +kernel
theorem d_L_level_9 : decode b_L_level 9 = .ok (.astore_n 3, 1) := by decide +kernel
theorem d_L_level_10 : decode b_L_level 10 = .ok (.iconst 1, 1) := by decide +kernel
theorem d_L_level_11 : decode b_L_level 11 = .ok (.ireturn, 1) := by decide +kernel
theorem d_L_level_12 : decode b_L_level 12 = .ok (.astore_n 3, 1) := by decide +kernel
theorem d_L_level_13 : decode b_L_level 13 = .ok (.iconst 2, 1) := by decide +kernel
theorem d_L_level_14 : decode b_L_level 14 = .ok (.ireturn, 1) := by decide +kernel
theorem d_L_level_15 : decode b_L_level 15 = .ok (.iconst 0, 1) := by decide +kernel
theorem d_L_level_16 : decode b_L_level 16 = .ok (.ireturn, 1) := by decide +kernel
theorem d_L_type_0 : decode b_L_type 0 = .ok (.aload_n 2, 1) := by decide +kernel
theorem d_L_type_1 : decode b_L_type 1 = .ok (.iconst 0, 1) := by decide +kernel
theorem d_L_type_2 : decode b_L_type 2 = .ok (.aload_n 0, 1) := by decide +kernel
theorem d_L_type_3 : decode b_L_type 3 = .ok (.iload_n 1, 1) := by decide +kernel
theorem d_L_type_4 : decode b_L_type 4 = .ok (.invokevirtual 21, 3) := by decide +kernel
theorem d_L_type_7 : decode b_L_type 7 = .ok (.i2l, 1) := by decide +kernel
theorem d_L_type_8 : decode b_L_type 8 = .ok (.lastore, 1) := by decide +kernel
theorem d_L_type_9 : decode b_L_type 9 = .ok (.goto 9, 3) := by decide +kernel
theorem d_L_type_12 : decode b_L_type 12 = .ok (.astore_n 3, 1) := by decide +kernel
theorem d_L_type_13 : decode b_L_type 13 = .ok (.iconst 1, 1) := by decide +kernel
theorem d_L_type_14 : decode b_L_type 14 = .ok (.ireturn, 1) := by decide +kernel
theorem d_L_type_15 : decode b_L_type 15 = .ok (.astore_n 3, 1) := by decide +kernel
theorem d_L_type_16 : decode b_L_type 16 = .ok (.iconst 2, 1) := by decide +kernel
theorem d_L_type_17 : decode b_L_type 17 = .ok (.ireturn, 1) := by decide +kernel
theorem d_L_type_18 : decode b_L_type 18 = .ok (.iconst 0, 1) := by decide +kernel
theorem d_L_type_19 : decode b_L_type 19 = .ok (.ireturn, 1) := by decide +kernel
theorem d_L_thickness_0 : decode b_L_thickness 0 = .ok (.aload_n 0, 1) := by decide +kernel
theorem d_L_thickness_1 : decode b_L_thickness 1 = .ok (.iload_n 1, 1) := by decide +kernel
theorem d_L_thickness_2 : decode b_L_thickness 2 = .ok (.iload_n 2, 1) := by decide +kernel
theorem d_L_thickness_3 : decode b_L_thickness 3 = .ok (.invokevirtual 24, 3) := by decide +kernel
theorem d_L_thickness_6 : decode b_L_thickness 6 = .ok (.goto 9, 3) := by decide +kernel
theorem d_L_thickness_9 : decode b_L_thickness 9 = .ok (.astore_n 3, 1) := by decide +kernel
theorem d_L_thickness_10 : decode b_L_thickness 10 = .ok (.iconst 1, 1) := by decide +kernel
theorem d_L_thickness_11 : decode b_L_thickness 11 = .ok (.ireturn, 1) := by decide +kernel
theorem d_L_thickness_12 : decode b_L_thickness 12 = .ok (.astore_n 3, 1) := by decide +kernel
theorem d_L_thickness_13 : decode b_L_thickness 13 = .ok (.iconst 2, 1) := by decide +kernel
theorem d_L_thickness_14 : decode b_L_thickness 14 = .ok (.ireturn, 1) := by decide +kernel
theorem d_L_thickness_15 : decode b_L_thickness 15 = .ok (.iconst 0, 1) := by decide +kernel
theorem d_L_thickness_16 : decode b_L_thickness 16 = .ok (.ireturn, 1) := by decide +kernel
theorem d_L_wall_0 : decode b_L_wall 0 = .ok (.aload 7, 2) := by decide +kernel
theorem d_L_wall_2 : decode b_L_wall 2 = .ok (.iconst 0, 1) := by decide +kernel
theorem d_L_wall_3 : decode b_L_wall 3 = .ok (.aload_n 0, 1) := by decide +kernel
theorem d_L_wall_4 : decode b_L_wall 4 = .ok (.iload_n 1, 1) := by decide +kernel
theorem d_L_wall_5 : decode b_L_wall 5 = .ok (.iload_n 2, 1) := by decide +kernel
theorem d_L_wall_6 : decode b_L_wall 6 = .ok (.iload_n 3, 1) := by decide +kernel
theorem d_L_wall_7 : decode b_L_wall 7 = .ok (.iload 4, 2) := by decide +kernel
theorem d_L_wall_9 : decode b_L_wall 9 = .ok (.iload 5, 2) := by decide +kernel
theorem d_L_wall_11 : decode b_L_wall 11 = .ok (.iload 6, 2) := by decide +kernel
theorem d_L_wall_13 : decode b_L_wall 13 = .ok (.invokevirtual 27, 3) := by decide +kernel
theorem d_L_wall_16 : decode b_L_wall 16 = .ok (.i2l, 1) := by decide +kernel
theorem d_L_wall_17 : decode b_L_wall 17 = .ok (.lastore, 1) := by decide +kernel
theorem d_L_wall_18 : decode b_L_wall 18 = .ok (.goto 11, 3) := by decide +kernel
theorem d_L_wall_21 : decode b_L_wall 21 = .ok (.astore 8, 2) := by decide +kernel
theorem d_L_wall_23 : decode b_L_wall 23 = .ok (.iconst 1, 1) := by decide +kernel
theorem d_L_wall_24 : decode b_L_wall 24 = .ok (.ireturn, 1) := by decide +kernel
theorem d_L_wall_25 : decode b_L_wall 25 = .ok (.astore 8, 2) := by decide +kernel
theorem d_L_wall_27 : decode b_L_wall 27 = .ok (.iconst 2, 1) := by decide +kernel
theorem d_L_wall_28 : decode b_L_wall 28 = .ok (.ireturn, 1) := by decide +kernel
theorem d_L_wall_29 : decode b_L_wall 29 = .ok (.iconst 0, 1) := by decide +kernel
theorem d_L_wall_30 : decode b_L_wall 30 = .ok (.ireturn, 1) := by decide +kernel
theorem d_L_move_0 : decode b_L_move 0 = .ok (.aload_n 0, 1) := by decide +kernel
theorem d_L_move_1 : decode b_L_move 1 = .ok (.iload_n 1, 1) := by decide +kernel
theorem d_L_move_2 : decode b_L_move 2 = .ok (.iload_n 2, 1) := by decide +kernel
theorem d_L_move_3 : decode b_L_move 3 = .ok (.iload_n 3, 1) := by decide +kernel
theorem d_L_move_4 : decode b_L_move 4 = .ok (.invokevirtual 31, 3) := by decide +kernel
theorem d_L_move_7 : decode b_L_move 7 = .ok (.goto 11, 3) := by decide +kernel
theorem d_L_move_10 : decode b_L_move 10 = .ok (.astore 4, 2) := by decide +kernel
theorem d_L_move_12 : decode b_L_move 12 = .ok (.iconst 1, 1) := by decide +kernel
theorem d_L_move_13 : decode b_L_move 13 = .ok (.ireturn, 1) := by decide +kernel
theorem d_L_move_14 : decode b_L_move 14 = .ok (.astore 4, 2) := by decide +kernel
theorem d_L_move_16 : decode b_L_move 16 = .ok (.iconst 2, 1) := by decide +kernel
theorem d_L_move_17 : decode b_L_move 17 = .ok (.ireturn, 1) := by decide +kernel
theorem d_L_move_18 : decode b_L_move 18 = .ok (.iconst 0, 1) := by decide +kernel
theorem d_L_move_19 : decode b_L_move 19 = .ok (.ireturn, 1) := by decide +kernel
theorem d_L_retype_0 : decode b_L_retype 0 = .ok (.aload_n 0, 1) := by decide +kernel
theorem d_L_retype_1 : decode b_L_retype 1 = .ok (.iload_n 1, 1) := by decide +kernel
theorem d_L_retype_2 : decode b_L_retype 2 = .ok (.iload_n 2, 1) := by decide +kernel
theorem d_L_retype_3 : decode b_L_retype 3 = .ok (.invokevirtual 35, 3) := by decide +kernel
theorem d_L_retype_6 : decode b_L_retype 6 = .ok (.goto 9, 3) := by decide +kernel
theorem d_L_retype_9 : decode b_L_retype 9 = .ok (.astore_n 3, 1) := by decide +kernel
theorem d_L_retype_10 : decode b_L_retype 10 = .ok (.iconst 1, 1) := by decide +kernel
theorem d_L_retype_11 : decode b_L_retype 11 = .ok (.ireturn, 1) := by decide +kernel
theorem d_L_retype_12 : decode b_L_retype 12 = .ok (.astore_n 3, 1) := by decide +kernel
theorem d_L_retype_13 : decode b_L_retype 13 = .ok (.iconst 2, 1) := by decide +kernel
theorem d_L_retype_14 : decode b_L_retype 14 = .ok (.ireturn, 1) := by decide +kernel
theorem d_L_retype_15 : decode b_L_retype 15 = .ok (.iconst 0, 1) := by decide +kernel
theorem d_L_retype_16 : decode b_L_retype 16 = .ok (.ireturn, 1) := by decide +kernel
theorem d_L_remove_0 : decode b_L_remove 0 = .ok (.aload_n 0, 1) := by decide +kernel
theorem d_L_remove_1 : decode b_L_remove 1 = .ok (.iload_n 1, 1) := by decide +kernel
theorem d_L_remove_2 : decode b_L_remove 2 = .ok (.invokevirtual 38, 3) := by decide +kernel
theorem d_L_remove_5 : decode b_L_remove 5 = .ok (.goto 9, 3) := by decide +kernel
theorem d_L_remove_8 : decode b_L_remove 8 = .ok (.astore_n 2, 1) := by decide +kernel
theorem d_L_remove_9 : decode b_L_remove 9 = .ok (.iconst 1, 1) := by decide +kernel
theorem d_L_remove_10 : decode b_L_remove 10 = .ok (.ireturn, 1) := by decide +kernel
theorem d_L_remove_11 : decode b_L_remove 11 = .ok (.astore_n 2, 1) := by decide +kernel
theorem d_L_remove_12 : decode b_L_remove 12 = .ok (.iconst 2, 1) := by decide +kernel
theorem d_L_remove_13 : decode b_L_remove 13 = .ok (.ireturn, 1) := by decide +kernel
theorem d_L_remove_14 : decode b_L_remove 14 = .ok (.iconst 0, 1) := by decide +kernel
theorem d_L_remove_15 : decode b_L_remove 15 = .ok (.ireturn, 1) := by decide +kernel
theorem d_L_opening_0 : decode b_L_opening 0 = .ok (.aload 4, 2) := by decide +kernel
theorem d_L_opening_2 : decode b_L_opening 2 = .ok (.iconst 0, 1) := by decide +kernel
theorem d_L_opening_3 : decode b_L_opening 3 = .ok (.aload_n 0, 1) := by decide +kernel
theorem d_L_opening_4 : decode b_L_opening 4 = .ok (.iload_n 1, 1) := by decide +kernel
theorem d_L_opening_5 : decode b_L_opening 5 = .ok (.iload_n 2, 1) := by decide +kernel
theorem d_L_opening_6 : decode b_L_opening 6 = .ok (.iload_n 3, 1) := by decide +kernel
theorem d_L_opening_7 : decode b_L_opening 7 = .ok (.invokevirtual 42, 3) := by decide +kernel
theorem d_L_opening_10 : decode b_L_opening 10 = .ok (.i2l, 1) := by decide +kernel
theorem d_L_opening_11 : decode b_L_opening 11 = .ok (.lastore, 1) := by decide +kernel
theorem d_L_opening_12 : decode b_L_opening 12 = .ok (.goto 11, 3) := by decide +kernel
theorem d_L_opening_15 : decode b_L_opening 15 = .ok (.astore 5, 2) := by decide +kernel
theorem d_L_opening_17 : decode b_L_opening 17 = .ok (.iconst 1, 1) := by decide +kernel
theorem d_L_opening_18 : decode b_L_opening 18 = .ok (.ireturn, 1) := by decide +kernel
theorem d_L_opening_19 : decode b_L_opening 19 = .ok (.astore 5, 2) := by decide +kernel
theorem d_L_opening_21 : decode b_L_opening 21 = .ok (.iconst 2, 1) := by decide +kernel
theorem d_L_opening_22 : decode b_L_opening 22 = .ok (.ireturn, 1) := by decide +kernel
theorem d_L_opening_23 : decode b_L_opening 23 = .ok (.iconst 0, 1) := by decide +kernel
theorem d_L_opening_24 : decode b_L_opening 24 = .ok (.ireturn, 1) := by decide +kernel
theorem d_L_copy_0 : decode b_L_copy 0 = .ok (.aload_n 3, 1) := by decide +kernel
theorem d_L_copy_1 : decode b_L_copy 1 = .ok (.iconst 0, 1) := by decide +kernel
theorem d_L_copy_2 : decode b_L_copy 2 = .ok (.aload_n 0, 1) := by decide +kernel
theorem d_L_copy_3 : decode b_L_copy 3 = .ok (.iload_n 1, 1) := by decide +kernel
theorem d_L_copy_4 : decode b_L_copy 4 = .ok (.iload_n 2, 1) := by decide +kernel
theorem d_L_copy_5 : decode b_L_copy 5 = .ok (.invokevirtual 46, 3) := by decide +kernel
theorem d_L_copy_8 : decode b_L_copy 8 = .ok (.i2l, 1) := by decide +kernel
theorem d_L_copy_9 : decode b_L_copy 9 = .ok (.lastore, 1) := by decide +kernel
theorem d_L_copy_10 : decode b_L_copy 10 = .ok (.goto 11, 3) := by decide +kernel
theorem d_L_copy_13 : decode b_L_copy 13 = .ok (.astore 4, 2) := by decide +kernel
theorem d_L_copy_15 : decode b_L_copy 15 = .ok (.iconst 1, 1) := by decide +kernel
theorem d_L_copy_16 : decode b_L_copy 16 = .ok (.ireturn, 1) := by decide +kernel
theorem d_L_copy_17 : decode b_L_copy 17 = .ok (.astore 4, 2) := by decide +kernel
theorem d_L_copy_19 : decode b_L_copy 19 = .ok (.iconst 2, 1) := by decide +kernel
theorem d_L_copy_20 : decode b_L_copy 20 = .ok (.ireturn, 1) := by decide +kernel
theorem d_L_copy_21 : decode b_L_copy 21 = .ok (.iconst 0, 1) := by decide +kernel
theorem d_L_copy_22 : decode b_L_copy 22 = .ok (.ireturn, 1) := by decide +kernel
theorem d_L_acts_0 : decode b_L_acts 0 = .ok (.aload_n 2, 1) := by decide +kernel
theorem d_L_acts_1 : decode b_L_acts 1 = .ok (.iconst 0, 1) := by decide +kernel
theorem d_L_acts_2 : decode b_L_acts 2 = .ok (.aload_n 0, 1) := by decide +kernel
theorem d_L_acts_3 : decode b_L_acts 3 = .ok (.iload_n 1, 1) := by decide +kernel
theorem d_L_acts_4 : decode b_L_acts 4 = .ok (.invokevirtual 50, 3) := by decide +kernel
theorem d_L_acts_7 : decode b_L_acts 7 = .ok (.i2l, 1) := by decide +kernel
theorem d_L_acts_8 : decode b_L_acts 8 = .ok (.lastore, 1) := by decide +kernel
theorem d_L_acts_9 : decode b_L_acts 9 = .ok (.goto 6, 3) := by decide +kernel
theorem d_L_acts_12 : decode b_L_acts 12 = .ok (.astore_n 3, 1) := by decide +kernel
theorem d_L_acts_13 : decode b_L_acts 13 = .ok (.iconst 1, 1) := by decide +kernel
theorem d_L_acts_14 : decode b_L_acts 14 = .ok (.ireturn, 1) := by decide +kernel
theorem d_L_acts_15 : decode b_L_acts 15 = .ok (.iconst 0, 1) := by decide +kernel
theorem d_L_acts_16 : decode b_L_acts 16 = .ok (.ireturn, 1) := by decide +kernel
theorem d_L_many_0 : decode b_L_many 0 = .ok (.aload_n 2, 1) := by decide +kernel
theorem d_L_many_1 : decode b_L_many 1 = .ok (.iconst 0, 1) := by decide +kernel
theorem d_L_many_2 : decode b_L_many 2 = .ok (.aload_n 0, 1) := by decide +kernel
theorem d_L_many_3 : decode b_L_many 3 = .ok (.iload_n 1, 1) := by decide +kernel
theorem d_L_many_4 : decode b_L_many 4 = .ok (.invokevirtual 53, 3) := by decide +kernel
theorem d_L_many_7 : decode b_L_many 7 = .ok (.i2l, 1) := by decide +kernel
theorem d_L_many_8 : decode b_L_many 8 = .ok (.lastore, 1) := by decide +kernel
theorem d_L_many_9 : decode b_L_many 9 = .ok (.goto 6, 3) := by decide +kernel
theorem d_L_many_12 : decode b_L_many 12 = .ok (.astore_n 3, 1) := by decide +kernel
theorem d_L_many_13 : decode b_L_many 13 = .ok (.iconst 1, 1) := by decide +kernel
theorem d_L_many_14 : decode b_L_many 14 = .ok (.ireturn, 1) := by decide +kernel
theorem d_L_many_15 : decode b_L_many 15 = .ok (.iconst 0, 1) := by decide +kernel
theorem d_L_many_16 : decode b_L_many 16 = .ok (.ireturn, 1) := by decide +kernel
theorem d_L_wallAt_0 : decode b_L_wallAt 0 = .ok (.aload_n 3, 1) := by decide +kernel
theorem d_L_wallAt_1 : decode b_L_wallAt 1 = .ok (.iconst 0, 1) := by decide +kernel
theorem d_L_wallAt_2 : decode b_L_wallAt 2 = .ok (.aload_n 0, 1) := by decide +kernel
theorem d_L_wallAt_3 : decode b_L_wallAt 3 = .ok (.iload_n 1, 1) := by decide +kernel
theorem d_L_wallAt_4 : decode b_L_wallAt 4 = .ok (.iload_n 2, 1) := by decide +kernel
theorem d_L_wallAt_5 : decode b_L_wallAt 5 = .ok (.invokevirtual 56, 3) := by decide +kernel
theorem d_L_wallAt_8 : decode b_L_wallAt 8 = .ok (.lastore, 1) := by decide +kernel
theorem d_L_wallAt_9 : decode b_L_wallAt 9 = .ok (.goto 7, 3) := by decide +kernel
theorem d_L_wallAt_12 : decode b_L_wallAt 12 = .ok (.astore 4, 2) := by decide +kernel
theorem d_L_wallAt_14 : decode b_L_wallAt 14 = .ok (.iconst 1, 1) := by decide +kernel
theorem d_L_wallAt_15 : decode b_L_wallAt 15 = .ok (.ireturn, 1) := by decide +kernel
theorem d_L_wallAt_16 : decode b_L_wallAt 16 = .ok (.iconst 0, 1) := by decide +kernel
theorem d_L_wallAt_17 : decode b_L_wallAt 17 = .ok (.ireturn, 1) := by decide +kernel
theorem d_L_openingAt_0 : decode b_L_openingAt 0 = .ok (.aload_n 3, 1) := by decide +kernel
theorem d_L_openingAt_1 : decode b_L_openingAt 1 = .ok (.iconst 0, 1) := by decide +kernel
theorem d_L_openingAt_2 : decode b_L_openingAt 2 = .ok (.aload_n 0, 1) := by decide +kernel
theorem d_L_openingAt_3 : decode b_L_openingAt 3 = .ok (.iload_n 1, 1) := by decide +kernel
theorem d_L_openingAt_4 : decode b_L_openingAt 4 = .ok (.iload_n 2, 1) := by decide +kernel
theorem d_L_openingAt_5 : decode b_L_openingAt 5 = .ok (.invokevirtual 60, 3) := by decide +kernel
theorem d_L_openingAt_8 : decode b_L_openingAt 8 = .ok (.i2l, 1) := by decide +kernel
theorem d_L_openingAt_9 : decode b_L_openingAt 9 = .ok (.lastore, 1) := by decide +kernel
theorem d_L_openingAt_10 : decode b_L_openingAt 10 = .ok (.goto 7, 3) := by decide +kernel
theorem d_L_openingAt_13 : decode b_L_openingAt 13 = .ok (.astore 4, 2) := by decide +kernel
theorem d_L_openingAt_15 : decode b_L_openingAt 15 = .ok (.iconst 1, 1) := by decide +kernel
theorem d_L_openingAt_16 : decode b_L_openingAt 16 = .ok (.ireturn, 1) := by decide +kernel
theorem d_L_openingAt_17 : decode b_L_openingAt 17 = .ok (.iconst 0, 1) := by decide +kernel
theorem d_L_openingAt_18 : decode b_L_openingAt 18 = .ok (.ireturn, 1) := by decide +kernel
theorem d_L_storeyAt_0 : decode b_L_storeyAt 0 = .ok (.aload_n 3, 1) := by decide +kernel
theorem d_L_storeyAt_1 : decode b_L_storeyAt 1 = .ok (.iconst 0, 1) := by decide +kernel
theorem d_L_storeyAt_2 : decode b_L_storeyAt 2 = .ok (.aload_n 0, 1) := by decide +kernel
theorem d_L_storeyAt_3 : decode b_L_storeyAt 3 = .ok (.iload_n 1, 1) := by decide +kernel
theorem d_L_storeyAt_4 : decode b_L_storeyAt 4 = .ok (.iload_n 2, 1) := by decide +kernel
theorem d_L_storeyAt_5 : decode b_L_storeyAt 5 = .ok (.invokevirtual 63, 3) := by decide +kernel
theorem d_L_storeyAt_8 : decode b_L_storeyAt 8 = .ok (.lastore, 1) := by decide +kernel
theorem d_L_storeyAt_9 : decode b_L_storeyAt 9 = .ok (.goto 7, 3) := by decide +kernel
theorem d_L_storeyAt_12 : decode b_L_storeyAt 12 = .ok (.astore 4, 2) := by decide +kernel
theorem d_L_storeyAt_14 : decode b_L_storeyAt 14 = .ok (.iconst 1, 1) := by decide +kernel
theorem d_L_storeyAt_15 : decode b_L_storeyAt 15 = .ok (.ireturn, 1) := by decide +kernel
theorem d_L_storeyAt_16 : decode b_L_storeyAt 16 = .ok (.iconst 0, 1) := by decide +kernel
theorem d_L_storeyAt_17 : decode b_L_storeyAt 17 = .ok (.ireturn, 1) := by decide +kernel
theorem d_L_typeAt_0 : decode b_L_typeAt 0 = .ok (.aload_n 3, 1) := by decide +kernel
theorem d_L_typeAt_1 : decode b_L_typeAt 1 = .ok (.iconst 0, 1) := by decide +kernel
theorem d_L_typeAt_2 : decode b_L_typeAt 2 = .ok (.aload_n 0, 1) := by decide +kernel
theorem d_L_typeAt_3 : decode b_L_typeAt 3 = .ok (.iload_n 1, 1) := by decide +kernel
theorem d_L_typeAt_4 : decode b_L_typeAt 4 = .ok (.iload_n 2, 1) := by decide +kernel
theorem d_L_typeAt_5 : decode b_L_typeAt 5 = .ok (.invokevirtual 66, 3) := by decide +kernel
theorem d_L_typeAt_8 : decode b_L_typeAt 8 = .ok (.lastore, 1) := by decide +kernel
theorem d_L_typeAt_9 : decode b_L_typeAt 9 = .ok (.goto 7, 3) := by decide +kernel
theorem d_L_typeAt_12 : decode b_L_typeAt 12 = .ok (.astore 4, 2) := by decide +kernel
theorem d_L_typeAt_14 : decode b_L_typeAt 14 = .ok (.iconst 1, 1) := by decide +kernel
theorem d_L_typeAt_15 : decode b_L_typeAt 15 = .ok (.ireturn, 1) := by decide +kernel
theorem d_L_typeAt_16 : decode b_L_typeAt 16 = .ok (.iconst 0, 1) := by decide +kernel
theorem d_L_typeAt_17 : decode b_L_typeAt 17 = .ok (.ireturn, 1) := by decide +kernel
theorem d_L_body_0 : decode b_L_body 0 = .ok (.aload 5, 2) := by decide +kernel
theorem d_L_body_2 : decode b_L_body 2 = .ok (.iconst 0, 1) := by decide +kernel
theorem d_L_body_3 : decode b_L_body 3 = .ok (.aload_n 0, 1) := by decide +kernel
theorem d_L_body_4 : decode b_L_body 4 = .ok (.iload_n 1, 1) := by decide +kernel
theorem d_L_body_5 : decode b_L_body 5 = .ok (.iload_n 2, 1) := by decide +kernel
theorem d_L_body_6 : decode b_L_body 6 = .ok (.iload_n 3, 1) := by decide +kernel
theorem d_L_body_7 : decode b_L_body 7 = .ok (.iload 4, 2) := by decide +kernel
theorem d_L_body_9 : decode b_L_body 9 = .ok (.invokevirtual 69, 3) := by decide +kernel
theorem d_L_body_12 : decode b_L_body 12 = .ok (.i2l, 1) := by decide +kernel
theorem d_L_body_13 : decode b_L_body 13 = .ok (.lastore, 1) := by decide +kernel
theorem d_L_body_14 : decode b_L_body 14 = .ok (.goto 7, 3) := by decide +kernel
theorem d_L_body_17 : decode b_L_body 17 = .ok (.astore 6, 2) := by decide +kernel
theorem d_L_body_19 : decode b_L_body 19 = .ok (.iconst 1, 1) := by decide +kernel
theorem d_L_body_20 : decode b_L_body 20 = .ok (.ireturn, 1) := by decide +kernel
theorem d_L_body_21 : decode b_L_body 21 = .ok (.iconst 0, 1) := by decide +kernel
theorem d_L_body_22 : decode b_L_body 22 = .ok (.ireturn, 1) := by decide +kernel
theorem d_L_law_0 : decode b_L_law 0 = .ok (.new 8, 3) := by decide +kernel
theorem d_L_law_3 : decode b_L_law 3 = .ok (.dup, 1) := by decide +kernel
theorem d_L_law_4 : decode b_L_law 4 = .ok (.invokespecial 73, 3) := by decide +kernel
theorem d_L_law_7 : decode b_L_law 7 = .ok (.astore_n 1, 1) := by decide +kernel
theorem d_L_law_8 : decode b_L_law 8 = .ok (.new 74, 3) := by decide +kernel
theorem d_L_law_11 : decode b_L_law 11 = .ok (.dup, 1) := by decide +kernel
theorem d_L_law_12 : decode b_L_law 12 = .ok (.invokespecial 76, 3) := by decide +kernel
theorem d_L_law_15 : decode b_L_law 15 = .ok (.astore_n 2, 1) := by decide +kernel
theorem d_L_law_16 : decode b_L_law 16 = .ok (.iconst 1, 1) := by decide +kernel
theorem d_L_law_17 : decode b_L_law 17 = .ok (.newarray .long, 2) := by decide +kernel
theorem d_L_law_19 : decode b_L_law 19 = .ok (.astore_n 3, 1) := by decide +kernel
theorem d_L_law_20 : decode b_L_law 20 = .ok (.iconst 0, 1) := by decide +kernel
theorem d_L_law_21 : decode b_L_law 21 = .ok (.istore 4, 2) := by decide +kernel
theorem d_L_law_23 : decode b_L_law 23 = .ok (.iload 4, 2) := by decide +kernel
theorem d_L_law_25 : decode b_L_law 25 = .ok (.aload_n 0, 1) := by decide +kernel
theorem d_L_law_26 : decode b_L_law 26 = .ok (.arraylength, 1) := by decide +kernel
theorem d_L_law_27 : decode b_L_law 27 = .ok (.bipush 7, 2) := by decide +kernel
theorem d_L_law_29 : decode b_L_law 29 = .ok (.isub, 1) := by decide +kernel
theorem d_L_law_30 : decode b_L_law 30 = .ok (.if_icmp .gt 1225, 3) := by decide +kernel
theorem d_L_law_33 : decode b_L_law 33 = .ok (.aload_n 0, 1) := by decide +kernel
theorem d_L_law_34 : decode b_L_law 34 = .ok (.iload 4, 2) := by decide +kernel
theorem d_L_law_36 : decode b_L_law 36 = .ok (.iaload, 1) := by decide +kernel
theorem d_L_law_37 : decode b_L_law 37 = .ok (.bipush 31, 2) := by decide +kernel
theorem d_L_law_39 : decode b_L_law 39 = .ok (.iand, 1) := by decide +kernel
theorem d_L_law_40 : decode b_L_law 40 = .ok (.tableswitch 1209 0 18 #[92, 148, 196, 252, 300, 418, 478, 526, 562, 642, 710, 723, 736, 792, 848, 915, 983, 1050, 1117], 92) := by decide +kernel
theorem d_L_law_132 : decode b_L_law 132 = .ok (.aload_n 1, 1) := by decide +kernel
theorem d_L_law_133 : decode b_L_law 133 = .ok (.aload_n 0, 1) := by decide +kernel
theorem d_L_law_134 : decode b_L_law 134 = .ok (.iload 4, 2) := by decide +kernel
theorem d_L_law_136 : decode b_L_law 136 = .ok (.iconst 1, 1) := by decide +kernel
theorem d_L_law_137 : decode b_L_law 137 = .ok (.iadd, 1) := by decide +kernel
theorem d_L_law_138 : decode b_L_law 138 = .ok (.iaload, 1) := by decide +kernel
theorem d_L_law_139 : decode b_L_law 139 = .ok (.aload_n 3, 1) := by decide +kernel
theorem d_L_law_140 : decode b_L_law 140 = .ok (.invokestatic 77, 3) := by decide +kernel
theorem d_L_law_143 : decode b_L_law 143 = .ok (.istore 5, 2) := by decide +kernel
theorem d_L_law_145 : decode b_L_law 145 = .ok (.aload_n 2, 1) := by decide +kernel
theorem d_L_law_146 : decode b_L_law 146 = .ok (.aload_n 0, 1) := by decide +kernel
theorem d_L_law_147 : decode b_L_law 147 = .ok (.iload 4, 2) := by decide +kernel
theorem d_L_law_149 : decode b_L_law 149 = .ok (.iconst 1, 1) := by decide +kernel
theorem d_L_law_150 : decode b_L_law 150 = .ok (.iadd, 1) := by decide +kernel
theorem d_L_law_151 : decode b_L_law 151 = .ok (.iaload, 1) := by decide +kernel
theorem d_L_law_152 : decode b_L_law 152 = .ok (.invokevirtual 82, 3) := by decide +kernel
theorem d_L_law_155 : decode b_L_law 155 = .ok (.istore 6, 2) := by decide +kernel
theorem d_L_law_157 : decode b_L_law 157 = .ok (.aload_n 2, 1) := by decide +kernel
theorem d_L_law_158 : decode b_L_law 158 = .ok (.invokevirtual 83, 3) := by decide +kernel
theorem d_L_law_161 : decode b_L_law 161 = .ok (.iload 5, 2) := by decide +kernel
theorem d_L_law_163 : decode b_L_law 163 = .ok (.if_icmp .eq 5, 3) := by decide +kernel
theorem d_L_law_166 : decode b_L_law 166 = .ok (.iconst 0, 1) := by decide +kernel
theorem d_L_law_167 : decode b_L_law 167 = .ok (.ireturn, 1) := by decide +kernel
theorem d_L_law_168 : decode b_L_law 168 = .ok (.iload 5, 2) := by decide +kernel
theorem d_L_law_170 : decode b_L_law 170 = .ok (.ifCond .ne 15, 3) := by decide +kernel
theorem d_L_law_173 : decode b_L_law 173 = .ok (.aload_n 3, 1) := by decide +kernel
theorem d_L_law_174 : decode b_L_law 174 = .ok (.iconst 0, 1) := by decide +kernel
theorem d_L_law_175 : decode b_L_law 175 = .ok (.laload, 1) := by decide +kernel
theorem d_L_law_176 : decode b_L_law 176 = .ok (.iload 6, 2) := by decide +kernel
theorem d_L_law_178 : decode b_L_law 178 = .ok (.i2l, 1) := by decide +kernel
theorem d_L_law_179 : decode b_L_law 179 = .ok (.lcmp, 1) := by decide +kernel
theorem d_L_law_180 : decode b_L_law 180 = .ok (.ifCond .eq 5, 3) := by decide +kernel
theorem d_L_law_183 : decode b_L_law 183 = .ok (.iconst 0, 1) := by decide +kernel
theorem d_L_law_184 : decode b_L_law 184 = .ok (.ireturn, 1) := by decide +kernel
theorem d_L_law_185 : decode b_L_law 185 = .ok (.goto 1064, 3) := by decide +kernel
theorem d_L_law_188 : decode b_L_law 188 = .ok (.aload_n 1, 1) := by decide +kernel
theorem d_L_law_189 : decode b_L_law 189 = .ok (.aload_n 0, 1) := by decide +kernel
theorem d_L_law_190 : decode b_L_law 190 = .ok (.iload 4, 2) := by decide +kernel
theorem d_L_law_192 : decode b_L_law 192 = .ok (.iconst 1, 1) := by decide +kernel
theorem d_L_law_193 : decode b_L_law 193 = .ok (.iadd, 1) := by decide +kernel
theorem d_L_law_194 : decode b_L_law 194 = .ok (.iaload, 1) := by decide +kernel
theorem d_L_law_195 : decode b_L_law 195 = .ok (.aload_n 0, 1) := by decide +kernel
theorem d_L_law_196 : decode b_L_law 196 = .ok (.iload 4, 2) := by decide +kernel
theorem d_L_law_198 : decode b_L_law 198 = .ok (.iconst 2, 1) := by decide +kernel
theorem d_L_law_199 : decode b_L_law 199 = .ok (.iadd, 1) := by decide +kernel
theorem d_L_law_200 : decode b_L_law 200 = .ok (.iaload, 1) := by decide +kernel
theorem d_L_law_201 : decode b_L_law 201 = .ok (.invokestatic 87, 3) := by decide +kernel
theorem d_L_law_204 : decode b_L_law 204 = .ok (.istore 5, 2) := by decide +kernel
theorem d_L_law_206 : decode b_L_law 206 = .ok (.aload_n 2, 1) := by decide +kernel
theorem d_L_law_207 : decode b_L_law 207 = .ok (.aload_n 0, 1) := by decide +kernel
theorem d_L_law_208 : decode b_L_law 208 = .ok (.iload 4, 2) := by decide +kernel
theorem d_L_law_210 : decode b_L_law 210 = .ok (.iconst 1, 1) := by decide +kernel
theorem d_L_law_211 : decode b_L_law 211 = .ok (.iadd, 1) := by decide +kernel
theorem d_L_law_212 : decode b_L_law 212 = .ok (.iaload, 1) := by decide +kernel
theorem d_L_law_213 : decode b_L_law 213 = .ok (.aload_n 0, 1) := by decide +kernel
theorem d_L_law_214 : decode b_L_law 214 = .ok (.iload 4, 2) := by decide +kernel
theorem d_L_law_216 : decode b_L_law 216 = .ok (.iconst 2, 1) := by decide +kernel
theorem d_L_law_217 : decode b_L_law 217 = .ok (.iadd, 1) := by decide +kernel
theorem d_L_law_218 : decode b_L_law 218 = .ok (.iaload, 1) := by decide +kernel
theorem d_L_law_219 : decode b_L_law 219 = .ok (.invokevirtual 90, 3) := by decide +kernel
theorem d_L_law_222 : decode b_L_law 222 = .ok (.aload_n 2, 1) := by decide +kernel
theorem d_L_law_223 : decode b_L_law 223 = .ok (.invokevirtual 83, 3) := by decide +kernel
theorem d_L_law_226 : decode b_L_law 226 = .ok (.iload 5, 2) := by decide +kernel
theorem d_L_law_228 : decode b_L_law 228 = .ok (.if_icmp .eq 5, 3) := by decide +kernel
theorem d_L_law_231 : decode b_L_law 231 = .ok (.iconst 0, 1) := by decide +kernel
theorem d_L_law_232 : decode b_L_law 232 = .ok (.ireturn, 1) := by decide +kernel
theorem d_L_law_233 : decode b_L_law 233 = .ok (.goto 1016, 3) := by decide +kernel
theorem d_L_law_236 : decode b_L_law 236 = .ok (.aload_n 1, 1) := by decide +kernel
theorem d_L_law_237 : decode b_L_law 237 = .ok (.aload_n 0, 1) := by decide +kernel
theorem d_L_law_238 : decode b_L_law 238 = .ok (.iload 4, 2) := by decide +kernel
theorem d_L_law_240 : decode b_L_law 240 = .ok (.iconst 1, 1) := by decide +kernel
theorem d_L_law_241 : decode b_L_law 241 = .ok (.iadd, 1) := by decide +kernel
theorem d_L_law_242 : decode b_L_law 242 = .ok (.iaload, 1) := by decide +kernel
theorem d_L_law_243 : decode b_L_law 243 = .ok (.aload_n 3, 1) := by decide +kernel
theorem d_L_law_244 : decode b_L_law 244 = .ok (.invokestatic 91, 3) := by decide +kernel
theorem d_L_law_247 : decode b_L_law 247 = .ok (.istore 5, 2) := by decide +kernel
theorem d_L_law_249 : decode b_L_law 249 = .ok (.aload_n 2, 1) := by decide +kernel
theorem d_L_law_250 : decode b_L_law 250 = .ok (.aload_n 0, 1) := by decide +kernel
theorem d_L_law_251 : decode b_L_law 251 = .ok (.iload 4, 2) := by decide +kernel
theorem d_L_law_253 : decode b_L_law 253 = .ok (.iconst 1, 1) := by decide +kernel
theorem d_L_law_254 : decode b_L_law 254 = .ok (.iadd, 1) := by decide +kernel
theorem d_L_law_255 : decode b_L_law 255 = .ok (.iaload, 1) := by decide +kernel
theorem d_L_law_256 : decode b_L_law 256 = .ok (.invokevirtual 93, 3) := by decide +kernel
theorem d_L_law_259 : decode b_L_law 259 = .ok (.istore 6, 2) := by decide +kernel
theorem d_L_law_261 : decode b_L_law 261 = .ok (.aload_n 2, 1) := by decide +kernel
theorem d_L_law_262 : decode b_L_law 262 = .ok (.invokevirtual 83, 3) := by decide +kernel
theorem d_L_law_265 : decode b_L_law 265 = .ok (.iload 5, 2) := by decide +kernel
theorem d_L_law_267 : decode b_L_law 267 = .ok (.if_icmp .eq 5, 3) := by decide +kernel
theorem d_L_law_270 : decode b_L_law 270 = .ok (.iconst 0, 1) := by decide +kernel
theorem d_L_law_271 : decode b_L_law 271 = .ok (.ireturn, 1) := by decide +kernel
theorem d_L_law_272 : decode b_L_law 272 = .ok (.iload 5, 2) := by decide +kernel
theorem d_L_law_274 : decode b_L_law 274 = .ok (.ifCond .ne 15, 3) := by decide +kernel
theorem d_L_law_277 : decode b_L_law 277 = .ok (.aload_n 3, 1) := by decide +kernel
theorem d_L_law_278 : decode b_L_law 278 = .ok (.iconst 0, 1) := by decide +kernel
theorem d_L_law_279 : decode b_L_law 279 = .ok (.laload, 1) := by decide +kernel
theorem d_L_law_280 : decode b_L_law 280 = .ok (.iload 6, 2) := by decide +kernel
theorem d_L_law_282 : decode b_L_law 282 = .ok (.i2l, 1) := by decide +kernel
theorem d_L_law_283 : decode b_L_law 283 = .ok (.lcmp, 1) := by decide +kernel
theorem d_L_law_284 : decode b_L_law 284 = .ok (.ifCond .eq 5, 3) := by decide +kernel
theorem d_L_law_287 : decode b_L_law 287 = .ok (.iconst 0, 1) := by decide +kernel
theorem d_L_law_288 : decode b_L_law 288 = .ok (.ireturn, 1) := by decide +kernel
theorem d_L_law_289 : decode b_L_law 289 = .ok (.goto 960, 3) := by decide +kernel
theorem d_L_law_292 : decode b_L_law 292 = .ok (.aload_n 1, 1) := by decide +kernel
theorem d_L_law_293 : decode b_L_law 293 = .ok (.aload_n 0, 1) := by decide +kernel
theorem d_L_law_294 : decode b_L_law 294 = .ok (.iload 4, 2) := by decide +kernel
theorem d_L_law_296 : decode b_L_law 296 = .ok (.iconst 1, 1) := by decide +kernel
theorem d_L_law_297 : decode b_L_law 297 = .ok (.iadd, 1) := by decide +kernel
theorem d_L_law_298 : decode b_L_law 298 = .ok (.iaload, 1) := by decide +kernel
theorem d_L_law_299 : decode b_L_law 299 = .ok (.aload_n 0, 1) := by decide +kernel
theorem d_L_law_300 : decode b_L_law 300 = .ok (.iload 4, 2) := by decide +kernel
theorem d_L_law_302 : decode b_L_law 302 = .ok (.iconst 2, 1) := by decide +kernel
theorem d_L_law_303 : decode b_L_law 303 = .ok (.iadd, 1) := by decide +kernel
theorem d_L_law_304 : decode b_L_law 304 = .ok (.iaload, 1) := by decide +kernel
theorem d_L_law_305 : decode b_L_law 305 = .ok (.invokestatic 94, 3) := by decide +kernel
theorem d_L_law_308 : decode b_L_law 308 = .ok (.istore 5, 2) := by decide +kernel
theorem d_L_law_310 : decode b_L_law 310 = .ok (.aload_n 2, 1) := by decide +kernel
theorem d_L_law_311 : decode b_L_law 311 = .ok (.aload_n 0, 1) := by decide +kernel
theorem d_L_law_312 : decode b_L_law 312 = .ok (.iload 4, 2) := by decide +kernel
theorem d_L_law_314 : decode b_L_law 314 = .ok (.iconst 1, 1) := by decide +kernel
theorem d_L_law_315 : decode b_L_law 315 = .ok (.iadd, 1) := by decide +kernel
theorem d_L_law_316 : decode b_L_law 316 = .ok (.iaload, 1) := by decide +kernel
theorem d_L_law_317 : decode b_L_law 317 = .ok (.aload_n 0, 1) := by decide +kernel
theorem d_L_law_318 : decode b_L_law 318 = .ok (.iload 4, 2) := by decide +kernel
theorem d_L_law_320 : decode b_L_law 320 = .ok (.iconst 2, 1) := by decide +kernel
theorem d_L_law_321 : decode b_L_law 321 = .ok (.iadd, 1) := by decide +kernel
theorem d_L_law_322 : decode b_L_law 322 = .ok (.iaload, 1) := by decide +kernel
theorem d_L_law_323 : decode b_L_law 323 = .ok (.invokevirtual 96, 3) := by decide +kernel
theorem d_L_law_326 : decode b_L_law 326 = .ok (.aload_n 2, 1) := by decide +kernel
theorem d_L_law_327 : decode b_L_law 327 = .ok (.invokevirtual 83, 3) := by decide +kernel
theorem d_L_law_330 : decode b_L_law 330 = .ok (.iload 5, 2) := by decide +kernel
theorem d_L_law_332 : decode b_L_law 332 = .ok (.if_icmp .eq 5, 3) := by decide +kernel
theorem d_L_law_335 : decode b_L_law 335 = .ok (.iconst 0, 1) := by decide +kernel
theorem d_L_law_336 : decode b_L_law 336 = .ok (.ireturn, 1) := by decide +kernel
theorem d_L_law_337 : decode b_L_law 337 = .ok (.goto 912, 3) := by decide +kernel
theorem d_L_law_340 : decode b_L_law 340 = .ok (.aload_n 1, 1) := by decide +kernel
theorem d_L_law_341 : decode b_L_law 341 = .ok (.aload_n 0, 1) := by decide +kernel
theorem d_L_law_342 : decode b_L_law 342 = .ok (.iload 4, 2) := by decide +kernel
theorem d_L_law_344 : decode b_L_law 344 = .ok (.iconst 1, 1) := by decide +kernel
theorem d_L_law_345 : decode b_L_law 345 = .ok (.iadd, 1) := by decide +kernel
theorem d_L_law_346 : decode b_L_law 346 = .ok (.iaload, 1) := by decide +kernel
theorem d_L_law_347 : decode b_L_law 347 = .ok (.aload_n 0, 1) := by decide +kernel
theorem d_L_law_348 : decode b_L_law 348 = .ok (.iload 4, 2) := by decide +kernel
theorem d_L_law_350 : decode b_L_law 350 = .ok (.iconst 2, 1) := by decide +kernel
theorem d_L_law_351 : decode b_L_law 351 = .ok (.iadd, 1) := by decide +kernel
theorem d_L_law_352 : decode b_L_law 352 = .ok (.iaload, 1) := by decide +kernel
theorem d_L_law_353 : decode b_L_law 353 = .ok (.aload_n 0, 1) := by decide +kernel
theorem d_L_law_354 : decode b_L_law 354 = .ok (.iload 4, 2) := by decide +kernel
theorem d_L_law_356 : decode b_L_law 356 = .ok (.iconst 3, 1) := by decide +kernel
theorem d_L_law_357 : decode b_L_law 357 = .ok (.iadd, 1) := by decide +kernel
theorem d_L_law_358 : decode b_L_law 358 = .ok (.iaload, 1) := by decide +kernel
theorem d_L_law_359 : decode b_L_law 359 = .ok (.aload_n 0, 1) := by decide +kernel
theorem d_L_law_360 : decode b_L_law 360 = .ok (.iload 4, 2) := by decide +kernel
theorem d_L_law_362 : decode b_L_law 362 = .ok (.iconst 4, 1) := by decide +kernel
theorem d_L_law_363 : decode b_L_law 363 = .ok (.iadd, 1) := by decide +kernel
theorem d_L_law_364 : decode b_L_law 364 = .ok (.iaload, 1) := by decide +kernel
theorem d_L_law_365 : decode b_L_law 365 = .ok (.aload_n 0, 1) := by decide +kernel
theorem d_L_law_366 : decode b_L_law 366 = .ok (.iload 4, 2) := by decide +kernel
theorem d_L_law_368 : decode b_L_law 368 = .ok (.iconst 5, 1) := by decide +kernel
theorem d_L_law_369 : decode b_L_law 369 = .ok (.iadd, 1) := by decide +kernel
theorem d_L_law_370 : decode b_L_law 370 = .ok (.iaload, 1) := by decide +kernel
theorem d_L_law_371 : decode b_L_law 371 = .ok (.aload_n 0, 1) := by decide +kernel
theorem d_L_law_372 : decode b_L_law 372 = .ok (.iload 4, 2) := by decide +kernel
theorem d_L_law_374 : decode b_L_law 374 = .ok (.bipush 6, 2) := by decide +kernel
theorem d_L_law_376 : decode b_L_law 376 = .ok (.iadd, 1) := by decide +kernel
theorem d_L_law_377 : decode b_L_law 377 = .ok (.iaload, 1) := by decide +kernel
theorem d_L_law_378 : decode b_L_law 378 = .ok (.aload_n 3, 1) := by decide +kernel
theorem d_L_law_379 : decode b_L_law 379 = .ok (.invokestatic 97, 3) := by decide +kernel
theorem d_L_law_382 : decode b_L_law 382 = .ok (.istore 5, 2) := by decide +kernel
theorem d_L_law_384 : decode b_L_law 384 = .ok (.aload_n 2, 1) := by decide +kernel
theorem d_L_law_385 : decode b_L_law 385 = .ok (.aload_n 0, 1) := by decide +kernel
theorem d_L_law_386 : decode b_L_law 386 = .ok (.iload 4, 2) := by decide +kernel
theorem d_L_law_388 : decode b_L_law 388 = .ok (.iconst 1, 1) := by decide +kernel
theorem d_L_law_389 : decode b_L_law 389 = .ok (.iadd, 1) := by decide +kernel
theorem d_L_law_390 : decode b_L_law 390 = .ok (.iaload, 1) := by decide +kernel
theorem d_L_law_391 : decode b_L_law 391 = .ok (.aload_n 0, 1) := by decide +kernel
theorem d_L_law_392 : decode b_L_law 392 = .ok (.iload 4, 2) := by decide +kernel
theorem d_L_law_394 : decode b_L_law 394 = .ok (.iconst 2, 1) := by decide +kernel
theorem d_L_law_395 : decode b_L_law 395 = .ok (.iadd, 1) := by decide +kernel
theorem d_L_law_396 : decode b_L_law 396 = .ok (.iaload, 1) := by decide +kernel
theorem d_L_law_397 : decode b_L_law 397 = .ok (.aload_n 0, 1) := by decide +kernel
theorem d_L_law_398 : decode b_L_law 398 = .ok (.iload 4, 2) := by decide +kernel
theorem d_L_law_400 : decode b_L_law 400 = .ok (.iconst 3, 1) := by decide +kernel
theorem d_L_law_401 : decode b_L_law 401 = .ok (.iadd, 1) := by decide +kernel
theorem d_L_law_402 : decode b_L_law 402 = .ok (.iaload, 1) := by decide +kernel
theorem d_L_law_403 : decode b_L_law 403 = .ok (.aload_n 0, 1) := by decide +kernel
theorem d_L_law_404 : decode b_L_law 404 = .ok (.iload 4, 2) := by decide +kernel
theorem d_L_law_406 : decode b_L_law 406 = .ok (.iconst 4, 1) := by decide +kernel
theorem d_L_law_407 : decode b_L_law 407 = .ok (.iadd, 1) := by decide +kernel
theorem d_L_law_408 : decode b_L_law 408 = .ok (.iaload, 1) := by decide +kernel
theorem d_L_law_409 : decode b_L_law 409 = .ok (.aload_n 0, 1) := by decide +kernel
theorem d_L_law_410 : decode b_L_law 410 = .ok (.iload 4, 2) := by decide +kernel
theorem d_L_law_412 : decode b_L_law 412 = .ok (.iconst 5, 1) := by decide +kernel
theorem d_L_law_413 : decode b_L_law 413 = .ok (.iadd, 1) := by decide +kernel
theorem d_L_law_414 : decode b_L_law 414 = .ok (.iaload, 1) := by decide +kernel
theorem d_L_law_415 : decode b_L_law 415 = .ok (.aload_n 0, 1) := by decide +kernel
theorem d_L_law_416 : decode b_L_law 416 = .ok (.iload 4, 2) := by decide +kernel
theorem d_L_law_418 : decode b_L_law 418 = .ok (.bipush 6, 2) := by decide +kernel
theorem d_L_law_420 : decode b_L_law 420 = .ok (.iadd, 1) := by decide +kernel
theorem d_L_law_421 : decode b_L_law 421 = .ok (.iaload, 1) := by decide +kernel
theorem d_L_law_422 : decode b_L_law 422 = .ok (.invokevirtual 100, 3) := by decide +kernel
theorem d_L_law_425 : decode b_L_law 425 = .ok (.istore 6, 2) := by decide +kernel
theorem d_L_law_427 : decode b_L_law 427 = .ok (.aload_n 2, 1) := by decide +kernel
theorem d_L_law_428 : decode b_L_law 428 = .ok (.invokevirtual 83, 3) := by decide +kernel
theorem d_L_law_431 : decode b_L_law 431 = .ok (.iload 5, 2) := by decide +kernel
theorem d_L_law_433 : decode b_L_law 433 = .ok (.if_icmp .eq 5, 3) := by decide +kernel
theorem d_L_law_436 : decode b_L_law 436 = .ok (.iconst 0, 1) := by decide +kernel
theorem d_L_law_437 : decode b_L_law 437 = .ok (.ireturn, 1) := by decide +kernel
theorem d_L_law_438 : decode b_L_law 438 = .ok (.iload 5, 2) := by decide +kernel
theorem d_L_law_440 : decode b_L_law 440 = .ok (.ifCond .ne 15, 3) := by decide +kernel
theorem d_L_law_443 : decode b_L_law 443 = .ok (.aload_n 3, 1) := by decide +kernel
theorem d_L_law_444 : decode b_L_law 444 = .ok (.iconst 0, 1) := by decide +kernel
theorem d_L_law_445 : decode b_L_law 445 = .ok (.laload, 1) := by decide +kernel
theorem d_L_law_446 : decode b_L_law 446 = .ok (.iload 6, 2) := by decide +kernel
theorem d_L_law_448 : decode b_L_law 448 = .ok (.i2l, 1) := by decide +kernel
theorem d_L_law_449 : decode b_L_law 449 = .ok (.lcmp, 1) := by decide +kernel
theorem d_L_law_450 : decode b_L_law 450 = .ok (.ifCond .eq 5, 3) := by decide +kernel
theorem d_L_law_453 : decode b_L_law 453 = .ok (.iconst 0, 1) := by decide +kernel
theorem d_L_law_454 : decode b_L_law 454 = .ok (.ireturn, 1) := by decide +kernel
theorem d_L_law_455 : decode b_L_law 455 = .ok (.goto 794, 3) := by decide +kernel
theorem d_L_law_458 : decode b_L_law 458 = .ok (.aload_n 1, 1) := by decide +kernel
theorem d_L_law_459 : decode b_L_law 459 = .ok (.aload_n 0, 1) := by decide +kernel
theorem d_L_law_460 : decode b_L_law 460 = .ok (.iload 4, 2) := by decide +kernel
theorem d_L_law_462 : decode b_L_law 462 = .ok (.iconst 1, 1) := by decide +kernel
theorem d_L_law_463 : decode b_L_law 463 = .ok (.iadd, 1) := by decide +kernel
theorem d_L_law_464 : decode b_L_law 464 = .ok (.iaload, 1) := by decide +kernel
theorem d_L_law_465 : decode b_L_law 465 = .ok (.aload_n 0, 1) := by decide +kernel
theorem d_L_law_466 : decode b_L_law 466 = .ok (.iload 4, 2) := by decide +kernel
theorem d_L_law_468 : decode b_L_law 468 = .ok (.iconst 2, 1) := by decide +kernel
theorem d_L_law_469 : decode b_L_law 469 = .ok (.iadd, 1) := by decide +kernel
theorem d_L_law_470 : decode b_L_law 470 = .ok (.iaload, 1) := by decide +kernel
theorem d_L_law_471 : decode b_L_law 471 = .ok (.aload_n 0, 1) := by decide +kernel
theorem d_L_law_472 : decode b_L_law 472 = .ok (.iload 4, 2) := by decide +kernel
theorem d_L_law_474 : decode b_L_law 474 = .ok (.iconst 3, 1) := by decide +kernel
theorem d_L_law_475 : decode b_L_law 475 = .ok (.iadd, 1) := by decide +kernel
theorem d_L_law_476 : decode b_L_law 476 = .ok (.iaload, 1) := by decide +kernel
theorem d_L_law_477 : decode b_L_law 477 = .ok (.invokestatic 101, 3) := by decide +kernel
theorem d_L_law_480 : decode b_L_law 480 = .ok (.istore 5, 2) := by decide +kernel
theorem d_L_law_482 : decode b_L_law 482 = .ok (.aload_n 2, 1) := by decide +kernel
theorem d_L_law_483 : decode b_L_law 483 = .ok (.aload_n 0, 1) := by decide +kernel
theorem d_L_law_484 : decode b_L_law 484 = .ok (.iload 4, 2) := by decide +kernel
theorem d_L_law_486 : decode b_L_law 486 = .ok (.iconst 1, 1) := by decide +kernel
theorem d_L_law_487 : decode b_L_law 487 = .ok (.iadd, 1) := by decide +kernel
theorem d_L_law_488 : decode b_L_law 488 = .ok (.iaload, 1) := by decide +kernel
theorem d_L_law_489 : decode b_L_law 489 = .ok (.aload_n 0, 1) := by decide +kernel
theorem d_L_law_490 : decode b_L_law 490 = .ok (.iload 4, 2) := by decide +kernel
theorem d_L_law_492 : decode b_L_law 492 = .ok (.iconst 2, 1) := by decide +kernel
theorem d_L_law_493 : decode b_L_law 493 = .ok (.iadd, 1) := by decide +kernel
theorem d_L_law_494 : decode b_L_law 494 = .ok (.iaload, 1) := by decide +kernel
theorem d_L_law_495 : decode b_L_law 495 = .ok (.aload_n 0, 1) := by decide +kernel
theorem d_L_law_496 : decode b_L_law 496 = .ok (.iload 4, 2) := by decide +kernel
theorem d_L_law_498 : decode b_L_law 498 = .ok (.iconst 3, 1) := by decide +kernel
theorem d_L_law_499 : decode b_L_law 499 = .ok (.iadd, 1) := by decide +kernel
theorem d_L_law_500 : decode b_L_law 500 = .ok (.iaload, 1) := by decide +kernel
theorem d_L_law_501 : decode b_L_law 501 = .ok (.invokevirtual 104, 3) := by decide +kernel
theorem d_L_law_504 : decode b_L_law 504 = .ok (.aload_n 2, 1) := by decide +kernel
theorem d_L_law_505 : decode b_L_law 505 = .ok (.invokevirtual 83, 3) := by decide +kernel
theorem d_L_law_508 : decode b_L_law 508 = .ok (.iload 5, 2) := by decide +kernel
theorem d_L_law_510 : decode b_L_law 510 = .ok (.if_icmp .eq 5, 3) := by decide +kernel
theorem d_L_law_513 : decode b_L_law 513 = .ok (.iconst 0, 1) := by decide +kernel
theorem d_L_law_514 : decode b_L_law 514 = .ok (.ireturn, 1) := by decide +kernel
theorem d_L_law_515 : decode b_L_law 515 = .ok (.goto 734, 3) := by decide +kernel
theorem d_L_law_518 : decode b_L_law 518 = .ok (.aload_n 1, 1) := by decide +kernel
theorem d_L_law_519 : decode b_L_law 519 = .ok (.aload_n 0, 1) := by decide +kernel
theorem d_L_law_520 : decode b_L_law 520 = .ok (.iload 4, 2) := by decide +kernel
theorem d_L_law_522 : decode b_L_law 522 = .ok (.iconst 1, 1) := by decide +kernel
theorem d_L_law_523 : decode b_L_law 523 = .ok (.iadd, 1) := by decide +kernel
theorem d_L_law_524 : decode b_L_law 524 = .ok (.iaload, 1) := by decide +kernel
theorem d_L_law_525 : decode b_L_law 525 = .ok (.aload_n 0, 1) := by decide +kernel
theorem d_L_law_526 : decode b_L_law 526 = .ok (.iload 4, 2) := by decide +kernel
theorem d_L_law_528 : decode b_L_law 528 = .ok (.iconst 2, 1) := by decide +kernel
theorem d_L_law_529 : decode b_L_law 529 = .ok (.iadd, 1) := by decide +kernel
theorem d_L_law_530 : decode b_L_law 530 = .ok (.iaload, 1) := by decide +kernel
theorem d_L_law_531 : decode b_L_law 531 = .ok (.invokestatic 105, 3) := by decide +kernel
theorem d_L_law_534 : decode b_L_law 534 = .ok (.istore 5, 2) := by decide +kernel
theorem d_L_law_536 : decode b_L_law 536 = .ok (.aload_n 2, 1) := by decide +kernel
theorem d_L_law_537 : decode b_L_law 537 = .ok (.aload_n 0, 1) := by decide +kernel
theorem d_L_law_538 : decode b_L_law 538 = .ok (.iload 4, 2) := by decide +kernel
theorem d_L_law_540 : decode b_L_law 540 = .ok (.iconst 1, 1) := by decide +kernel
theorem d_L_law_541 : decode b_L_law 541 = .ok (.iadd, 1) := by decide +kernel
theorem d_L_law_542 : decode b_L_law 542 = .ok (.iaload, 1) := by decide +kernel
theorem d_L_law_543 : decode b_L_law 543 = .ok (.aload_n 0, 1) := by decide +kernel
theorem d_L_law_544 : decode b_L_law 544 = .ok (.iload 4, 2) := by decide +kernel
theorem d_L_law_546 : decode b_L_law 546 = .ok (.iconst 2, 1) := by decide +kernel
theorem d_L_law_547 : decode b_L_law 547 = .ok (.iadd, 1) := by decide +kernel
theorem d_L_law_548 : decode b_L_law 548 = .ok (.iaload, 1) := by decide +kernel
theorem d_L_law_549 : decode b_L_law 549 = .ok (.invokevirtual 107, 3) := by decide +kernel
theorem d_L_law_552 : decode b_L_law 552 = .ok (.aload_n 2, 1) := by decide +kernel
theorem d_L_law_553 : decode b_L_law 553 = .ok (.invokevirtual 83, 3) := by decide +kernel
theorem d_L_law_556 : decode b_L_law 556 = .ok (.iload 5, 2) := by decide +kernel
theorem d_L_law_558 : decode b_L_law 558 = .ok (.if_icmp .eq 5, 3) := by decide +kernel
theorem d_L_law_561 : decode b_L_law 561 = .ok (.iconst 0, 1) := by decide +kernel
theorem d_L_law_562 : decode b_L_law 562 = .ok (.ireturn, 1) := by decide +kernel
theorem d_L_law_563 : decode b_L_law 563 = .ok (.goto 686, 3) := by decide +kernel
theorem d_L_law_566 : decode b_L_law 566 = .ok (.aload_n 1, 1) := by decide +kernel
theorem d_L_law_567 : decode b_L_law 567 = .ok (.aload_n 0, 1) := by decide +kernel
theorem d_L_law_568 : decode b_L_law 568 = .ok (.iload 4, 2) := by decide +kernel
theorem d_L_law_570 : decode b_L_law 570 = .ok (.iconst 1, 1) := by decide +kernel
theorem d_L_law_571 : decode b_L_law 571 = .ok (.iadd, 1) := by decide +kernel
theorem d_L_law_572 : decode b_L_law 572 = .ok (.iaload, 1) := by decide +kernel
theorem d_L_law_573 : decode b_L_law 573 = .ok (.invokestatic 108, 3) := by decide +kernel
theorem d_L_law_576 : decode b_L_law 576 = .ok (.istore 5, 2) := by decide +kernel
theorem d_L_law_578 : decode b_L_law 578 = .ok (.aload_n 2, 1) := by decide +kernel
theorem d_L_law_579 : decode b_L_law 579 = .ok (.aload_n 0, 1) := by decide +kernel
theorem d_L_law_580 : decode b_L_law 580 = .ok (.iload 4, 2) := by decide +kernel
theorem d_L_law_582 : decode b_L_law 582 = .ok (.iconst 1, 1) := by decide +kernel
theorem d_L_law_583 : decode b_L_law 583 = .ok (.iadd, 1) := by decide +kernel
theorem d_L_law_584 : decode b_L_law 584 = .ok (.iaload, 1) := by decide +kernel
theorem d_L_law_585 : decode b_L_law 585 = .ok (.invokevirtual 111, 3) := by decide +kernel
theorem d_L_law_588 : decode b_L_law 588 = .ok (.aload_n 2, 1) := by decide +kernel
theorem d_L_law_589 : decode b_L_law 589 = .ok (.invokevirtual 83, 3) := by decide +kernel
theorem d_L_law_592 : decode b_L_law 592 = .ok (.iload 5, 2) := by decide +kernel
theorem d_L_law_594 : decode b_L_law 594 = .ok (.if_icmp .eq 5, 3) := by decide +kernel
theorem d_L_law_597 : decode b_L_law 597 = .ok (.iconst 0, 1) := by decide +kernel
theorem d_L_law_598 : decode b_L_law 598 = .ok (.ireturn, 1) := by decide +kernel
theorem d_L_law_599 : decode b_L_law 599 = .ok (.goto 650, 3) := by decide +kernel
theorem d_L_law_602 : decode b_L_law 602 = .ok (.aload_n 1, 1) := by decide +kernel
theorem d_L_law_603 : decode b_L_law 603 = .ok (.aload_n 0, 1) := by decide +kernel
theorem d_L_law_604 : decode b_L_law 604 = .ok (.iload 4, 2) := by decide +kernel
theorem d_L_law_606 : decode b_L_law 606 = .ok (.iconst 1, 1) := by decide +kernel
theorem d_L_law_607 : decode b_L_law 607 = .ok (.iadd, 1) := by decide +kernel
theorem d_L_law_608 : decode b_L_law 608 = .ok (.iaload, 1) := by decide +kernel
theorem d_L_law_609 : decode b_L_law 609 = .ok (.aload_n 0, 1) := by decide +kernel
theorem d_L_law_610 : decode b_L_law 610 = .ok (.iload 4, 2) := by decide +kernel
theorem d_L_law_612 : decode b_L_law 612 = .ok (.iconst 2, 1) := by decide +kernel
theorem d_L_law_613 : decode b_L_law 613 = .ok (.iadd, 1) := by decide +kernel
theorem d_L_law_614 : decode b_L_law 614 = .ok (.iaload, 1) := by decide +kernel
theorem d_L_law_615 : decode b_L_law 615 = .ok (.aload_n 0, 1) := by decide +kernel
theorem d_L_law_616 : decode b_L_law 616 = .ok (.iload 4, 2) := by decide +kernel
theorem d_L_law_618 : decode b_L_law 618 = .ok (.iconst 3, 1) := by decide +kernel
theorem d_L_law_619 : decode b_L_law 619 = .ok (.iadd, 1) := by decide +kernel
theorem d_L_law_620 : decode b_L_law 620 = .ok (.iaload, 1) := by decide +kernel
theorem d_L_law_621 : decode b_L_law 621 = .ok (.aload_n 3, 1) := by decide +kernel
theorem d_L_law_622 : decode b_L_law 622 = .ok (.invokestatic 112, 3) := by decide +kernel
theorem d_L_law_625 : decode b_L_law 625 = .ok (.istore 5, 2) := by decide +kernel
theorem d_L_law_627 : decode b_L_law 627 = .ok (.aload_n 2, 1) := by decide +kernel
theorem d_L_law_628 : decode b_L_law 628 = .ok (.aload_n 0, 1) := by decide +kernel
theorem d_L_law_629 : decode b_L_law 629 = .ok (.iload 4, 2) := by decide +kernel
theorem d_L_law_631 : decode b_L_law 631 = .ok (.iconst 1, 1) := by decide +kernel
theorem d_L_law_632 : decode b_L_law 632 = .ok (.iadd, 1) := by decide +kernel
theorem d_L_law_633 : decode b_L_law 633 = .ok (.iaload, 1) := by decide +kernel
theorem d_L_law_634 : decode b_L_law 634 = .ok (.aload_n 0, 1) := by decide +kernel
theorem d_L_law_635 : decode b_L_law 635 = .ok (.iload 4, 2) := by decide +kernel
theorem d_L_law_637 : decode b_L_law 637 = .ok (.iconst 2, 1) := by decide +kernel
theorem d_L_law_638 : decode b_L_law 638 = .ok (.iadd, 1) := by decide +kernel
theorem d_L_law_639 : decode b_L_law 639 = .ok (.iaload, 1) := by decide +kernel
theorem d_L_law_640 : decode b_L_law 640 = .ok (.aload_n 0, 1) := by decide +kernel
theorem d_L_law_641 : decode b_L_law 641 = .ok (.iload 4, 2) := by decide +kernel
theorem d_L_law_643 : decode b_L_law 643 = .ok (.iconst 3, 1) := by decide +kernel
theorem d_L_law_644 : decode b_L_law 644 = .ok (.iadd, 1) := by decide +kernel
theorem d_L_law_645 : decode b_L_law 645 = .ok (.iaload, 1) := by decide +kernel
theorem d_L_law_646 : decode b_L_law 646 = .ok (.invokevirtual 115, 3) := by decide +kernel
theorem d_L_law_649 : decode b_L_law 649 = .ok (.istore 6, 2) := by decide +kernel
theorem d_L_law_651 : decode b_L_law 651 = .ok (.aload_n 2, 1) := by decide +kernel
theorem d_L_law_652 : decode b_L_law 652 = .ok (.invokevirtual 83, 3) := by decide +kernel
theorem d_L_law_655 : decode b_L_law 655 = .ok (.iload 5, 2) := by decide +kernel
theorem d_L_law_657 : decode b_L_law 657 = .ok (.if_icmp .eq 5, 3) := by decide +kernel
theorem d_L_law_660 : decode b_L_law 660 = .ok (.iconst 0, 1) := by decide +kernel
theorem d_L_law_661 : decode b_L_law 661 = .ok (.ireturn, 1) := by decide +kernel
theorem d_L_law_662 : decode b_L_law 662 = .ok (.iload 5, 2) := by decide +kernel
theorem d_L_law_664 : decode b_L_law 664 = .ok (.ifCond .ne 15, 3) := by decide +kernel
theorem d_L_law_667 : decode b_L_law 667 = .ok (.aload_n 3, 1) := by decide +kernel
theorem d_L_law_668 : decode b_L_law 668 = .ok (.iconst 0, 1) := by decide +kernel
theorem d_L_law_669 : decode b_L_law 669 = .ok (.laload, 1) := by decide +kernel
theorem d_L_law_670 : decode b_L_law 670 = .ok (.iload 6, 2) := by decide +kernel
theorem d_L_law_672 : decode b_L_law 672 = .ok (.i2l, 1) := by decide +kernel
theorem d_L_law_673 : decode b_L_law 673 = .ok (.lcmp, 1) := by decide +kernel
theorem d_L_law_674 : decode b_L_law 674 = .ok (.ifCond .eq 5, 3) := by decide +kernel
theorem d_L_law_677 : decode b_L_law 677 = .ok (.iconst 0, 1) := by decide +kernel
theorem d_L_law_678 : decode b_L_law 678 = .ok (.ireturn, 1) := by decide +kernel
theorem d_L_law_679 : decode b_L_law 679 = .ok (.goto 570, 3) := by decide +kernel
theorem d_L_law_682 : decode b_L_law 682 = .ok (.aload_n 1, 1) := by decide +kernel
theorem d_L_law_683 : decode b_L_law 683 = .ok (.aload_n 0, 1) := by decide +kernel
theorem d_L_law_684 : decode b_L_law 684 = .ok (.iload 4, 2) := by decide +kernel
theorem d_L_law_686 : decode b_L_law 686 = .ok (.iconst 1, 1) := by decide +kernel
theorem d_L_law_687 : decode b_L_law 687 = .ok (.iadd, 1) := by decide +kernel
theorem d_L_law_688 : decode b_L_law 688 = .ok (.iaload, 1) := by decide +kernel
theorem d_L_law_689 : decode b_L_law 689 = .ok (.aload_n 0, 1) := by decide +kernel
theorem d_L_law_690 : decode b_L_law 690 = .ok (.iload 4, 2) := by decide +kernel
theorem d_L_law_692 : decode b_L_law 692 = .ok (.iconst 2, 1) := by decide +kernel
theorem d_L_law_693 : decode b_L_law 693 = .ok (.iadd, 1) := by decide +kernel
theorem d_L_law_694 : decode b_L_law 694 = .ok (.iaload, 1) := by decide +kernel
theorem d_L_law_695 : decode b_L_law 695 = .ok (.aload_n 3, 1) := by decide +kernel
theorem d_L_law_696 : decode b_L_law 696 = .ok (.invokestatic 116, 3) := by decide +kernel
theorem d_L_law_699 : decode b_L_law 699 = .ok (.istore 5, 2) := by decide +kernel
theorem d_L_law_701 : decode b_L_law 701 = .ok (.aload_n 2, 1) := by decide +kernel
theorem d_L_law_702 : decode b_L_law 702 = .ok (.aload_n 0, 1) := by decide +kernel
theorem d_L_law_703 : decode b_L_law 703 = .ok (.iload 4, 2) := by decide +kernel
theorem d_L_law_705 : decode b_L_law 705 = .ok (.iconst 1, 1) := by decide +kernel
theorem d_L_law_706 : decode b_L_law 706 = .ok (.iadd, 1) := by decide +kernel
theorem d_L_law_707 : decode b_L_law 707 = .ok (.iaload, 1) := by decide +kernel
theorem d_L_law_708 : decode b_L_law 708 = .ok (.aload_n 0, 1) := by decide +kernel
theorem d_L_law_709 : decode b_L_law 709 = .ok (.iload 4, 2) := by decide +kernel
theorem d_L_law_711 : decode b_L_law 711 = .ok (.iconst 2, 1) := by decide +kernel
theorem d_L_law_712 : decode b_L_law 712 = .ok (.iadd, 1) := by decide +kernel
theorem d_L_law_713 : decode b_L_law 713 = .ok (.iaload, 1) := by decide +kernel
theorem d_L_law_714 : decode b_L_law 714 = .ok (.invokevirtual 119, 3) := by decide +kernel
theorem d_L_law_717 : decode b_L_law 717 = .ok (.istore 6, 2) := by decide +kernel
theorem d_L_law_719 : decode b_L_law 719 = .ok (.aload_n 2, 1) := by decide +kernel
theorem d_L_law_720 : decode b_L_law 720 = .ok (.invokevirtual 83, 3) := by decide +kernel
theorem d_L_law_723 : decode b_L_law 723 = .ok (.iload 5, 2) := by decide +kernel
theorem d_L_law_725 : decode b_L_law 725 = .ok (.if_icmp .eq 5, 3) := by decide +kernel
theorem d_L_law_728 : decode b_L_law 728 = .ok (.iconst 0, 1) := by decide +kernel
theorem d_L_law_729 : decode b_L_law 729 = .ok (.ireturn, 1) := by decide +kernel
theorem d_L_law_730 : decode b_L_law 730 = .ok (.iload 5, 2) := by decide +kernel
theorem d_L_law_732 : decode b_L_law 732 = .ok (.ifCond .ne 15, 3) := by decide +kernel
theorem d_L_law_735 : decode b_L_law 735 = .ok (.aload_n 3, 1) := by decide +kernel
theorem d_L_law_736 : decode b_L_law 736 = .ok (.iconst 0, 1) := by decide +kernel
theorem d_L_law_737 : decode b_L_law 737 = .ok (.laload, 1) := by decide +kernel
theorem d_L_law_738 : decode b_L_law 738 = .ok (.iload 6, 2) := by decide +kernel
theorem d_L_law_740 : decode b_L_law 740 = .ok (.i2l, 1) := by decide +kernel
theorem d_L_law_741 : decode b_L_law 741 = .ok (.lcmp, 1) := by decide +kernel
theorem d_L_law_742 : decode b_L_law 742 = .ok (.ifCond .eq 5, 3) := by decide +kernel
theorem d_L_law_745 : decode b_L_law 745 = .ok (.iconst 0, 1) := by decide +kernel
theorem d_L_law_746 : decode b_L_law 746 = .ok (.ireturn, 1) := by decide +kernel
theorem d_L_law_747 : decode b_L_law 747 = .ok (.goto 502, 3) := by decide +kernel
theorem d_L_law_750 : decode b_L_law 750 = .ok (.aload_n 1, 1) := by decide +kernel
theorem d_L_law_751 : decode b_L_law 751 = .ok (.invokevirtual 120, 3) := by decide +kernel
theorem d_L_law_754 : decode b_L_law 754 = .ok (.aload_n 2, 1) := by decide +kernel
theorem d_L_law_755 : decode b_L_law 755 = .ok (.invokevirtual 124, 3) := by decide +kernel
theorem d_L_law_758 : decode b_L_law 758 = .ok (.if_icmp .eq 491, 3) := by decide +kernel
theorem d_L_law_761 : decode b_L_law 761 = .ok (.iconst 0, 1) := by decide +kernel
theorem d_L_law_762 : decode b_L_law 762 = .ok (.ireturn, 1) := by decide +kernel
theorem d_L_law_763 : decode b_L_law 763 = .ok (.aload_n 1, 1) := by decide +kernel
theorem d_L_law_764 : decode b_L_law 764 = .ok (.invokevirtual 125, 3) := by decide +kernel
theorem d_L_law_767 : decode b_L_law 767 = .ok (.aload_n 2, 1) := by decide +kernel
theorem d_L_law_768 : decode b_L_law 768 = .ok (.invokevirtual 128, 3) := by decide +kernel
theorem d_L_law_771 : decode b_L_law 771 = .ok (.if_icmp .eq 478, 3) := by decide +kernel
theorem d_L_law_774 : decode b_L_law 774 = .ok (.iconst 0, 1) := by decide +kernel
theorem d_L_law_775 : decode b_L_law 775 = .ok (.ireturn, 1) := by decide +kernel
theorem d_L_law_776 : decode b_L_law 776 = .ok (.aload_n 1, 1) := by decide +kernel
theorem d_L_law_777 : decode b_L_law 777 = .ok (.aload_n 0, 1) := by decide +kernel
theorem d_L_law_778 : decode b_L_law 778 = .ok (.iload 4, 2) := by decide +kernel
theorem d_L_law_780 : decode b_L_law 780 = .ok (.iconst 1, 1) := by decide +kernel
theorem d_L_law_781 : decode b_L_law 781 = .ok (.iadd, 1) := by decide +kernel
theorem d_L_law_782 : decode b_L_law 782 = .ok (.iaload, 1) := by decide +kernel
theorem d_L_law_783 : decode b_L_law 783 = .ok (.aload_n 3, 1) := by decide +kernel
theorem d_L_law_784 : decode b_L_law 784 = .ok (.invokestatic 129, 3) := by decide +kernel
theorem d_L_law_787 : decode b_L_law 787 = .ok (.istore 5, 2) := by decide +kernel
theorem d_L_law_789 : decode b_L_law 789 = .ok (.aload_n 2, 1) := by decide +kernel
theorem d_L_law_790 : decode b_L_law 790 = .ok (.aload_n 0, 1) := by decide +kernel
theorem d_L_law_791 : decode b_L_law 791 = .ok (.iload 4, 2) := by decide +kernel
theorem d_L_law_793 : decode b_L_law 793 = .ok (.iconst 1, 1) := by decide +kernel
theorem d_L_law_794 : decode b_L_law 794 = .ok (.iadd, 1) := by decide +kernel
theorem d_L_law_795 : decode b_L_law 795 = .ok (.iaload, 1) := by decide +kernel
theorem d_L_law_796 : decode b_L_law 796 = .ok (.invokevirtual 131, 3) := by decide +kernel
theorem d_L_law_799 : decode b_L_law 799 = .ok (.istore 6, 2) := by decide +kernel
theorem d_L_law_801 : decode b_L_law 801 = .ok (.aload_n 2, 1) := by decide +kernel
theorem d_L_law_802 : decode b_L_law 802 = .ok (.invokevirtual 83, 3) := by decide +kernel
theorem d_L_law_805 : decode b_L_law 805 = .ok (.iload 5, 2) := by decide +kernel
theorem d_L_law_807 : decode b_L_law 807 = .ok (.if_icmp .eq 5, 3) := by decide +kernel
theorem d_L_law_810 : decode b_L_law 810 = .ok (.iconst 0, 1) := by decide +kernel
theorem d_L_law_811 : decode b_L_law 811 = .ok (.ireturn, 1) := by decide +kernel
theorem d_L_law_812 : decode b_L_law 812 = .ok (.iload 5, 2) := by decide +kernel
theorem d_L_law_814 : decode b_L_law 814 = .ok (.ifCond .ne 15, 3) := by decide +kernel
theorem d_L_law_817 : decode b_L_law 817 = .ok (.aload_n 3, 1) := by decide +kernel
theorem d_L_law_818 : decode b_L_law 818 = .ok (.iconst 0, 1) := by decide +kernel
theorem d_L_law_819 : decode b_L_law 819 = .ok (.laload, 1) := by decide +kernel
theorem d_L_law_820 : decode b_L_law 820 = .ok (.iload 6, 2) := by decide +kernel
theorem d_L_law_822 : decode b_L_law 822 = .ok (.i2l, 1) := by decide +kernel
theorem d_L_law_823 : decode b_L_law 823 = .ok (.lcmp, 1) := by decide +kernel
theorem d_L_law_824 : decode b_L_law 824 = .ok (.ifCond .eq 5, 3) := by decide +kernel
theorem d_L_law_827 : decode b_L_law 827 = .ok (.iconst 0, 1) := by decide +kernel
theorem d_L_law_828 : decode b_L_law 828 = .ok (.ireturn, 1) := by decide +kernel
theorem d_L_law_829 : decode b_L_law 829 = .ok (.goto 420, 3) := by decide +kernel
theorem d_L_law_832 : decode b_L_law 832 = .ok (.aload_n 1, 1) := by decide +kernel
theorem d_L_law_833 : decode b_L_law 833 = .ok (.aload_n 0, 1) := by decide +kernel
theorem d_L_law_834 : decode b_L_law 834 = .ok (.iload 4, 2) := by decide +kernel
theorem d_L_law_836 : decode b_L_law 836 = .ok (.iconst 1, 1) := by decide +kernel
theorem d_L_law_837 : decode b_L_law 837 = .ok (.iadd, 1) := by decide +kernel
theorem d_L_law_838 : decode b_L_law 838 = .ok (.iaload, 1) := by decide +kernel
theorem d_L_law_839 : decode b_L_law 839 = .ok (.aload_n 3, 1) := by decide +kernel
theorem d_L_law_840 : decode b_L_law 840 = .ok (.invokestatic 132, 3) := by decide +kernel
theorem d_L_law_843 : decode b_L_law 843 = .ok (.istore 5, 2) := by decide +kernel
theorem d_L_law_845 : decode b_L_law 845 = .ok (.aload_n 2, 1) := by decide +kernel
theorem d_L_law_846 : decode b_L_law 846 = .ok (.aload_n 0, 1) := by decide +kernel
theorem d_L_law_847 : decode b_L_law 847 = .ok (.iload 4, 2) := by decide +kernel
theorem d_L_law_849 : decode b_L_law 849 = .ok (.iconst 1, 1) := by decide +kernel
theorem d_L_law_850 : decode b_L_law 850 = .ok (.iadd, 1) := by decide +kernel
theorem d_L_law_851 : decode b_L_law 851 = .ok (.iaload, 1) := by decide +kernel
theorem d_L_law_852 : decode b_L_law 852 = .ok (.invokevirtual 134, 3) := by decide +kernel
theorem d_L_law_855 : decode b_L_law 855 = .ok (.istore 6, 2) := by decide +kernel
theorem d_L_law_857 : decode b_L_law 857 = .ok (.aload_n 2, 1) := by decide +kernel
theorem d_L_law_858 : decode b_L_law 858 = .ok (.invokevirtual 83, 3) := by decide +kernel
theorem d_L_law_861 : decode b_L_law 861 = .ok (.iload 5, 2) := by decide +kernel
theorem d_L_law_863 : decode b_L_law 863 = .ok (.if_icmp .eq 5, 3) := by decide +kernel
theorem d_L_law_866 : decode b_L_law 866 = .ok (.iconst 0, 1) := by decide +kernel
theorem d_L_law_867 : decode b_L_law 867 = .ok (.ireturn, 1) := by decide +kernel
theorem d_L_law_868 : decode b_L_law 868 = .ok (.iload 5, 2) := by decide +kernel
theorem d_L_law_870 : decode b_L_law 870 = .ok (.ifCond .ne 15, 3) := by decide +kernel
theorem d_L_law_873 : decode b_L_law 873 = .ok (.aload_n 3, 1) := by decide +kernel
theorem d_L_law_874 : decode b_L_law 874 = .ok (.iconst 0, 1) := by decide +kernel
theorem d_L_law_875 : decode b_L_law 875 = .ok (.laload, 1) := by decide +kernel
theorem d_L_law_876 : decode b_L_law 876 = .ok (.iload 6, 2) := by decide +kernel
theorem d_L_law_878 : decode b_L_law 878 = .ok (.i2l, 1) := by decide +kernel
theorem d_L_law_879 : decode b_L_law 879 = .ok (.lcmp, 1) := by decide +kernel
theorem d_L_law_880 : decode b_L_law 880 = .ok (.ifCond .eq 5, 3) := by decide +kernel
theorem d_L_law_883 : decode b_L_law 883 = .ok (.iconst 0, 1) := by decide +kernel
theorem d_L_law_884 : decode b_L_law 884 = .ok (.ireturn, 1) := by decide +kernel
theorem d_L_law_885 : decode b_L_law 885 = .ok (.goto 364, 3) := by decide +kernel
theorem d_L_law_888 : decode b_L_law 888 = .ok (.aload_n 1, 1) := by decide +kernel
theorem d_L_law_889 : decode b_L_law 889 = .ok (.aload_n 0, 1) := by decide +kernel
theorem d_L_law_890 : decode b_L_law 890 = .ok (.iload 4, 2) := by decide +kernel
theorem d_L_law_892 : decode b_L_law 892 = .ok (.iconst 1, 1) := by decide +kernel
theorem d_L_law_893 : decode b_L_law 893 = .ok (.iadd, 1) := by decide +kernel
theorem d_L_law_894 : decode b_L_law 894 = .ok (.iaload, 1) := by decide +kernel
theorem d_L_law_895 : decode b_L_law 895 = .ok (.aload_n 0, 1) := by decide +kernel
theorem d_L_law_896 : decode b_L_law 896 = .ok (.iload 4, 2) := by decide +kernel
theorem d_L_law_898 : decode b_L_law 898 = .ok (.iconst 2, 1) := by decide +kernel
theorem d_L_law_899 : decode b_L_law 899 = .ok (.iadd, 1) := by decide +kernel
theorem d_L_law_900 : decode b_L_law 900 = .ok (.iaload, 1) := by decide +kernel
theorem d_L_law_901 : decode b_L_law 901 = .ok (.aload_n 3, 1) := by decide +kernel
theorem d_L_law_902 : decode b_L_law 902 = .ok (.invokestatic 135, 3) := by decide +kernel
theorem d_L_law_905 : decode b_L_law 905 = .ok (.istore 5, 2) := by decide +kernel
theorem d_L_law_907 : decode b_L_law 907 = .ok (.aload_n 2, 1) := by decide +kernel
theorem d_L_law_908 : decode b_L_law 908 = .ok (.aload_n 0, 1) := by decide +kernel
theorem d_L_law_909 : decode b_L_law 909 = .ok (.iload 4, 2) := by decide +kernel
theorem d_L_law_911 : decode b_L_law 911 = .ok (.iconst 1, 1) := by decide +kernel
theorem d_L_law_912 : decode b_L_law 912 = .ok (.iadd, 1) := by decide +kernel
theorem d_L_law_913 : decode b_L_law 913 = .ok (.iaload, 1) := by decide +kernel
theorem d_L_law_914 : decode b_L_law 914 = .ok (.aload_n 0, 1) := by decide +kernel
theorem d_L_law_915 : decode b_L_law 915 = .ok (.iload 4, 2) := by decide +kernel
theorem d_L_law_917 : decode b_L_law 917 = .ok (.iconst 2, 1) := by decide +kernel
theorem d_L_law_918 : decode b_L_law 918 = .ok (.iadd, 1) := by decide +kernel
theorem d_L_law_919 : decode b_L_law 919 = .ok (.iaload, 1) := by decide +kernel
theorem d_L_law_920 : decode b_L_law 920 = .ok (.invokevirtual 137, 3) := by decide +kernel
theorem d_L_law_923 : decode b_L_law 923 = .ok (.lstore 6, 2) := by decide +kernel
theorem d_L_law_925 : decode b_L_law 925 = .ok (.aload_n 2, 1) := by decide +kernel
theorem d_L_law_926 : decode b_L_law 926 = .ok (.invokevirtual 83, 3) := by decide +kernel
theorem d_L_law_929 : decode b_L_law 929 = .ok (.iload 5, 2) := by decide +kernel
theorem d_L_law_931 : decode b_L_law 931 = .ok (.if_icmp .eq 5, 3) := by decide +kernel
theorem d_L_law_934 : decode b_L_law 934 = .ok (.iconst 0, 1) := by decide +kernel
theorem d_L_law_935 : decode b_L_law 935 = .ok (.ireturn, 1) := by decide +kernel
theorem d_L_law_936 : decode b_L_law 936 = .ok (.iload 5, 2) := by decide +kernel
theorem d_L_law_938 : decode b_L_law 938 = .ok (.ifCond .ne 14, 3) := by decide +kernel
theorem d_L_law_941 : decode b_L_law 941 = .ok (.aload_n 3, 1) := by decide +kernel
theorem d_L_law_942 : decode b_L_law 942 = .ok (.iconst 0, 1) := by decide +kernel
theorem d_L_law_943 : decode b_L_law 943 = .ok (.laload, 1) := by decide +kernel
theorem d_L_law_944 : decode b_L_law 944 = .ok (.lload 6, 2) := by decide +kernel
theorem d_L_law_946 : decode b_L_law 946 = .ok (.lcmp, 1) := by decide +kernel
theorem d_L_law_947 : decode b_L_law 947 = .ok (.ifCond .eq 5, 3) := by decide +kernel
theorem d_L_law_950 : decode b_L_law 950 = .ok (.iconst 0, 1) := by decide +kernel
theorem d_L_law_951 : decode b_L_law 951 = .ok (.ireturn, 1) := by decide +kernel
theorem d_L_law_952 : decode b_L_law 952 = .ok (.goto 297, 3) := by decide +kernel
theorem d_L_law_955 : decode b_L_law 955 = .ok (.aload_n 1, 1) := by decide +kernel
theorem d_L_law_956 : decode b_L_law 956 = .ok (.aload_n 0, 1) := by decide +kernel
theorem d_L_law_957 : decode b_L_law 957 = .ok (.iload 4, 2) := by decide +kernel
theorem d_L_law_959 : decode b_L_law 959 = .ok (.iconst 1, 1) := by decide +kernel
theorem d_L_law_960 : decode b_L_law 960 = .ok (.iadd, 1) := by decide +kernel
theorem d_L_law_961 : decode b_L_law 961 = .ok (.iaload, 1) := by decide +kernel
theorem d_L_law_962 : decode b_L_law 962 = .ok (.aload_n 0, 1) := by decide +kernel
theorem d_L_law_963 : decode b_L_law 963 = .ok (.iload 4, 2) := by decide +kernel
theorem d_L_law_965 : decode b_L_law 965 = .ok (.iconst 2, 1) := by decide +kernel
theorem d_L_law_966 : decode b_L_law 966 = .ok (.iadd, 1) := by decide +kernel
theorem d_L_law_967 : decode b_L_law 967 = .ok (.iaload, 1) := by decide +kernel
theorem d_L_law_968 : decode b_L_law 968 = .ok (.aload_n 3, 1) := by decide +kernel
theorem d_L_law_969 : decode b_L_law 969 = .ok (.invokestatic 138, 3) := by decide +kernel
theorem d_L_law_972 : decode b_L_law 972 = .ok (.istore 5, 2) := by decide +kernel
theorem d_L_law_974 : decode b_L_law 974 = .ok (.aload_n 2, 1) := by decide +kernel
theorem d_L_law_975 : decode b_L_law 975 = .ok (.aload_n 0, 1) := by decide +kernel
theorem d_L_law_976 : decode b_L_law 976 = .ok (.iload 4, 2) := by decide +kernel
theorem d_L_law_978 : decode b_L_law 978 = .ok (.iconst 1, 1) := by decide +kernel
theorem d_L_law_979 : decode b_L_law 979 = .ok (.iadd, 1) := by decide +kernel
theorem d_L_law_980 : decode b_L_law 980 = .ok (.iaload, 1) := by decide +kernel
theorem d_L_law_981 : decode b_L_law 981 = .ok (.aload_n 0, 1) := by decide +kernel
theorem d_L_law_982 : decode b_L_law 982 = .ok (.iload 4, 2) := by decide +kernel
theorem d_L_law_984 : decode b_L_law 984 = .ok (.iconst 2, 1) := by decide +kernel
theorem d_L_law_985 : decode b_L_law 985 = .ok (.iadd, 1) := by decide +kernel
theorem d_L_law_986 : decode b_L_law 986 = .ok (.iaload, 1) := by decide +kernel
theorem d_L_law_987 : decode b_L_law 987 = .ok (.invokevirtual 140, 3) := by decide +kernel
theorem d_L_law_990 : decode b_L_law 990 = .ok (.istore 6, 2) := by decide +kernel
theorem d_L_law_992 : decode b_L_law 992 = .ok (.aload_n 2, 1) := by decide +kernel
theorem d_L_law_993 : decode b_L_law 993 = .ok (.invokevirtual 83, 3) := by decide +kernel
theorem d_L_law_996 : decode b_L_law 996 = .ok (.iload 5, 2) := by decide +kernel
theorem d_L_law_998 : decode b_L_law 998 = .ok (.if_icmp .eq 5, 3) := by decide +kernel
theorem d_L_law_1001 : decode b_L_law 1001 = .ok (.iconst 0, 1) := by decide +kernel
theorem d_L_law_1002 : decode b_L_law 1002 = .ok (.ireturn, 1) := by decide +kernel
theorem d_L_law_1003 : decode b_L_law 1003 = .ok (.iload 5, 2) := by decide +kernel
theorem d_L_law_1005 : decode b_L_law 1005 = .ok (.ifCond .ne 15, 3) := by decide +kernel
theorem d_L_law_1008 : decode b_L_law 1008 = .ok (.aload_n 3, 1) := by decide +kernel
theorem d_L_law_1009 : decode b_L_law 1009 = .ok (.iconst 0, 1) := by decide +kernel
theorem d_L_law_1010 : decode b_L_law 1010 = .ok (.laload, 1) := by decide +kernel
theorem d_L_law_1011 : decode b_L_law 1011 = .ok (.iload 6, 2) := by decide +kernel
theorem d_L_law_1013 : decode b_L_law 1013 = .ok (.i2l, 1) := by decide +kernel
theorem d_L_law_1014 : decode b_L_law 1014 = .ok (.lcmp, 1) := by decide +kernel
theorem d_L_law_1015 : decode b_L_law 1015 = .ok (.ifCond .eq 5, 3) := by decide +kernel
theorem d_L_law_1018 : decode b_L_law 1018 = .ok (.iconst 0, 1) := by decide +kernel
theorem d_L_law_1019 : decode b_L_law 1019 = .ok (.ireturn, 1) := by decide +kernel
theorem d_L_law_1020 : decode b_L_law 1020 = .ok (.goto 229, 3) := by decide +kernel
theorem d_L_law_1023 : decode b_L_law 1023 = .ok (.aload_n 1, 1) := by decide +kernel
theorem d_L_law_1024 : decode b_L_law 1024 = .ok (.aload_n 0, 1) := by decide +kernel
theorem d_L_law_1025 : decode b_L_law 1025 = .ok (.iload 4, 2) := by decide +kernel
theorem d_L_law_1027 : decode b_L_law 1027 = .ok (.iconst 1, 1) := by decide +kernel
theorem d_L_law_1028 : decode b_L_law 1028 = .ok (.iadd, 1) := by decide +kernel
theorem d_L_law_1029 : decode b_L_law 1029 = .ok (.iaload, 1) := by decide +kernel
theorem d_L_law_1030 : decode b_L_law 1030 = .ok (.aload_n 0, 1) := by decide +kernel
theorem d_L_law_1031 : decode b_L_law 1031 = .ok (.iload 4, 2) := by decide +kernel
theorem d_L_law_1033 : decode b_L_law 1033 = .ok (.iconst 2, 1) := by decide +kernel
theorem d_L_law_1034 : decode b_L_law 1034 = .ok (.iadd, 1) := by decide +kernel
theorem d_L_law_1035 : decode b_L_law 1035 = .ok (.iaload, 1) := by decide +kernel
theorem d_L_law_1036 : decode b_L_law 1036 = .ok (.aload_n 3, 1) := by decide +kernel
theorem d_L_law_1037 : decode b_L_law 1037 = .ok (.invokestatic 141, 3) := by decide +kernel
theorem d_L_law_1040 : decode b_L_law 1040 = .ok (.istore 5, 2) := by decide +kernel
theorem d_L_law_1042 : decode b_L_law 1042 = .ok (.aload_n 2, 1) := by decide +kernel
theorem d_L_law_1043 : decode b_L_law 1043 = .ok (.aload_n 0, 1) := by decide +kernel
theorem d_L_law_1044 : decode b_L_law 1044 = .ok (.iload 4, 2) := by decide +kernel
theorem d_L_law_1046 : decode b_L_law 1046 = .ok (.iconst 1, 1) := by decide +kernel
theorem d_L_law_1047 : decode b_L_law 1047 = .ok (.iadd, 1) := by decide +kernel
theorem d_L_law_1048 : decode b_L_law 1048 = .ok (.iaload, 1) := by decide +kernel
theorem d_L_law_1049 : decode b_L_law 1049 = .ok (.aload_n 0, 1) := by decide +kernel
theorem d_L_law_1050 : decode b_L_law 1050 = .ok (.iload 4, 2) := by decide +kernel
theorem d_L_law_1052 : decode b_L_law 1052 = .ok (.iconst 2, 1) := by decide +kernel
theorem d_L_law_1053 : decode b_L_law 1053 = .ok (.iadd, 1) := by decide +kernel
theorem d_L_law_1054 : decode b_L_law 1054 = .ok (.iaload, 1) := by decide +kernel
theorem d_L_law_1055 : decode b_L_law 1055 = .ok (.invokevirtual 143, 3) := by decide +kernel
theorem d_L_law_1058 : decode b_L_law 1058 = .ok (.lstore 6, 2) := by decide +kernel
theorem d_L_law_1060 : decode b_L_law 1060 = .ok (.aload_n 2, 1) := by decide +kernel
theorem d_L_law_1061 : decode b_L_law 1061 = .ok (.invokevirtual 83, 3) := by decide +kernel
theorem d_L_law_1064 : decode b_L_law 1064 = .ok (.iload 5, 2) := by decide +kernel
theorem d_L_law_1066 : decode b_L_law 1066 = .ok (.if_icmp .eq 5, 3) := by decide +kernel
theorem d_L_law_1069 : decode b_L_law 1069 = .ok (.iconst 0, 1) := by decide +kernel
theorem d_L_law_1070 : decode b_L_law 1070 = .ok (.ireturn, 1) := by decide +kernel
theorem d_L_law_1071 : decode b_L_law 1071 = .ok (.iload 5, 2) := by decide +kernel
theorem d_L_law_1073 : decode b_L_law 1073 = .ok (.ifCond .ne 14, 3) := by decide +kernel
theorem d_L_law_1076 : decode b_L_law 1076 = .ok (.aload_n 3, 1) := by decide +kernel
theorem d_L_law_1077 : decode b_L_law 1077 = .ok (.iconst 0, 1) := by decide +kernel
theorem d_L_law_1078 : decode b_L_law 1078 = .ok (.laload, 1) := by decide +kernel
theorem d_L_law_1079 : decode b_L_law 1079 = .ok (.lload 6, 2) := by decide +kernel
theorem d_L_law_1081 : decode b_L_law 1081 = .ok (.lcmp, 1) := by decide +kernel
theorem d_L_law_1082 : decode b_L_law 1082 = .ok (.ifCond .eq 5, 3) := by decide +kernel
theorem d_L_law_1085 : decode b_L_law 1085 = .ok (.iconst 0, 1) := by decide +kernel
theorem d_L_law_1086 : decode b_L_law 1086 = .ok (.ireturn, 1) := by decide +kernel
theorem d_L_law_1087 : decode b_L_law 1087 = .ok (.goto 162, 3) := by decide +kernel
theorem d_L_law_1090 : decode b_L_law 1090 = .ok (.aload_n 1, 1) := by decide +kernel
theorem d_L_law_1091 : decode b_L_law 1091 = .ok (.aload_n 0, 1) := by decide +kernel
theorem d_L_law_1092 : decode b_L_law 1092 = .ok (.iload 4, 2) := by decide +kernel
theorem d_L_law_1094 : decode b_L_law 1094 = .ok (.iconst 1, 1) := by decide +kernel
theorem d_L_law_1095 : decode b_L_law 1095 = .ok (.iadd, 1) := by decide +kernel
theorem d_L_law_1096 : decode b_L_law 1096 = .ok (.iaload, 1) := by decide +kernel
theorem d_L_law_1097 : decode b_L_law 1097 = .ok (.aload_n 0, 1) := by decide +kernel
theorem d_L_law_1098 : decode b_L_law 1098 = .ok (.iload 4, 2) := by decide +kernel
theorem d_L_law_1100 : decode b_L_law 1100 = .ok (.iconst 2, 1) := by decide +kernel
theorem d_L_law_1101 : decode b_L_law 1101 = .ok (.iadd, 1) := by decide +kernel
theorem d_L_law_1102 : decode b_L_law 1102 = .ok (.iaload, 1) := by decide +kernel
theorem d_L_law_1103 : decode b_L_law 1103 = .ok (.aload_n 3, 1) := by decide +kernel
theorem d_L_law_1104 : decode b_L_law 1104 = .ok (.invokestatic 144, 3) := by decide +kernel
theorem d_L_law_1107 : decode b_L_law 1107 = .ok (.istore 5, 2) := by decide +kernel
theorem d_L_law_1109 : decode b_L_law 1109 = .ok (.aload_n 2, 1) := by decide +kernel
theorem d_L_law_1110 : decode b_L_law 1110 = .ok (.aload_n 0, 1) := by decide +kernel
theorem d_L_law_1111 : decode b_L_law 1111 = .ok (.iload 4, 2) := by decide +kernel
theorem d_L_law_1113 : decode b_L_law 1113 = .ok (.iconst 1, 1) := by decide +kernel
theorem d_L_law_1114 : decode b_L_law 1114 = .ok (.iadd, 1) := by decide +kernel
theorem d_L_law_1115 : decode b_L_law 1115 = .ok (.iaload, 1) := by decide +kernel
theorem d_L_law_1116 : decode b_L_law 1116 = .ok (.aload_n 0, 1) := by decide +kernel
theorem d_L_law_1117 : decode b_L_law 1117 = .ok (.iload 4, 2) := by decide +kernel
theorem d_L_law_1119 : decode b_L_law 1119 = .ok (.iconst 2, 1) := by decide +kernel
theorem d_L_law_1120 : decode b_L_law 1120 = .ok (.iadd, 1) := by decide +kernel
theorem d_L_law_1121 : decode b_L_law 1121 = .ok (.iaload, 1) := by decide +kernel
theorem d_L_law_1122 : decode b_L_law 1122 = .ok (.invokevirtual 146, 3) := by decide +kernel
theorem d_L_law_1125 : decode b_L_law 1125 = .ok (.lstore 6, 2) := by decide +kernel
theorem d_L_law_1127 : decode b_L_law 1127 = .ok (.aload_n 2, 1) := by decide +kernel
theorem d_L_law_1128 : decode b_L_law 1128 = .ok (.invokevirtual 83, 3) := by decide +kernel
theorem d_L_law_1131 : decode b_L_law 1131 = .ok (.iload 5, 2) := by decide +kernel
theorem d_L_law_1133 : decode b_L_law 1133 = .ok (.if_icmp .eq 5, 3) := by decide +kernel
theorem d_L_law_1136 : decode b_L_law 1136 = .ok (.iconst 0, 1) := by decide +kernel
theorem d_L_law_1137 : decode b_L_law 1137 = .ok (.ireturn, 1) := by decide +kernel
theorem d_L_law_1138 : decode b_L_law 1138 = .ok (.iload 5, 2) := by decide +kernel
theorem d_L_law_1140 : decode b_L_law 1140 = .ok (.ifCond .ne 14, 3) := by decide +kernel
theorem d_L_law_1143 : decode b_L_law 1143 = .ok (.aload_n 3, 1) := by decide +kernel
theorem d_L_law_1144 : decode b_L_law 1144 = .ok (.iconst 0, 1) := by decide +kernel
theorem d_L_law_1145 : decode b_L_law 1145 = .ok (.laload, 1) := by decide +kernel
theorem d_L_law_1146 : decode b_L_law 1146 = .ok (.lload 6, 2) := by decide +kernel
theorem d_L_law_1148 : decode b_L_law 1148 = .ok (.lcmp, 1) := by decide +kernel
theorem d_L_law_1149 : decode b_L_law 1149 = .ok (.ifCond .eq 5, 3) := by decide +kernel
theorem d_L_law_1152 : decode b_L_law 1152 = .ok (.iconst 0, 1) := by decide +kernel
theorem d_L_law_1153 : decode b_L_law 1153 = .ok (.ireturn, 1) := by decide +kernel
theorem d_L_law_1154 : decode b_L_law 1154 = .ok (.goto 95, 3) := by decide +kernel
theorem d_L_law_1157 : decode b_L_law 1157 = .ok (.aload_n 1, 1) := by decide +kernel
theorem d_L_law_1158 : decode b_L_law 1158 = .ok (.aload_n 0, 1) := by decide +kernel
theorem d_L_law_1159 : decode b_L_law 1159 = .ok (.iload 4, 2) := by decide +kernel
theorem d_L_law_1161 : decode b_L_law 1161 = .ok (.iconst 1, 1) := by decide +kernel
theorem d_L_law_1162 : decode b_L_law 1162 = .ok (.iadd, 1) := by decide +kernel
theorem d_L_law_1163 : decode b_L_law 1163 = .ok (.iaload, 1) := by decide +kernel
theorem d_L_law_1164 : decode b_L_law 1164 = .ok (.aload_n 0, 1) := by decide +kernel
theorem d_L_law_1165 : decode b_L_law 1165 = .ok (.iload 4, 2) := by decide +kernel
theorem d_L_law_1167 : decode b_L_law 1167 = .ok (.iconst 2, 1) := by decide +kernel
theorem d_L_law_1168 : decode b_L_law 1168 = .ok (.iadd, 1) := by decide +kernel
theorem d_L_law_1169 : decode b_L_law 1169 = .ok (.iaload, 1) := by decide +kernel
theorem d_L_law_1170 : decode b_L_law 1170 = .ok (.aload_n 0, 1) := by decide +kernel
theorem d_L_law_1171 : decode b_L_law 1171 = .ok (.iload 4, 2) := by decide +kernel
theorem d_L_law_1173 : decode b_L_law 1173 = .ok (.iconst 3, 1) := by decide +kernel
theorem d_L_law_1174 : decode b_L_law 1174 = .ok (.iadd, 1) := by decide +kernel
theorem d_L_law_1175 : decode b_L_law 1175 = .ok (.iaload, 1) := by decide +kernel
theorem d_L_law_1176 : decode b_L_law 1176 = .ok (.aload_n 0, 1) := by decide +kernel
theorem d_L_law_1177 : decode b_L_law 1177 = .ok (.iload 4, 2) := by decide +kernel
theorem d_L_law_1179 : decode b_L_law 1179 = .ok (.iconst 4, 1) := by decide +kernel
theorem d_L_law_1180 : decode b_L_law 1180 = .ok (.iadd, 1) := by decide +kernel
theorem d_L_law_1181 : decode b_L_law 1181 = .ok (.iaload, 1) := by decide +kernel
theorem d_L_law_1182 : decode b_L_law 1182 = .ok (.aload_n 3, 1) := by decide +kernel
theorem d_L_law_1183 : decode b_L_law 1183 = .ok (.invokestatic 147, 3) := by decide +kernel
theorem d_L_law_1186 : decode b_L_law 1186 = .ok (.istore 5, 2) := by decide +kernel
theorem d_L_law_1188 : decode b_L_law 1188 = .ok (.aload_n 2, 1) := by decide +kernel
theorem d_L_law_1189 : decode b_L_law 1189 = .ok (.aload_n 0, 1) := by decide +kernel
theorem d_L_law_1190 : decode b_L_law 1190 = .ok (.iload 4, 2) := by decide +kernel
theorem d_L_law_1192 : decode b_L_law 1192 = .ok (.iconst 1, 1) := by decide +kernel
theorem d_L_law_1193 : decode b_L_law 1193 = .ok (.iadd, 1) := by decide +kernel
theorem d_L_law_1194 : decode b_L_law 1194 = .ok (.iaload, 1) := by decide +kernel
theorem d_L_law_1195 : decode b_L_law 1195 = .ok (.aload_n 0, 1) := by decide +kernel
theorem d_L_law_1196 : decode b_L_law 1196 = .ok (.iload 4, 2) := by decide +kernel
theorem d_L_law_1198 : decode b_L_law 1198 = .ok (.iconst 2, 1) := by decide +kernel
theorem d_L_law_1199 : decode b_L_law 1199 = .ok (.iadd, 1) := by decide +kernel
theorem d_L_law_1200 : decode b_L_law 1200 = .ok (.iaload, 1) := by decide +kernel
theorem d_L_law_1201 : decode b_L_law 1201 = .ok (.aload_n 0, 1) := by decide +kernel
theorem d_L_law_1202 : decode b_L_law 1202 = .ok (.iload 4, 2) := by decide +kernel
theorem d_L_law_1204 : decode b_L_law 1204 = .ok (.iconst 3, 1) := by decide +kernel
theorem d_L_law_1205 : decode b_L_law 1205 = .ok (.iadd, 1) := by decide +kernel
theorem d_L_law_1206 : decode b_L_law 1206 = .ok (.iaload, 1) := by decide +kernel
theorem d_L_law_1207 : decode b_L_law 1207 = .ok (.aload_n 0, 1) := by decide +kernel
theorem d_L_law_1208 : decode b_L_law 1208 = .ok (.iload 4, 2) := by decide +kernel
theorem d_L_law_1210 : decode b_L_law 1210 = .ok (.iconst 4, 1) := by decide +kernel
theorem d_L_law_1211 : decode b_L_law 1211 = .ok (.iadd, 1) := by decide +kernel
theorem d_L_law_1212 : decode b_L_law 1212 = .ok (.iaload, 1) := by decide +kernel
theorem d_L_law_1213 : decode b_L_law 1213 = .ok (.invokevirtual 150, 3) := by decide +kernel
theorem d_L_law_1216 : decode b_L_law 1216 = .ok (.istore 6, 2) := by decide +kernel
theorem d_L_law_1218 : decode b_L_law 1218 = .ok (.aload_n 2, 1) := by decide +kernel
theorem d_L_law_1219 : decode b_L_law 1219 = .ok (.invokevirtual 83, 3) := by decide +kernel
theorem d_L_law_1222 : decode b_L_law 1222 = .ok (.iload 5, 2) := by decide +kernel
theorem d_L_law_1224 : decode b_L_law 1224 = .ok (.if_icmp .eq 5, 3) := by decide +kernel
theorem d_L_law_1227 : decode b_L_law 1227 = .ok (.iconst 0, 1) := by decide +kernel
theorem d_L_law_1228 : decode b_L_law 1228 = .ok (.ireturn, 1) := by decide +kernel
theorem d_L_law_1229 : decode b_L_law 1229 = .ok (.iload 5, 2) := by decide +kernel
theorem d_L_law_1231 : decode b_L_law 1231 = .ok (.ifCond .ne 15, 3) := by decide +kernel
theorem d_L_law_1234 : decode b_L_law 1234 = .ok (.aload_n 3, 1) := by decide +kernel
theorem d_L_law_1235 : decode b_L_law 1235 = .ok (.iconst 0, 1) := by decide +kernel
theorem d_L_law_1236 : decode b_L_law 1236 = .ok (.laload, 1) := by decide +kernel
theorem d_L_law_1237 : decode b_L_law 1237 = .ok (.iload 6, 2) := by decide +kernel
theorem d_L_law_1239 : decode b_L_law 1239 = .ok (.i2l, 1) := by decide +kernel
theorem d_L_law_1240 : decode b_L_law 1240 = .ok (.lcmp, 1) := by decide +kernel
theorem d_L_law_1241 : decode b_L_law 1241 = .ok (.ifCond .eq 5, 3) := by decide +kernel
theorem d_L_law_1244 : decode b_L_law 1244 = .ok (.iconst 0, 1) := by decide +kernel
theorem d_L_law_1245 : decode b_L_law 1245 = .ok (.ireturn, 1) := by decide +kernel
theorem d_L_law_1246 : decode b_L_law 1246 = .ok (.goto 3, 3) := by decide +kernel
theorem d_L_law_1249 : decode b_L_law 1249 = .ok (.iinc 4 7, 3) := by decide +kernel
theorem d_L_law_1252 : decode b_L_law 1252 = .ok (.goto (-1229), 3) := by decide +kernel
theorem d_L_law_1255 : decode b_L_law 1255 = .ok (.iconst 1, 1) := by decide +kernel
theorem d_L_law_1256 : decode b_L_law 1256 = .ok (.ireturn, 1) := by decide +kernel
