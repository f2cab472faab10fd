theorem dX8_walk_0 : decode cX8_walk 0 = .ok (.aload_n 0, 1) := by decide +kernel
theorem dX8_walk_1 : decode cX8_walk 1 = .ok (.iload_n 1, 1) := by decide +kernel
theorem dX8_walk_2 : decode cX8_walk 2 = .ok (.invokevirtual 139, 3) := by decide +kernel
theorem dX8_walk_5 : decode cX8_walk 5 = .ok (.aload_n 0, 1) := by decide +kernel
theorem dX8_walk_6 : decode cX8_walk 6 = .ok (.getfield 85, 3) := by decide +kernel
theorem dX8_walk_9 : decode cX8_walk 9 = .ok (.ifCond .ne 7, 3) := by decide +kernel
theorem dX8_walk_12 : decode cX8_walk 12 = .ok (.iconst (-1), 1) := by decide +kernel
theorem dX8_walk_13 : decode cX8_walk 13 = .ok (.goto 4, 3) := by decide +kernel
theorem dX8_walk_16 : decode cX8_walk 16 = .ok (.iconst 0, 1) := by decide +kernel
theorem dX8_walk_17 : decode cX8_walk 17 = .ok (.istore_n 3, 1) := by decide +kernel
theorem dX8_walk_18 : decode cX8_walk 18 = .ok (.aload_n 0, 1) := by decide +kernel
theorem dX8_walk_19 : decode cX8_walk 19 = .ok (.invokevirtual 143, 3) := by decide +kernel
theorem dX8_walk_22 : decode cX8_walk 22 = .ok (.iload_n 3, 1) := by decide +kernel
theorem dX8_walk_23 : decode cX8_walk 23 = .ok (.ifCond .ne 40, 3) := by decide +kernel
theorem dX8_walk_26 : decode cX8_walk 26 = .ok (.aload_n 0, 1) := by decide +kernel
theorem dX8_walk_27 : decode cX8_walk 27 = .ok (.getfield 85, 3) := by decide +kernel
theorem dX8_walk_30 : decode cX8_walk 30 = .ok (.ifCond .le 33, 3) := by decide +kernel
theorem dX8_walk_33 : decode cX8_walk 33 = .ok (.aload_n 0, 1) := by decide +kernel
theorem dX8_walk_34 : decode cX8_walk 34 = .ok (.invokevirtual 146, 3) := by decide +kernel
theorem dX8_walk_37 : decode cX8_walk 37 = .ok (.aload_n 0, 1) := by decide +kernel
theorem dX8_walk_38 : decode cX8_walk 38 = .ok (.invokevirtual 149, 3) := by decide +kernel
theorem dX8_walk_41 : decode cX8_walk 41 = .ok (.istore_n 3, 1) := by decide +kernel
theorem dX8_walk_42 : decode cX8_walk 42 = .ok (.iload_n 3, 1) := by decide +kernel
theorem dX8_walk_43 : decode cX8_walk 43 = .ok (.ifCond .ne 11, 3) := by decide +kernel
theorem dX8_walk_46 : decode cX8_walk 46 = .ok (.aload_n 0, 1) := by decide +kernel
theorem dX8_walk_47 : decode cX8_walk 47 = .ok (.iload_n 2, 1) := by decide +kernel
theorem dX8_walk_48 : decode cX8_walk 48 = .ok (.invokevirtual 153, 3) := by decide +kernel
theorem dX8_walk_51 : decode cX8_walk 51 = .ok (.goto 4, 3) := by decide +kernel
theorem dX8_walk_54 : decode cX8_walk 54 = .ok (.iload_n 3, 1) := by decide +kernel
theorem dX8_walk_55 : decode cX8_walk 55 = .ok (.istore_n 3, 1) := by decide +kernel
theorem dX8_walk_56 : decode cX8_walk 56 = .ok (.aload_n 0, 1) := by decide +kernel
theorem dX8_walk_57 : decode cX8_walk 57 = .ok (.invokevirtual 143, 3) := by decide +kernel
theorem dX8_walk_60 : decode cX8_walk 60 = .ok (.goto (-38), 3) := by decide +kernel
theorem dX8_walk_63 : decode cX8_walk 63 = .ok (.iload_n 3, 1) := by decide +kernel
theorem dX8_walk_64 : decode cX8_walk 64 = .ok (.ifCond .ne 10, 3) := by decide +kernel
theorem dX8_walk_67 : decode cX8_walk 67 = .ok (.aload_n 0, 1) := by decide +kernel
theorem dX8_walk_68 : decode cX8_walk 68 = .ok (.getfield 114, 3) := by decide +kernel
theorem dX8_walk_71 : decode cX8_walk 71 = .ok (.goto 4, 3) := by decide +kernel
theorem dX8_walk_74 : decode cX8_walk 74 = .ok (.iload_n 3, 1) := by decide +kernel
theorem dX8_walk_75 : decode cX8_walk 75 = .ok (.ireturn, 1) := by decide +kernel
theorem dX8_come_0 : decode cX8_come 0 = .ok (.aload_n 0, 1) := by decide +kernel
theorem dX8_come_1 : decode cX8_come 1 = .ok (.iconst 0, 1) := by decide +kernel
theorem dX8_come_2 : decode cX8_come 2 = .ok (.invokevirtual 139, 3) := by decide +kernel
theorem dX8_come_5 : decode cX8_come 5 = .ok (.iconst 0, 1) := by decide +kernel
theorem dX8_come_6 : decode cX8_come 6 = .ok (.istore_n 1, 1) := by decide +kernel
theorem dX8_come_7 : decode cX8_come 7 = .ok (.iconst 0, 1) := by decide +kernel
theorem dX8_come_8 : decode cX8_come 8 = .ok (.istore_n 2, 1) := by decide +kernel
theorem dX8_come_9 : decode cX8_come 9 = .ok (.iload_n 1, 1) := by decide +kernel
theorem dX8_come_10 : decode cX8_come 10 = .ok (.ifCond .ne 61, 3) := by decide +kernel
theorem dX8_come_13 : decode cX8_come 13 = .ok (.iload_n 2, 1) := by decide +kernel
theorem dX8_come_14 : decode cX8_come 14 = .ok (.ifCond .ne 57, 3) := by decide +kernel
theorem dX8_come_17 : decode cX8_come 17 = .ok (.aload_n 0, 1) := by decide +kernel
theorem dX8_come_18 : decode cX8_come 18 = .ok (.invokevirtual 143, 3) := by decide +kernel
theorem dX8_come_21 : decode cX8_come 21 = .ok (.aload_n 0, 1) := by decide +kernel
theorem dX8_come_22 : decode cX8_come 22 = .ok (.invokevirtual 146, 3) := by decide +kernel
theorem dX8_come_25 : decode cX8_come 25 = .ok (.aload_n 0, 1) := by decide +kernel
theorem dX8_come_26 : decode cX8_come 26 = .ok (.invokevirtual 149, 3) := by decide +kernel
theorem dX8_come_29 : decode cX8_come 29 = .ok (.istore_n 1, 1) := by decide +kernel
theorem dX8_come_30 : decode cX8_come 30 = .ok (.iload_n 1, 1) := by decide +kernel
theorem dX8_come_31 : decode cX8_come 31 = .ok (.ifCond .ne 14, 3) := by decide +kernel
theorem dX8_come_34 : decode cX8_come 34 = .ok (.aload_n 0, 1) := by decide +kernel
theorem dX8_come_35 : decode cX8_come 35 = .ok (.getfield 105, 3) := by decide +kernel
theorem dX8_come_38 : decode cX8_come 38 = .ok (.ifCond .eq 7, 3) := by decide +kernel
theorem dX8_come_41 : decode cX8_come 41 = .ok (.iconst 1, 1) := by decide +kernel
theorem dX8_come_42 : decode cX8_come 42 = .ok (.goto 4, 3) := by decide +kernel
theorem dX8_come_45 : decode cX8_come 45 = .ok (.iconst 0, 1) := by decide +kernel
theorem dX8_come_46 : decode cX8_come 46 = .ok (.istore_n 2, 1) := by decide +kernel
theorem dX8_come_47 : decode cX8_come 47 = .ok (.iload_n 1, 1) := by decide +kernel
theorem dX8_come_48 : decode cX8_come 48 = .ok (.ifCond .ne 18, 3) := by decide +kernel
theorem dX8_come_51 : decode cX8_come 51 = .ok (.aload_n 0, 1) := by decide +kernel
theorem dX8_come_52 : decode cX8_come 52 = .ok (.getfield 105, 3) := by decide +kernel
theorem dX8_come_55 : decode cX8_come 55 = .ok (.ifCond .ne 11, 3) := by decide +kernel
theorem dX8_come_58 : decode cX8_come 58 = .ok (.aload_n 0, 1) := by decide +kernel
theorem dX8_come_59 : decode cX8_come 59 = .ok (.iconst 1, 1) := by decide +kernel
theorem dX8_come_60 : decode cX8_come 60 = .ok (.invokevirtual 153, 3) := by decide +kernel
theorem dX8_come_63 : decode cX8_come 63 = .ok (.goto 4, 3) := by decide +kernel
theorem dX8_come_66 : decode cX8_come 66 = .ok (.iload_n 1, 1) := by decide +kernel
theorem dX8_come_67 : decode cX8_come 67 = .ok (.istore_n 1, 1) := by decide +kernel
theorem dX8_come_68 : decode cX8_come 68 = .ok (.goto (-59), 3) := by decide +kernel
theorem dX8_come_71 : decode cX8_come 71 = .ok (.iload_n 1, 1) := by decide +kernel
theorem dX8_come_72 : decode cX8_come 72 = .ok (.ireturn, 1) := by decide +kernel
theorem dX8_dots_0 : decode cX8_dots 0 = .ok (.aload_n 0, 1) := by decide +kernel
theorem dX8_dots_1 : decode cX8_dots 1 = .ok (.getfield 92, 3) := by decide +kernel
theorem dX8_dots_4 : decode cX8_dots 4 = .ok (.ldc2_w 130, 3) := by decide +kernel
theorem dX8_dots_7 : decode cX8_dots 7 = .ok (.lcmp, 1) := by decide +kernel
theorem dX8_dots_8 : decode cX8_dots 8 = .ok (.ifCond .eq 14, 3) := by decide +kernel
theorem dX8_dots_11 : decode cX8_dots 11 = .ok (.aload_n 0, 1) := by decide +kernel
theorem dX8_dots_12 : decode cX8_dots 12 = .ok (.getfield 92, 3) := by decide +kernel
theorem dX8_dots_15 : decode cX8_dots 15 = .ok (.ldc2_w 124, 3) := by decide +kernel
theorem dX8_dots_18 : decode cX8_dots 18 = .ok (.lcmp, 1) := by decide +kernel
theorem dX8_dots_19 : decode cX8_dots 19 = .ok (.ifCond .ne 7, 3) := by decide +kernel
theorem dX8_dots_22 : decode cX8_dots 22 = .ok (.iconst 1, 1) := by decide +kernel
theorem dX8_dots_23 : decode cX8_dots 23 = .ok (.goto 4, 3) := by decide +kernel
theorem dX8_dots_26 : decode cX8_dots 26 = .ok (.iconst 0, 1) := by decide +kernel
theorem dX8_dots_27 : decode cX8_dots 27 = .ok (.ireturn, 1) := by decide +kernel
theorem dX8_resolve_0 : decode cX8_resolve 0 = .ok (.aload_n 0, 1) := by decide +kernel
theorem dX8_resolve_1 : decode cX8_resolve 1 = .ok (.iconst 0, 1) := by decide +kernel
theorem dX8_resolve_2 : decode cX8_resolve 2 = .ok (.iload_n 1, 1) := by decide +kernel
theorem dX8_resolve_3 : decode cX8_resolve 3 = .ok (.invokevirtual 157, 3) := by decide +kernel
theorem dX8_resolve_6 : decode cX8_resolve 6 = .ok (.ireturn, 1) := by decide +kernel
theorem dX8_addEntry_0 : decode cX8_addEntry 0 = .ok (.aload_n 0, 1) := by decide +kernel
theorem dX8_addEntry_1 : decode cX8_addEntry 1 = .ok (.getfield 31, 3) := by decide +kernel
theorem dX8_addEntry_4 : decode cX8_addEntry 4 = .ok (.aload_n 0, 1) := by decide +kernel
theorem dX8_addEntry_5 : decode cX8_addEntry 5 = .ok (.getfield 82, 3) := by decide +kernel
theorem dX8_addEntry_8 : decode cX8_addEntry 8 = .ok (.aload_n 0, 1) := by decide +kernel
theorem dX8_addEntry_9 : decode cX8_addEntry 9 = .ok (.getfield 114, 3) := by decide +kernel
theorem dX8_addEntry_12 : decode cX8_addEntry 12 = .ok (.iastore, 1) := by decide +kernel
theorem dX8_addEntry_13 : decode cX8_addEntry 13 = .ok (.aload_n 0, 1) := by decide +kernel
theorem dX8_addEntry_14 : decode cX8_addEntry 14 = .ok (.getfield 34, 3) := by decide +kernel
theorem dX8_addEntry_17 : decode cX8_addEntry 17 = .ok (.aload_n 0, 1) := by decide +kernel
theorem dX8_addEntry_18 : decode cX8_addEntry 18 = .ok (.getfield 82, 3) := by decide +kernel
theorem dX8_addEntry_21 : decode cX8_addEntry 21 = .ok (.aload_n 0, 1) := by decide +kernel
theorem dX8_addEntry_22 : decode cX8_addEntry 22 = .ok (.getfield 92, 3) := by decide +kernel
theorem dX8_addEntry_25 : decode cX8_addEntry 25 = .ok (.lastore, 1) := by decide +kernel
theorem dX8_addEntry_26 : decode cX8_addEntry 26 = .ok (.aload_n 0, 1) := by decide +kernel
theorem dX8_addEntry_27 : decode cX8_addEntry 27 = .ok (.getfield 38, 3) := by decide +kernel
theorem dX8_addEntry_30 : decode cX8_addEntry 30 = .ok (.aload_n 0, 1) := by decide +kernel
theorem dX8_addEntry_31 : decode cX8_addEntry 31 = .ok (.getfield 82, 3) := by decide +kernel
theorem dX8_addEntry_34 : decode cX8_addEntry 34 = .ok (.iload_n 1, 1) := by decide +kernel
theorem dX8_addEntry_35 : decode cX8_addEntry 35 = .ok (.iastore, 1) := by decide +kernel
theorem dX8_addEntry_36 : decode cX8_addEntry 36 = .ok (.aload_n 0, 1) := by decide +kernel
theorem dX8_addEntry_37 : decode cX8_addEntry 37 = .ok (.aload_n 0, 1) := by decide +kernel
theorem dX8_addEntry_38 : decode cX8_addEntry 38 = .ok (.getfield 82, 3) := by decide +kernel
theorem dX8_addEntry_41 : decode cX8_addEntry 41 = .ok (.iconst 1, 1) := by decide +kernel
theorem dX8_addEntry_42 : decode cX8_addEntry 42 = .ok (.iadd, 1) := by decide +kernel
theorem dX8_addEntry_43 : decode cX8_addEntry 43 = .ok (.putfield 82, 3) := by decide +kernel
theorem dX8_addEntry_46 : decode cX8_addEntry 46 = .ok (.iload_n 1, 1) := by decide +kernel
theorem dX8_addEntry_47 : decode cX8_addEntry 47 = .ok (.ireturn, 1) := by decide +kernel
theorem dX8_newName_0 : decode cX8_newName 0 = .ok (.aload_n 0, 1) := by decide +kernel
theorem dX8_newName_1 : decode cX8_newName 1 = .ok (.getfield 60, 3) := by decide +kernel
theorem dX8_newName_4 : decode cX8_newName 4 = .ok (.ifCond .ne 5, 3) := by decide +kernel
theorem dX8_newName_7 : decode cX8_newName 7 = .ok (.iconst (-1), 1) := by decide +kernel
theorem dX8_newName_8 : decode cX8_newName 8 = .ok (.ireturn, 1) := by decide +kernel
theorem dX8_newName_9 : decode cX8_newName 9 = .ok (.aload_n 0, 1) := by decide +kernel
theorem dX8_newName_10 : decode cX8_newName 10 = .ok (.invokevirtual 161, 3) := by decide +kernel
theorem dX8_newName_13 : decode cX8_newName 13 = .ok (.ifCond .eq 6, 3) := by decide +kernel
theorem dX8_newName_16 : decode cX8_newName 16 = .ok (.bipush (-6), 2) := by decide +kernel
theorem dX8_newName_18 : decode cX8_newName 18 = .ok (.ireturn, 1) := by decide +kernel
theorem dX8_newName_19 : decode cX8_newName 19 = .ok (.aload_n 0, 1) := by decide +kernel
theorem dX8_newName_20 : decode cX8_newName 20 = .ok (.invokevirtual 165, 3) := by decide +kernel
theorem dX8_newName_23 : decode cX8_newName 23 = .ok (.istore_n 2, 1) := by decide +kernel
theorem dX8_newName_24 : decode cX8_newName 24 = .ok (.iload_n 2, 1) := by decide +kernel
theorem dX8_newName_25 : decode cX8_newName 25 = .ok (.ifCond .eq 5, 3) := by decide +kernel
theorem dX8_newName_28 : decode cX8_newName 28 = .ok (.iload_n 2, 1) := by decide +kernel
theorem dX8_newName_29 : decode cX8_newName 29 = .ok (.ireturn, 1) := by decide +kernel
theorem dX8_newName_30 : decode cX8_newName 30 = .ok (.aload_n 0, 1) := by decide +kernel
theorem dX8_newName_31 : decode cX8_newName 31 = .ok (.invokevirtual 168, 3) := by decide +kernel
theorem dX8_newName_34 : decode cX8_newName 34 = .ok (.ifCond .ne 18, 3) := by decide +kernel
theorem dX8_newName_37 : decode cX8_newName 37 = .ok (.aload_n 0, 1) := by decide +kernel
theorem dX8_newName_38 : decode cX8_newName 38 = .ok (.aload_n 0, 1) := by decide +kernel
theorem dX8_newName_39 : decode cX8_newName 39 = .ok (.getfield 114, 3) := by decide +kernel
theorem dX8_newName_42 : decode cX8_newName 42 = .ok (.aload_n 0, 1) := by decide +kernel
theorem dX8_newName_43 : decode cX8_newName 43 = .ok (.getfield 92, 3) := by decide +kernel
theorem dX8_newName_46 : decode cX8_newName 46 = .ok (.invokevirtual 132, 3) := by decide +kernel
theorem dX8_newName_49 : decode cX8_newName 49 = .ok (.ifCond .lt 6, 3) := by decide +kernel
theorem dX8_newName_52 : decode cX8_newName 52 = .ok (.bipush (-6), 2) := by decide +kernel
theorem dX8_newName_54 : decode cX8_newName 54 = .ok (.ireturn, 1) := by decide +kernel
theorem dX8_newName_55 : decode cX8_newName 55 = .ok (.aload_n 0, 1) := by decide +kernel
theorem dX8_newName_56 : decode cX8_newName 56 = .ok (.getfield 101, 3) := by decide +kernel
theorem dX8_newName_59 : decode cX8_newName 59 = .ok (.ifCond .eq 10, 3) := by decide +kernel
theorem dX8_newName_62 : decode cX8_newName 62 = .ok (.iload_n 1, 1) := by decide +kernel
theorem dX8_newName_63 : decode cX8_newName 63 = .ok (.ifCond .ne 6, 3) := by decide +kernel
theorem dX8_newName_66 : decode cX8_newName 66 = .ok (.bipush (-2), 2) := by decide +kernel
theorem dX8_newName_68 : decode cX8_newName 68 = .ok (.ireturn, 1) := by decide +kernel
theorem dX8_newName_69 : decode cX8_newName 69 = .ok (.aload_n 0, 1) := by decide +kernel
theorem dX8_newName_70 : decode cX8_newName 70 = .ok (.aload_n 0, 1) := by decide +kernel
theorem dX8_newName_71 : decode cX8_newName 71 = .ok (.getfield 114, 3) := by decide +kernel
theorem dX8_newName_74 : decode cX8_newName 74 = .ok (.iconst 1, 1) := by decide +kernel
theorem dX8_newName_75 : decode cX8_newName 75 = .ok (.invokevirtual 120, 3) := by decide +kernel
theorem dX8_newName_78 : decode cX8_newName 78 = .ok (.ifCond .eq 7, 3) := by decide +kernel
theorem dX8_newName_81 : decode cX8_newName 81 = .ok (.iconst 0, 1) := by decide +kernel
theorem dX8_newName_82 : decode cX8_newName 82 = .ok (.goto 5, 3) := by decide +kernel
theorem dX8_newName_85 : decode cX8_newName 85 = .ok (.bipush (-3), 2) := by decide +kernel
theorem dX8_newName_87 : decode cX8_newName 87 = .ok (.ireturn, 1) := by decide +kernel
theorem dX8_make_0 : decode cX8_make 0 = .ok (.iload_n 1, 1) := by decide +kernel
theorem dX8_make_1 : decode cX8_make 1 = .ok (.iconst 1, 1) := by decide +kernel
theorem dX8_make_2 : decode cX8_make 2 = .ok (.if_icmp .lt 35, 3) := by decide +kernel
theorem dX8_make_5 : decode cX8_make 5 = .ok (.iload_n 1, 1) := by decide +kernel
theorem dX8_make_6 : decode cX8_make 6 = .ok (.iconst 3, 1) := by decide +kernel
theorem dX8_make_7 : decode cX8_make 7 = .ok (.if_icmp .gt 30, 3) := by decide +kernel
theorem dX8_make_10 : decode cX8_make 10 = .ok (.iload_n 1, 1) := by decide +kernel
theorem dX8_make_11 : decode cX8_make 11 = .ok (.iconst 3, 1) := by decide +kernel
theorem dX8_make_12 : decode cX8_make 12 = .ok (.if_icmp .ge 13, 3) := by decide +kernel
theorem dX8_make_15 : decode cX8_make 15 = .ok (.iload_n 2, 1) := by decide +kernel
theorem dX8_make_16 : decode cX8_make 16 = .ok (.ifCond .lt 21, 3) := by decide +kernel
theorem dX8_make_19 : decode cX8_make 19 = .ok (.iload_n 2, 1) := by decide +kernel
theorem dX8_make_20 : decode cX8_make 20 = .ok (.bipush 15, 2) := by decide +kernel
theorem dX8_make_22 : decode cX8_make 22 = .ok (.if_icmp .gt 15, 3) := by decide +kernel
theorem dX8_make_25 : decode cX8_make 25 = .ok (.iload_n 1, 1) := by decide +kernel
theorem dX8_make_26 : decode cX8_make 26 = .ok (.iconst 3, 1) := by decide +kernel
theorem dX8_make_27 : decode cX8_make 27 = .ok (.if_icmp .ne 13, 3) := by decide +kernel
theorem dX8_make_30 : decode cX8_make 30 = .ok (.aload_n 0, 1) := by decide +kernel
theorem dX8_make_31 : decode cX8_make 31 = .ok (.getfield 63, 3) := by decide +kernel
theorem dX8_make_34 : decode cX8_make 34 = .ok (.ifCond .ne 6, 3) := by decide +kernel
theorem dX8_make_37 : decode cX8_make 37 = .ok (.bipush (-11), 2) := by decide +kernel
theorem dX8_make_39 : decode cX8_make 39 = .ok (.ireturn, 1) := by decide +kernel
theorem dX8_make_40 : decode cX8_make 40 = .ok (.aload_n 0, 1) := by decide +kernel
theorem dX8_make_41 : decode cX8_make 41 = .ok (.iload_n 1, 1) := by decide +kernel
theorem dX8_make_42 : decode cX8_make 42 = .ok (.iconst 1, 1) := by decide +kernel
theorem dX8_make_43 : decode cX8_make 43 = .ok (.if_icmp .ne 7, 3) := by decide +kernel
theorem dX8_make_46 : decode cX8_make 46 = .ok (.iconst 1, 1) := by decide +kernel
theorem dX8_make_47 : decode cX8_make 47 = .ok (.goto 4, 3) := by decide +kernel
theorem dX8_make_50 : decode cX8_make 50 = .ok (.iconst 0, 1) := by decide +kernel
theorem dX8_make_51 : decode cX8_make 51 = .ok (.invokevirtual 171, 3) := by decide +kernel
theorem dX8_make_54 : decode cX8_make 54 = .ok (.istore_n 3, 1) := by decide +kernel
theorem dX8_make_55 : decode cX8_make 55 = .ok (.iload_n 3, 1) := by decide +kernel
theorem dX8_make_56 : decode cX8_make 56 = .ok (.ifCond .eq 5, 3) := by decide +kernel
theorem dX8_make_59 : decode cX8_make 59 = .ok (.iload_n 3, 1) := by decide +kernel
theorem dX8_make_60 : decode cX8_make 60 = .ok (.ireturn, 1) := by decide +kernel
theorem dX8_make_61 : decode cX8_make 61 = .ok (.aload_n 0, 1) := by decide +kernel
theorem dX8_make_62 : decode cX8_make 62 = .ok (.invokevirtual 174, 3) := by decide +kernel
theorem dX8_make_65 : decode cX8_make 65 = .ok (.istore 4, 2) := by decide +kernel
theorem dX8_make_67 : decode cX8_make 67 = .ok (.iload 4, 2) := by decide +kernel
theorem dX8_make_69 : decode cX8_make 69 = .ok (.bipush 40, 2) := by decide +kernel
theorem dX8_make_71 : decode cX8_make 71 = .ok (.if_icmp .eq 12, 3) := by decide +kernel
theorem dX8_make_74 : decode cX8_make 74 = .ok (.aload_n 0, 1) := by decide +kernel
theorem dX8_make_75 : decode cX8_make 75 = .ok (.getfield 82, 3) := by decide +kernel
theorem dX8_make_78 : decode cX8_make 78 = .ok (.bipush 80, 2) := by decide +kernel
theorem dX8_make_80 : decode cX8_make 80 = .ok (.if_icmp .ne 6, 3) := by decide +kernel
theorem dX8_make_83 : decode cX8_make 83 = .ok (.bipush (-10), 2) := by decide +kernel
theorem dX8_make_85 : decode cX8_make 85 = .ok (.ireturn, 1) := by decide +kernel
theorem dX8_make_86 : decode cX8_make 86 = .ok (.aload_n 0, 1) := by decide +kernel
theorem dX8_make_87 : decode cX8_make 87 = .ok (.getfield 7, 3) := by decide +kernel
theorem dX8_make_90 : decode cX8_make 90 = .ok (.iload 4, 2) := by decide +kernel
theorem dX8_make_92 : decode cX8_make 92 = .ok (.iload_n 1, 1) := by decide +kernel
theorem dX8_make_93 : decode cX8_make 93 = .ok (.iastore, 1) := by decide +kernel
theorem dX8_make_94 : decode cX8_make 94 = .ok (.aload_n 0, 1) := by decide +kernel
theorem dX8_make_95 : decode cX8_make 95 = .ok (.getfield 13, 3) := by decide +kernel
theorem dX8_make_98 : decode cX8_make 98 = .ok (.iload 4, 2) := by decide +kernel
theorem dX8_make_100 : decode cX8_make 100 = .ok (.iload_n 1, 1) := by decide +kernel
theorem dX8_make_101 : decode cX8_make 101 = .ok (.iconst 3, 1) := by decide +kernel
theorem dX8_make_102 : decode cX8_make 102 = .ok (.if_icmp .ne 8, 3) := by decide +kernel
theorem dX8_make_105 : decode cX8_make 105 = .ok (.bipush 15, 2) := by decide +kernel
theorem dX8_make_107 : decode cX8_make 107 = .ok (.goto 4, 3) := by decide +kernel
theorem dX8_make_110 : decode cX8_make 110 = .ok (.iload_n 2, 1) := by decide +kernel
theorem dX8_make_111 : decode cX8_make 111 = .ok (.iastore, 1) := by decide +kernel
theorem dX8_make_112 : decode cX8_make 112 = .ok (.aload_n 0, 1) := by decide +kernel
theorem dX8_make_113 : decode cX8_make 113 = .ok (.getfield 16, 3) := by decide +kernel
theorem dX8_make_116 : decode cX8_make 116 = .ok (.iload 4, 2) := by decide +kernel
theorem dX8_make_118 : decode cX8_make 118 = .ok (.aload_n 0, 1) := by decide +kernel
theorem dX8_make_119 : decode cX8_make 119 = .ok (.getfield 66, 3) := by decide +kernel
theorem dX8_make_122 : decode cX8_make 122 = .ok (.iastore, 1) := by decide +kernel
theorem dX8_make_123 : decode cX8_make 123 = .ok (.aload_n 0, 1) := by decide +kernel
theorem dX8_make_124 : decode cX8_make 124 = .ok (.getfield 19, 3) := by decide +kernel
theorem dX8_make_127 : decode cX8_make 127 = .ok (.iload 4, 2) := by decide +kernel
theorem dX8_make_129 : decode cX8_make 129 = .ok (.aload_n 0, 1) := by decide +kernel
theorem dX8_make_130 : decode cX8_make 130 = .ok (.getfield 19, 3) := by decide +kernel
theorem dX8_make_133 : decode cX8_make 133 = .ok (.aload_n 0, 1) := by decide +kernel
theorem dX8_make_134 : decode cX8_make 134 = .ok (.getfield 114, 3) := by decide +kernel
theorem dX8_make_137 : decode cX8_make 137 = .ok (.iaload, 1) := by decide +kernel
theorem dX8_make_138 : decode cX8_make 138 = .ok (.iastore, 1) := by decide +kernel
theorem dX8_make_139 : decode cX8_make 139 = .ok (.aload_n 0, 1) := by decide +kernel
theorem dX8_make_140 : decode cX8_make 140 = .ok (.getfield 22, 3) := by decide +kernel
theorem dX8_make_143 : decode cX8_make 143 = .ok (.iload 4, 2) := by decide +kernel
theorem dX8_make_145 : decode cX8_make 145 = .ok (.aload_n 0, 1) := by decide +kernel
theorem dX8_make_146 : decode cX8_make 146 = .ok (.getfield 114, 3) := by decide +kernel
theorem dX8_make_149 : decode cX8_make 149 = .ok (.iastore, 1) := by decide +kernel
theorem dX8_make_150 : decode cX8_make 150 = .ok (.aload_n 0, 1) := by decide +kernel
theorem dX8_make_151 : decode cX8_make 151 = .ok (.getfield 28, 3) := by decide +kernel
theorem dX8_make_154 : decode cX8_make 154 = .ok (.iload 4, 2) := by decide +kernel
theorem dX8_make_156 : decode cX8_make 156 = .ok (.iload_n 1, 1) := by decide +kernel
theorem dX8_make_157 : decode cX8_make 157 = .ok (.iconst 3, 1) := by decide +kernel
theorem dX8_make_158 : decode cX8_make 158 = .ok (.if_icmp .ne 10, 3) := by decide +kernel
theorem dX8_make_161 : decode cX8_make 161 = .ok (.aload_n 0, 1) := by decide +kernel
theorem dX8_make_162 : decode cX8_make 162 = .ok (.getfield 63, 3) := by decide +kernel
theorem dX8_make_165 : decode cX8_make 165 = .ok (.goto 4, 3) := by decide +kernel
theorem dX8_make_168 : decode cX8_make 168 = .ok (.iconst 0, 1) := by decide +kernel
theorem dX8_make_169 : decode cX8_make 169 = .ok (.iastore, 1) := by decide +kernel
theorem dX8_make_170 : decode cX8_make 170 = .ok (.iconst 0, 1) := by decide +kernel
theorem dX8_make_171 : decode cX8_make 171 = .ok (.istore 5, 2) := by decide +kernel
theorem dX8_make_173 : decode cX8_make 173 = .ok (.iload 5, 2) := by decide +kernel
theorem dX8_make_175 : decode cX8_make 175 = .ok (.aload_n 0, 1) := by decide +kernel
theorem dX8_make_176 : decode cX8_make 176 = .ok (.getfield 28, 3) := by decide +kernel
theorem dX8_make_179 : decode cX8_make 179 = .ok (.iload 4, 2) := by decide +kernel
theorem dX8_make_181 : decode cX8_make 181 = .ok (.iaload, 1) := by decide +kernel
theorem dX8_make_182 : decode cX8_make 182 = .ok (.if_icmp .ge 29, 3) := by decide +kernel
theorem dX8_make_185 : decode cX8_make 185 = .ok (.aload_n 0, 1) := by decide +kernel
theorem dX8_make_186 : decode cX8_make 186 = .ok (.getfield 25, 3) := by decide +kernel
theorem dX8_make_189 : decode cX8_make 189 = .ok (.bipush 40, 2) := by decide +kernel
theorem dX8_make_191 : decode cX8_make 191 = .ok (.iload 4, 2) := by decide +kernel
theorem dX8_make_193 : decode cX8_make 193 = .ok (.imul, 1) := by decide +kernel
theorem dX8_make_194 : decode cX8_make 194 = .ok (.iload 5, 2) := by decide +kernel
theorem dX8_make_196 : decode cX8_make 196 = .ok (.iadd, 1) := by decide +kernel
theorem dX8_make_197 : decode cX8_make 197 = .ok (.aload_n 0, 1) := by decide +kernel
theorem dX8_make_198 : decode cX8_make 198 = .ok (.getfield 54, 3) := by decide +kernel
theorem dX8_make_201 : decode cX8_make 201 = .ok (.iload 5, 2) := by decide +kernel
theorem dX8_make_203 : decode cX8_make 203 = .ok (.iaload, 1) := by decide +kernel
theorem dX8_make_204 : decode cX8_make 204 = .ok (.iastore, 1) := by decide +kernel
theorem dX8_make_205 : decode cX8_make 205 = .ok (.iinc 5 1, 3) := by decide +kernel
theorem dX8_make_208 : decode cX8_make 208 = .ok (.goto (-35), 3) := by decide +kernel
theorem dX8_make_211 : decode cX8_make 211 = .ok (.aload_n 0, 1) := by decide +kernel
theorem dX8_make_212 : decode cX8_make 212 = .ok (.iload 4, 2) := by decide +kernel
theorem dX8_make_214 : decode cX8_make 214 = .ok (.invokevirtual 177, 3) := by decide +kernel
theorem dX8_make_217 : decode cX8_make 217 = .ok (.ireturn, 1) := by decide +kernel
theorem dX8_link_0 : decode cX8_link 0 = .ok (.aload_n 0, 1) := by decide +kernel
theorem dX8_link_1 : decode cX8_link 1 = .ok (.iconst 1, 1) := by decide +kernel
theorem dX8_link_2 : decode cX8_link 2 = .ok (.iconst 0, 1) := by decide +kernel
theorem dX8_link_3 : decode cX8_link 3 = .ok (.invokevirtual 157, 3) := by decide +kernel
theorem dX8_link_6 : decode cX8_link 6 = .ok (.istore_n 1, 1) := by decide +kernel
theorem dX8_link_7 : decode cX8_link 7 = .ok (.iload_n 1, 1) := by decide +kernel
theorem dX8_link_8 : decode cX8_link 8 = .ok (.ifCond .ge 5, 3) := by decide +kernel
theorem dX8_link_11 : decode cX8_link 11 = .ok (.iload_n 1, 1) := by decide +kernel
theorem dX8_link_12 : decode cX8_link 12 = .ok (.ireturn, 1) := by decide +kernel
theorem dX8_link_13 : decode cX8_link 13 = .ok (.aload_n 0, 1) := by decide +kernel
theorem dX8_link_14 : decode cX8_link 14 = .ok (.getfield 7, 3) := by decide +kernel
theorem dX8_link_17 : decode cX8_link 17 = .ok (.iload_n 1, 1) := by decide +kernel
theorem dX8_link_18 : decode cX8_link 18 = .ok (.iaload, 1) := by decide +kernel
theorem dX8_link_19 : decode cX8_link 19 = .ok (.iconst 1, 1) := by decide +kernel
theorem dX8_link_20 : decode cX8_link 20 = .ok (.if_icmp .ne 6, 3) := by decide +kernel
theorem dX8_link_23 : decode cX8_link 23 = .ok (.bipush (-11), 2) := by decide +kernel
theorem dX8_link_25 : decode cX8_link 25 = .ok (.ireturn, 1) := by decide +kernel
theorem dX8_link_26 : decode cX8_link 26 = .ok (.aload_n 0, 1) := by decide +kernel
theorem dX8_link_27 : decode cX8_link 27 = .ok (.iconst 0, 1) := by decide +kernel
theorem dX8_link_28 : decode cX8_link 28 = .ok (.invokevirtual 171, 3) := by decide +kernel
theorem dX8_link_31 : decode cX8_link 31 = .ok (.istore_n 2, 1) := by decide +kernel
theorem dX8_link_32 : decode cX8_link 32 = .ok (.iload_n 2, 1) := by decide +kernel
theorem dX8_link_33 : decode cX8_link 33 = .ok (.ifCond .eq 5, 3) := by decide +kernel
theorem dX8_link_36 : decode cX8_link 36 = .ok (.iload_n 2, 1) := by decide +kernel
theorem dX8_link_37 : decode cX8_link 37 = .ok (.ireturn, 1) := by decide +kernel
theorem dX8_link_38 : decode cX8_link 38 = .ok (.aload_n 0, 1) := by decide +kernel
theorem dX8_link_39 : decode cX8_link 39 = .ok (.getfield 19, 3) := by decide +kernel
theorem dX8_link_42 : decode cX8_link 42 = .ok (.aload_n 0, 1) := by decide +kernel
theorem dX8_link_43 : decode cX8_link 43 = .ok (.getfield 114, 3) := by decide +kernel
theorem dX8_link_46 : decode cX8_link 46 = .ok (.iaload, 1) := by decide +kernel
theorem dX8_link_47 : decode cX8_link 47 = .ok (.aload_n 0, 1) := by decide +kernel
theorem dX8_link_48 : decode cX8_link 48 = .ok (.getfield 19, 3) := by decide +kernel
theorem dX8_link_51 : decode cX8_link 51 = .ok (.iload_n 1, 1) := by decide +kernel
theorem dX8_link_52 : decode cX8_link 52 = .ok (.iaload, 1) := by decide +kernel
theorem dX8_link_53 : decode cX8_link 53 = .ok (.if_icmp .eq 6, 3) := by decide +kernel
theorem dX8_link_56 : decode cX8_link 56 = .ok (.bipush (-9), 2) := by decide +kernel
theorem dX8_link_58 : decode cX8_link 58 = .ok (.ireturn, 1) := by decide +kernel
theorem dX8_link_59 : decode cX8_link 59 = .ok (.aload_n 0, 1) := by decide +kernel
theorem dX8_link_60 : decode cX8_link 60 = .ok (.getfield 82, 3) := by decide +kernel
theorem dX8_link_63 : decode cX8_link 63 = .ok (.bipush 80, 2) := by decide +kernel
theorem dX8_link_65 : decode cX8_link 65 = .ok (.if_icmp .ne 8, 3) := by decide +kernel
theorem dX8_link_68 : decode cX8_link 68 = .ok (.bipush (-10), 2) := by decide +kernel
theorem dX8_link_70 : decode cX8_link 70 = .ok (.goto 8, 3) := by decide +kernel
theorem dX8_link_73 : decode cX8_link 73 = .ok (.aload_n 0, 1) := by decide +kernel
theorem dX8_link_74 : decode cX8_link 74 = .ok (.iload_n 1, 1) := by decide +kernel
theorem dX8_link_75 : decode cX8_link 75 = .ok (.invokevirtual 177, 3) := by decide +kernel
theorem dX8_link_78 : decode cX8_link 78 = .ok (.ireturn, 1) := by decide +kernel
theorem dX8_entriesFor_0 : decode cX8_entriesFor 0 = .ok (.iconst 0, 1) := by decide +kernel
theorem dX8_entriesFor_1 : decode cX8_entriesFor 1 = .ok (.istore_n 2, 1) := by decide +kernel
theorem dX8_entriesFor_2 : decode cX8_entriesFor 2 = .ok (.iconst 0, 1) := by decide +kernel
theorem dX8_entriesFor_3 : decode cX8_entriesFor 3 = .ok (.istore_n 3, 1) := by decide +kernel
theorem dX8_entriesFor_4 : decode cX8_entriesFor 4 = .ok (.iload_n 3, 1) := by decide +kernel
theorem dX8_entriesFor_5 : decode cX8_entriesFor 5 = .ok (.aload_n 0, 1) := by decide +kernel
theorem dX8_entriesFor_6 : decode cX8_entriesFor 6 = .ok (.getfield 82, 3) := by decide +kernel
theorem dX8_entriesFor_9 : decode cX8_entriesFor 9 = .ok (.if_icmp .ge 27, 3) := by decide +kernel
theorem dX8_entriesFor_12 : decode cX8_entriesFor 12 = .ok (.aload_n 0, 1) := by decide +kernel
theorem dX8_entriesFor_13 : decode cX8_entriesFor 13 = .ok (.getfield 38, 3) := by decide +kernel
theorem dX8_entriesFor_16 : decode cX8_entriesFor 16 = .ok (.iload_n 3, 1) := by decide +kernel
theorem dX8_entriesFor_17 : decode cX8_entriesFor 17 = .ok (.iaload, 1) := by decide +kernel
theorem dX8_entriesFor_18 : decode cX8_entriesFor 18 = .ok (.iload_n 1, 1) := by decide +kernel
theorem dX8_entriesFor_19 : decode cX8_entriesFor 19 = .ok (.if_icmp .ne 9, 3) := by decide +kernel
theorem dX8_entriesFor_22 : decode cX8_entriesFor 22 = .ok (.iload_n 2, 1) := by decide +kernel
theorem dX8_entriesFor_23 : decode cX8_entriesFor 23 = .ok (.iconst 1, 1) := by decide +kernel
theorem dX8_entriesFor_24 : decode cX8_entriesFor 24 = .ok (.iadd, 1) := by decide +kernel
theorem dX8_entriesFor_25 : decode cX8_entriesFor 25 = .ok (.goto 4, 3) := by decide +kernel
theorem dX8_entriesFor_28 : decode cX8_entriesFor 28 = .ok (.iload_n 2, 1) := by decide +kernel
theorem dX8_entriesFor_29 : decode cX8_entriesFor 29 = .ok (.istore_n 2, 1) := by decide +kernel
theorem dX8_entriesFor_30 : decode cX8_entriesFor 30 = .ok (.iinc 3 1, 3) := by decide +kernel
theorem dX8_entriesFor_33 : decode cX8_entriesFor 33 = .ok (.goto (-29), 3) := by decide +kernel
theorem dX8_entriesFor_36 : decode cX8_entriesFor 36 = .ok (.iload_n 2, 1) := by decide +kernel
theorem dX8_entriesFor_37 : decode cX8_entriesFor 37 = .ok (.ireturn, 1) := by decide +kernel
theorem dX8_entriesOf_0 : decode cX8_entriesOf 0 = .ok (.iconst 0, 1) := by decide +kernel
theorem dX8_entriesOf_1 : decode cX8_entriesOf 1 = .ok (.istore_n 2, 1) := by decide +kernel
theorem dX8_entriesOf_2 : decode cX8_entriesOf 2 = .ok (.iconst 0, 1) := by decide +kernel
theorem dX8_entriesOf_3 : decode cX8_entriesOf 3 = .ok (.istore_n 3, 1) := by decide +kernel
theorem dX8_entriesOf_4 : decode cX8_entriesOf 4 = .ok (.iload_n 3, 1) := by decide +kernel
theorem dX8_entriesOf_5 : decode cX8_entriesOf 5 = .ok (.aload_n 0, 1) := by decide +kernel
theorem dX8_entriesOf_6 : decode cX8_entriesOf 6 = .ok (.getfield 82, 3) := by decide +kernel
theorem dX8_entriesOf_9 : decode cX8_entriesOf 9 = .ok (.if_icmp .ge 27, 3) := by decide +kernel
theorem dX8_entriesOf_12 : decode cX8_entriesOf 12 = .ok (.aload_n 0, 1) := by decide +kernel
theorem dX8_entriesOf_13 : decode cX8_entriesOf 13 = .ok (.getfield 31, 3) := by decide +kernel
theorem dX8_entriesOf_16 : decode cX8_entriesOf 16 = .ok (.iload_n 3, 1) := by decide +kernel
theorem dX8_entriesOf_17 : decode cX8_entriesOf 17 = .ok (.iaload, 1) := by decide +kernel
theorem dX8_entriesOf_18 : decode cX8_entriesOf 18 = .ok (.iload_n 1, 1) := by decide +kernel
theorem dX8_entriesOf_19 : decode cX8_entriesOf 19 = .ok (.if_icmp .ne 9, 3) := by decide +kernel
theorem dX8_entriesOf_22 : decode cX8_entriesOf 22 = .ok (.iload_n 2, 1) := by decide +kernel
theorem dX8_entriesOf_23 : decode cX8_entriesOf 23 = .ok (.iconst 1, 1) := by decide +kernel
theorem dX8_entriesOf_24 : decode cX8_entriesOf 24 = .ok (.iadd, 1) := by decide +kernel
theorem dX8_entriesOf_25 : decode cX8_entriesOf 25 = .ok (.goto 4, 3) := by decide +kernel
theorem dX8_entriesOf_28 : decode cX8_entriesOf 28 = .ok (.iload_n 2, 1) := by decide +kernel
theorem dX8_entriesOf_29 : decode cX8_entriesOf 29 = .ok (.istore_n 2, 1) := by decide +kernel
theorem dX8_entriesOf_30 : decode cX8_entriesOf 30 = .ok (.iinc 3 1, 3) := by decide +kernel
theorem dX8_entriesOf_33 : decode cX8_entriesOf 33 = .ok (.goto (-29), 3) := by decide +kernel
theorem dX8_entriesOf_36 : decode cX8_entriesOf 36 = .ok (.iload_n 2, 1) := by decide +kernel
theorem dX8_entriesOf_37 : decode cX8_entriesOf 37 = .ok (.ireturn, 1) := by decide +kernel
theorem dX8_remove_0 : decode cX8_remove 0 = .ok (.aload_n 0, 1) := by decide +kernel
theorem dX8_remove_1 : decode cX8_remove 1 = .ok (.getfield 60, 3) := by decide +kernel
theorem dX8_remove_4 : decode cX8_remove 4 = .ok (.ifCond .ne 5, 3) := by decide +kernel
theorem dX8_remove_7 : decode cX8_remove 7 = .ok (.iconst (-1), 1) := by decide +kernel
theorem dX8_remove_8 : decode cX8_remove 8 = .ok (.ireturn, 1) := by decide +kernel
theorem dX8_remove_9 : decode cX8_remove 9 = .ok (.aload_n 0, 1) := by decide +kernel
theorem dX8_remove_10 : decode cX8_remove 10 = .ok (.invokevirtual 161, 3) := by decide +kernel
theorem dX8_remove_13 : decode cX8_remove 13 = .ok (.ifCond .eq 6, 3) := by decide +kernel
theorem dX8_remove_16 : decode cX8_remove 16 = .ok (.bipush (-7), 2) := by decide +kernel
theorem dX8_remove_18 : decode cX8_remove 18 = .ok (.ireturn, 1) := by decide +kernel
theorem dX8_remove_19 : decode cX8_remove 19 = .ok (.aload_n 0, 1) := by decide +kernel
theorem dX8_remove_20 : decode cX8_remove 20 = .ok (.invokevirtual 165, 3) := by decide +kernel
theorem dX8_remove_23 : decode cX8_remove 23 = .ok (.istore_n 1, 1) := by decide +kernel
theorem dX8_remove_24 : decode cX8_remove 24 = .ok (.iload_n 1, 1) := by decide +kernel
theorem dX8_remove_25 : decode cX8_remove 25 = .ok (.ifCond .eq 5, 3) := by decide +kernel
theorem dX8_remove_28 : decode cX8_remove 28 = .ok (.iload_n 1, 1) := by decide +kernel
theorem dX8_remove_29 : decode cX8_remove 29 = .ok (.ireturn, 1) := by decide +kernel
theorem dX8_remove_30 : decode cX8_remove 30 = .ok (.aload_n 0, 1) := by decide +kernel
theorem dX8_remove_31 : decode cX8_remove 31 = .ok (.invokevirtual 168, 3) := by decide +kernel
theorem dX8_remove_34 : decode cX8_remove 34 = .ok (.ifCond .eq 6, 3) := by decide +kernel
theorem dX8_remove_37 : decode cX8_remove 37 = .ok (.bipush (-11), 2) := by decide +kernel
theorem dX8_remove_39 : decode cX8_remove 39 = .ok (.ireturn, 1) := by decide +kernel
theorem dX8_remove_40 : decode cX8_remove 40 = .ok (.aload_n 0, 1) := by decide +kernel
theorem dX8_remove_41 : decode cX8_remove 41 = .ok (.aload_n 0, 1) := by decide +kernel
theorem dX8_remove_42 : decode cX8_remove 42 = .ok (.getfield 114, 3) := by decide +kernel
theorem dX8_remove_45 : decode cX8_remove 45 = .ok (.aload_n 0, 1) := by decide +kernel
theorem dX8_remove_46 : decode cX8_remove 46 = .ok (.getfield 92, 3) := by decide +kernel
theorem dX8_remove_49 : decode cX8_remove 49 = .ok (.invokevirtual 132, 3) := by decide +kernel
theorem dX8_remove_52 : decode cX8_remove 52 = .ok (.istore_n 2, 1) := by decide +kernel
theorem dX8_remove_53 : decode cX8_remove 53 = .ok (.iload_n 2, 1) := by decide +kernel
theorem dX8_remove_54 : decode cX8_remove 54 = .ok (.ifCond .ge 5, 3) := by decide +kernel
theorem dX8_remove_57 : decode cX8_remove 57 = .ok (.iconst (-1), 1) := by decide +kernel
theorem dX8_remove_58 : decode cX8_remove 58 = .ok (.ireturn, 1) := by decide +kernel
theorem dX8_remove_59 : decode cX8_remove 59 = .ok (.aload_n 0, 1) := by decide +kernel
theorem dX8_remove_60 : decode cX8_remove 60 = .ok (.getfield 38, 3) := by decide +kernel
theorem dX8_remove_63 : decode cX8_remove 63 = .ok (.iload_n 2, 1) := by decide +kernel
theorem dX8_remove_64 : decode cX8_remove 64 = .ok (.iaload, 1) := by decide +kernel
theorem dX8_remove_65 : decode cX8_remove 65 = .ok (.istore_n 3, 1) := by decide +kernel
theorem dX8_remove_66 : decode cX8_remove 66 = .ok (.aload_n 0, 1) := by decide +kernel
theorem dX8_remove_67 : decode cX8_remove 67 = .ok (.getfield 101, 3) := by decide +kernel
theorem dX8_remove_70 : decode cX8_remove 70 = .ok (.ifCond .eq 16, 3) := by decide +kernel
theorem dX8_remove_73 : decode cX8_remove 73 = .ok (.aload_n 0, 1) := by decide +kernel
theorem dX8_remove_74 : decode cX8_remove 74 = .ok (.getfield 7, 3) := by decide +kernel
theorem dX8_remove_77 : decode cX8_remove 77 = .ok (.iload_n 3, 1) := by decide +kernel
theorem dX8_remove_78 : decode cX8_remove 78 = .ok (.iaload, 1) := by decide +kernel
theorem dX8_remove_79 : decode cX8_remove 79 = .ok (.iconst 1, 1) := by decide +kernel
theorem dX8_remove_80 : decode cX8_remove 80 = .ok (.if_icmp .eq 6, 3) := by decide +kernel
theorem dX8_remove_83 : decode cX8_remove 83 = .ok (.bipush (-2), 2) := by decide +kernel
theorem dX8_remove_85 : decode cX8_remove 85 = .ok (.ireturn, 1) := by decide +kernel
theorem dX8_remove_86 : decode cX8_remove 86 = .ok (.aload_n 0, 1) := by decide +kernel
theorem dX8_remove_87 : decode cX8_remove 87 = .ok (.aload_n 0, 1) := by decide +kernel
theorem dX8_remove_88 : decode cX8_remove 88 = .ok (.getfield 114, 3) := by decide +kernel
theorem dX8_remove_91 : decode cX8_remove 91 = .ok (.iconst 1, 1) := by decide +kernel
theorem dX8_remove_92 : decode cX8_remove 92 = .ok (.invokevirtual 120, 3) := by decide +kernel
theorem dX8_remove_95 : decode cX8_remove 95 = .ok (.ifCond .ne 6, 3) := by decide +kernel
theorem dX8_remove_98 : decode cX8_remove 98 = .ok (.bipush (-3), 2) := by decide +kernel
theorem dX8_remove_100 : decode cX8_remove 100 = .ok (.ireturn, 1) := by decide +kernel
theorem dX8_remove_101 : decode cX8_remove 101 = .ok (.aload_n 0, 1) := by decide +kernel
theorem dX8_remove_102 : decode cX8_remove 102 = .ok (.iload_n 3, 1) := by decide +kernel
theorem dX8_remove_103 : decode cX8_remove 103 = .ok (.invokevirtual 69, 3) := by decide +kernel
theorem dX8_remove_106 : decode cX8_remove 106 = .ok (.ifCond .gt 19, 3) := by decide +kernel
theorem dX8_remove_109 : decode cX8_remove 109 = .ok (.iload_n 3, 1) := by decide +kernel
theorem dX8_remove_110 : decode cX8_remove 110 = .ok (.aload_n 0, 1) := by decide +kernel
theorem dX8_remove_111 : decode cX8_remove 111 = .ok (.getfield 108, 3) := by decide +kernel
theorem dX8_remove_114 : decode cX8_remove 114 = .ok (.if_icmp .eq 11, 3) := by decide +kernel
theorem dX8_remove_117 : decode cX8_remove 117 = .ok (.iload_n 3, 1) := by decide +kernel
theorem dX8_remove_118 : decode cX8_remove 118 = .ok (.aload_n 0, 1) := by decide +kernel
theorem dX8_remove_119 : decode cX8_remove 119 = .ok (.getfield 111, 3) := by decide +kernel
theorem dX8_remove_122 : decode cX8_remove 122 = .ok (.if_icmp .ne 6, 3) := by decide +kernel
theorem dX8_remove_125 : decode cX8_remove 125 = .ok (.bipush (-7), 2) := by decide +kernel
theorem dX8_remove_127 : decode cX8_remove 127 = .ok (.ireturn, 1) := by decide +kernel
theorem dX8_remove_128 : decode cX8_remove 128 = .ok (.aload_n 0, 1) := by decide +kernel
theorem dX8_remove_129 : decode cX8_remove 129 = .ok (.getfield 7, 3) := by decide +kernel
theorem dX8_remove_132 : decode cX8_remove 132 = .ok (.iload_n 3, 1) := by decide +kernel
theorem dX8_remove_133 : decode cX8_remove 133 = .ok (.iaload, 1) := by decide +kernel
theorem dX8_remove_134 : decode cX8_remove 134 = .ok (.iconst 1, 1) := by decide +kernel
theorem dX8_remove_135 : decode cX8_remove 135 = .ok (.if_icmp .ne 14, 3) := by decide +kernel
theorem dX8_remove_138 : decode cX8_remove 138 = .ok (.aload_n 0, 1) := by decide +kernel
theorem dX8_remove_139 : decode cX8_remove 139 = .ok (.iload_n 3, 1) := by decide +kernel
theorem dX8_remove_140 : decode cX8_remove 140 = .ok (.invokevirtual 180, 3) := by decide +kernel
theorem dX8_remove_143 : decode cX8_remove 143 = .ok (.ifCond .le 6, 3) := by decide +kernel
theorem dX8_remove_146 : decode cX8_remove 146 = .ok (.bipush (-8), 2) := by decide +kernel
theorem dX8_remove_148 : decode cX8_remove 148 = .ok (.ireturn, 1) := by decide +kernel
theorem dX8_remove_149 : decode cX8_remove 149 = .ok (.aload_n 0, 1) := by decide +kernel
theorem dX8_remove_150 : decode cX8_remove 150 = .ok (.aload_n 0, 1) := by decide +kernel
theorem dX8_remove_151 : decode cX8_remove 151 = .ok (.getfield 82, 3) := by decide +kernel
theorem dX8_remove_154 : decode cX8_remove 154 = .ok (.iconst 1, 1) := by decide +kernel
theorem dX8_remove_155 : decode cX8_remove 155 = .ok (.isub, 1) := by decide +kernel
theorem dX8_remove_156 : decode cX8_remove 156 = .ok (.putfield 82, 3) := by decide +kernel
theorem dX8_remove_159 : decode cX8_remove 159 = .ok (.iload_n 2, 1) := by decide +kernel
theorem dX8_remove_160 : decode cX8_remove 160 = .ok (.istore 4, 2) := by decide +kernel
theorem dX8_remove_162 : decode cX8_remove 162 = .ok (.iload 4, 2) := by decide +kernel
theorem dX8_remove_164 : decode cX8_remove 164 = .ok (.aload_n 0, 1) := by decide +kernel
theorem dX8_remove_165 : decode cX8_remove 165 = .ok (.getfield 82, 3) := by decide +kernel
theorem dX8_remove_168 : decode cX8_remove 168 = .ok (.if_icmp .ge 57, 3) := by decide +kernel
theorem dX8_remove_171 : decode cX8_remove 171 = .ok (.aload_n 0, 1) := by decide +kernel
theorem dX8_remove_172 : decode cX8_remove 172 = .ok (.getfield 31, 3) := by decide +kernel
theorem dX8_remove_175 : decode cX8_remove 175 = .ok (.iload 4, 2) := by decide +kernel
theorem dX8_remove_177 : decode cX8_remove 177 = .ok (.aload_n 0, 1) := by decide +kernel
theorem dX8_remove_178 : decode cX8_remove 178 = .ok (.getfield 31, 3) := by decide +kernel
theorem dX8_remove_181 : decode cX8_remove 181 = .ok (.iload 4, 2) := by decide +kernel
theorem dX8_remove_183 : decode cX8_remove 183 = .ok (.iconst 1, 1) := by decide +kernel
theorem dX8_remove_184 : decode cX8_remove 184 = .ok (.iadd, 1) := by decide +kernel
theorem dX8_remove_185 : decode cX8_remove 185 = .ok (.iaload, 1) := by decide +kernel
theorem dX8_remove_186 : decode cX8_remove 186 = .ok (.iastore, 1) := by decide +kernel
theorem dX8_remove_187 : decode cX8_remove 187 = .ok (.aload_n 0, 1) := by decide +kernel
theorem dX8_remove_188 : decode cX8_remove 188 = .ok (.getfield 34, 3) := by decide +kernel
theorem dX8_remove_191 : decode cX8_remove 191 = .ok (.iload 4, 2) := by decide +kernel
theorem dX8_remove_193 : decode cX8_remove 193 = .ok (.aload_n 0, 1) := by decide +kernel
theorem dX8_remove_194 : decode cX8_remove 194 = .ok (.getfield 34, 3) := by decide +kernel
theorem dX8_remove_197 : decode cX8_remove 197 = .ok (.iload 4, 2) := by decide +kernel
theorem dX8_remove_199 : decode cX8_remove 199 = .ok (.iconst 1, 1) := by decide +kernel
theorem dX8_remove_200 : decode cX8_remove 200 = .ok (.iadd, 1) := by decide +kernel
theorem dX8_remove_201 : decode cX8_remove 201 = .ok (.laload, 1) := by decide +kernel
theorem dX8_remove_202 : decode cX8_remove 202 = .ok (.lastore, 1) := by decide +kernel
theorem dX8_remove_203 : decode cX8_remove 203 = .ok (.aload_n 0, 1) := by decide +kernel
theorem dX8_remove_204 : decode cX8_remove 204 = .ok (.getfield 38, 3) := by decide +kernel
theorem dX8_remove_207 : decode cX8_remove 207 = .ok (.iload 4, 2) := by decide +kernel
theorem dX8_remove_209 : decode cX8_remove 209 = .ok (.aload_n 0, 1) := by decide +kernel
theorem dX8_remove_210 : decode cX8_remove 210 = .ok (.getfield 38, 3) := by decide +kernel
theorem dX8_remove_213 : decode cX8_remove 213 = .ok (.iload 4, 2) := by decide +kernel
theorem dX8_remove_215 : decode cX8_remove 215 = .ok (.iconst 1, 1) := by decide +kernel
theorem dX8_remove_216 : decode cX8_remove 216 = .ok (.iadd, 1) := by decide +kernel
theorem dX8_remove_217 : decode cX8_remove 217 = .ok (.iaload, 1) := by decide +kernel
theorem dX8_remove_218 : decode cX8_remove 218 = .ok (.iastore, 1) := by decide +kernel
theorem dX8_remove_219 : decode cX8_remove 219 = .ok (.iinc 4 1, 3) := by decide +kernel
theorem dX8_remove_222 : decode cX8_remove 222 = .ok (.goto (-60), 3) := by decide +kernel
theorem dX8_remove_225 : decode cX8_remove 225 = .ok (.aload_n 0, 1) := by decide +kernel
theorem dX8_remove_226 : decode cX8_remove 226 = .ok (.getfield 7, 3) := by decide +kernel
theorem dX8_remove_229 : decode cX8_remove 229 = .ok (.iload_n 3, 1) := by decide +kernel
theorem dX8_remove_230 : decode cX8_remove 230 = .ok (.aload_n 0, 1) := by decide +kernel
theorem dX8_remove_231 : decode cX8_remove 231 = .ok (.iload_n 3, 1) := by decide +kernel
theorem dX8_remove_232 : decode cX8_remove 232 = .ok (.invokevirtual 183, 3) := by decide +kernel
theorem dX8_remove_235 : decode cX8_remove 235 = .ok (.ifCond .ne 7, 3) := by decide +kernel
theorem dX8_remove_238 : decode cX8_remove 238 = .ok (.iconst 0, 1) := by decide +kernel
theorem dX8_remove_239 : decode cX8_remove 239 = .ok (.goto 9, 3) := by decide +kernel
theorem dX8_remove_242 : decode cX8_remove 242 = .ok (.aload_n 0, 1) := by decide +kernel
theorem dX8_remove_243 : decode cX8_remove 243 = .ok (.getfield 7, 3) := by decide +kernel
theorem dX8_remove_246 : decode cX8_remove 246 = .ok (.iload_n 3, 1) := by decide +kernel
theorem dX8_remove_247 : decode cX8_remove 247 = .ok (.iaload, 1) := by decide +kernel
theorem dX8_remove_248 : decode cX8_remove 248 = .ok (.iastore, 1) := by decide +kernel
theorem dX8_remove_249 : decode cX8_remove 249 = .ok (.iload_n 3, 1) := by decide +kernel
theorem dX8_remove_250 : decode cX8_remove 250 = .ok (.ireturn, 1) := by decide +kernel
theorem dX8_volume_0 : decode cX8_volume 0 = .ok (.aload_n 0, 1) := by decide +kernel
theorem dX8_volume_1 : decode cX8_volume 1 = .ok (.invokevirtual 174, 3) := by decide +kernel
theorem dX8_volume_4 : decode cX8_volume 4 = .ok (.istore_n 1, 1) := by decide +kernel
theorem dX8_volume_5 : decode cX8_volume 5 = .ok (.aload_n 0, 1) := by decide +kernel
theorem dX8_volume_6 : decode cX8_volume 6 = .ok (.getfield 41, 3) := by decide +kernel
theorem dX8_volume_9 : decode cX8_volume 9 = .ok (.iconst 4, 1) := by decide +kernel
theorem dX8_volume_10 : decode cX8_volume 10 = .ok (.if_icmp .eq 9, 3) := by decide +kernel
theorem dX8_volume_13 : decode cX8_volume 13 = .ok (.iload_n 1, 1) := by decide +kernel
theorem dX8_volume_14 : decode cX8_volume 14 = .ok (.bipush 40, 2) := by decide +kernel
theorem dX8_volume_16 : decode cX8_volume 16 = .ok (.if_icmp .ne 6, 3) := by decide +kernel
theorem dX8_volume_19 : decode cX8_volume 19 = .ok (.bipush (-10), 2) := by decide +kernel
theorem dX8_volume_21 : decode cX8_volume 21 = .ok (.ireturn, 1) := by decide +kernel
theorem dX8_volume_22 : decode cX8_volume 22 = .ok (.aload_n 0, 1) := by decide +kernel
theorem dX8_volume_23 : decode cX8_volume 23 = .ok (.getfield 7, 3) := by decide +kernel
theorem dX8_volume_26 : decode cX8_volume 26 = .ok (.iload_n 1, 1) := by decide +kernel
theorem dX8_volume_27 : decode cX8_volume 27 = .ok (.iconst 1, 1) := by decide +kernel
theorem dX8_volume_28 : decode cX8_volume 28 = .ok (.iastore, 1) := by decide +kernel
theorem dX8_volume_29 : decode cX8_volume 29 = .ok (.aload_n 0, 1) := by decide +kernel
theorem dX8_volume_30 : decode cX8_volume 30 = .ok (.getfield 13, 3) := by decide +kernel
theorem dX8_volume_33 : decode cX8_volume 33 = .ok (.iload_n 1, 1) := by decide +kernel
theorem dX8_volume_34 : decode cX8_volume 34 = .ok (.bipush 15, 2) := by decide +kernel
theorem dX8_volume_36 : decode cX8_volume 36 = .ok (.iastore, 1) := by decide +kernel
theorem dX8_volume_37 : decode cX8_volume 37 = .ok (.aload_n 0, 1) := by decide +kernel
theorem dX8_volume_38 : decode cX8_volume 38 = .ok (.getfield 16, 3) := by decide +kernel
theorem dX8_volume_41 : decode cX8_volume 41 = .ok (.iload_n 1, 1) := by decide +kernel
theorem dX8_volume_42 : decode cX8_volume 42 = .ok (.iconst 0, 1) := by decide +kernel
theorem dX8_volume_43 : decode cX8_volume 43 = .ok (.iastore, 1) := by decide +kernel
theorem dX8_volume_44 : decode cX8_volume 44 = .ok (.aload_n 0, 1) := by decide +kernel
theorem dX8_volume_45 : decode cX8_volume 45 = .ok (.getfield 19, 3) := by decide +kernel
theorem dX8_volume_48 : decode cX8_volume 48 = .ok (.iload_n 1, 1) := by decide +kernel
theorem dX8_volume_49 : decode cX8_volume 49 = .ok (.aload_n 0, 1) := by decide +kernel
theorem dX8_volume_50 : decode cX8_volume 50 = .ok (.getfield 41, 3) := by decide +kernel
theorem dX8_volume_53 : decode cX8_volume 53 = .ok (.iastore, 1) := by decide +kernel
theorem dX8_volume_54 : decode cX8_volume 54 = .ok (.aload_n 0, 1) := by decide +kernel
theorem dX8_volume_55 : decode cX8_volume 55 = .ok (.getfield 22, 3) := by decide +kernel
theorem dX8_volume_58 : decode cX8_volume 58 = .ok (.iload_n 1, 1) := by decide +kernel
theorem dX8_volume_59 : decode cX8_volume 59 = .ok (.iload_n 1, 1) := by decide +kernel
theorem dX8_volume_60 : decode cX8_volume 60 = .ok (.iastore, 1) := by decide +kernel
theorem dX8_volume_61 : decode cX8_volume 61 = .ok (.aload_n 0, 1) := by decide +kernel
theorem dX8_volume_62 : decode cX8_volume 62 = .ok (.getfield 45, 3) := by decide +kernel
theorem dX8_volume_65 : decode cX8_volume 65 = .ok (.aload_n 0, 1) := by decide +kernel
theorem dX8_volume_66 : decode cX8_volume 66 = .ok (.getfield 41, 3) := by decide +kernel
theorem dX8_volume_69 : decode cX8_volume 69 = .ok (.iload_n 1, 1) := by decide +kernel
theorem dX8_volume_70 : decode cX8_volume 70 = .ok (.iastore, 1) := by decide +kernel
theorem dX8_volume_71 : decode cX8_volume 71 = .ok (.aload_n 0, 1) := by decide +kernel
theorem dX8_volume_72 : decode cX8_volume 72 = .ok (.aload_n 0, 1) := by decide +kernel
theorem dX8_volume_73 : decode cX8_volume 73 = .ok (.getfield 41, 3) := by decide +kernel
theorem dX8_volume_76 : decode cX8_volume 76 = .ok (.iconst 1, 1) := by decide +kernel
theorem dX8_volume_77 : decode cX8_volume 77 = .ok (.iadd, 1) := by decide +kernel
theorem dX8_volume_78 : decode cX8_volume 78 = .ok (.putfield 41, 3) := by decide +kernel
theorem dX8_volume_81 : decode cX8_volume 81 = .ok (.aload_n 0, 1) := by decide +kernel
theorem dX8_volume_82 : decode cX8_volume 82 = .ok (.getfield 41, 3) := by decide +kernel
theorem dX8_volume_85 : decode cX8_volume 85 = .ok (.iconst 1, 1) := by decide +kernel
theorem dX8_volume_86 : decode cX8_volume 86 = .ok (.isub, 1) := by decide +kernel
theorem dX8_volume_87 : decode cX8_volume 87 = .ok (.ireturn, 1) := by decide +kernel
theorem dX8_below_0 : decode cX8_below 0 = .ok (.iload_n 1, 1) := by decide +kernel
theorem dX8_below_1 : decode cX8_below 1 = .ok (.istore_n 3, 1) := by decide +kernel
theorem dX8_below_2 : decode cX8_below 2 = .ok (.iconst 0, 1) := by decide +kernel
theorem dX8_below_3 : decode cX8_below 3 = .ok (.istore 4, 2) := by decide +kernel
theorem dX8_below_5 : decode cX8_below 5 = .ok (.iload 4, 2) := by decide +kernel
theorem dX8_below_7 : decode cX8_below 7 = .ok (.bipush 50, 2) := by decide +kernel
theorem dX8_below_9 : decode cX8_below 9 = .ok (.if_icmp .ge 25, 3) := by decide +kernel
theorem dX8_below_12 : decode cX8_below 12 = .ok (.iload_n 3, 1) := by decide +kernel
theorem dX8_below_13 : decode cX8_below 13 = .ok (.iload_n 2, 1) := by decide +kernel
theorem dX8_below_14 : decode cX8_below 14 = .ok (.if_icmp .eq 20, 3) := by decide +kernel
theorem dX8_below_17 : decode cX8_below 17 = .ok (.iload_n 3, 1) := by decide +kernel
theorem dX8_below_18 : decode cX8_below 18 = .ok (.ifCond .eq 16, 3) := by decide +kernel
theorem dX8_below_21 : decode cX8_below 21 = .ok (.aload_n 0, 1) := by decide +kernel
theorem dX8_below_22 : decode cX8_below 22 = .ok (.iload_n 3, 1) := by decide +kernel
theorem dX8_below_23 : decode cX8_below 23 = .ok (.iconst 0, 1) := by decide +kernel
theorem dX8_below_24 : decode cX8_below 24 = .ok (.invokevirtual 126, 3) := by decide +kernel
theorem dX8_below_27 : decode cX8_below 27 = .ok (.istore_n 3, 1) := by decide +kernel
theorem dX8_below_28 : decode cX8_below 28 = .ok (.iinc 4 1, 3) := by decide +kernel
theorem dX8_below_31 : decode cX8_below 31 = .ok (.goto (-26), 3) := by decide +kernel
theorem dX8_below_34 : decode cX8_below 34 = .ok (.iload_n 3, 1) := by decide +kernel
theorem dX8_below_35 : decode cX8_below 35 = .ok (.iload_n 2, 1) := by decide +kernel
theorem dX8_below_36 : decode cX8_below 36 = .ok (.if_icmp .ne 7, 3) := by decide +kernel
theorem dX8_below_39 : decode cX8_below 39 = .ok (.iconst 1, 1) := by decide +kernel
theorem dX8_below_40 : decode cX8_below 40 = .ok (.goto 4, 3) := by decide +kernel
theorem dX8_below_43 : decode cX8_below 43 = .ok (.iconst 0, 1) := by decide +kernel
theorem dX8_below_44 : decode cX8_below 44 = .ok (.ireturn, 1) := by decide +kernel
theorem dX8_mount_0 : decode cX8_mount 0 = .ok (.iload_n 1, 1) := by decide +kernel
theorem dX8_mount_1 : decode cX8_mount 1 = .ok (.iconst 1, 1) := by decide +kernel
theorem dX8_mount_2 : decode cX8_mount 2 = .ok (.if_icmp .lt 11, 3) := by decide +kernel
theorem dX8_mount_5 : decode cX8_mount 5 = .ok (.iload_n 1, 1) := by decide +kernel
theorem dX8_mount_6 : decode cX8_mount 6 = .ok (.aload_n 0, 1) := by decide +kernel
theorem dX8_mount_7 : decode cX8_mount 7 = .ok (.getfield 41, 3) := by decide +kernel
theorem dX8_mount_10 : decode cX8_mount 10 = .ok (.if_icmp .lt 6, 3) := by decide +kernel
theorem dX8_mount_13 : decode cX8_mount 13 = .ok (.bipush (-11), 2) := by decide +kernel
theorem dX8_mount_15 : decode cX8_mount 15 = .ok (.ireturn, 1) := by decide +kernel
theorem dX8_mount_16 : decode cX8_mount 16 = .ok (.aload_n 0, 1) := by decide +kernel
theorem dX8_mount_17 : decode cX8_mount 17 = .ok (.getfield 66, 3) := by decide +kernel
theorem dX8_mount_20 : decode cX8_mount 20 = .ok (.ifCond .eq 6, 3) := by decide +kernel
theorem dX8_mount_23 : decode cX8_mount 23 = .ok (.bipush (-3), 2) := by decide +kernel
theorem dX8_mount_25 : decode cX8_mount 25 = .ok (.ireturn, 1) := by decide +kernel
theorem dX8_mount_26 : decode cX8_mount 26 = .ok (.aload_n 0, 1) := by decide +kernel
theorem dX8_mount_27 : decode cX8_mount 27 = .ok (.getfield 48, 3) := by decide +kernel
theorem dX8_mount_30 : decode cX8_mount 30 = .ok (.iload_n 1, 1) := by decide +kernel
theorem dX8_mount_31 : decode cX8_mount 31 = .ok (.iaload, 1) := by decide +kernel
theorem dX8_mount_32 : decode cX8_mount 32 = .ok (.ifCond .lt 6, 3) := by decide +kernel
theorem dX8_mount_35 : decode cX8_mount 35 = .ok (.bipush (-7), 2) := by decide +kernel
theorem dX8_mount_37 : decode cX8_mount 37 = .ok (.ireturn, 1) := by decide +kernel
theorem dX8_mount_38 : decode cX8_mount 38 = .ok (.aload_n 0, 1) := by decide +kernel
theorem dX8_mount_39 : decode cX8_mount 39 = .ok (.iconst 0, 1) := by decide +kernel
theorem dX8_mount_40 : decode cX8_mount 40 = .ok (.iconst 1, 1) := by decide +kernel
theorem dX8_mount_41 : decode cX8_mount 41 = .ok (.invokevirtual 157, 3) := by decide +kernel
theorem dX8_mount_44 : decode cX8_mount 44 = .ok (.istore_n 2, 1) := by decide +kernel
theorem dX8_mount_45 : decode cX8_mount 45 = .ok (.iload_n 2, 1) := by decide +kernel
theorem dX8_mount_46 : decode cX8_mount 46 = .ok (.ifCond .ge 5, 3) := by decide +kernel
theorem dX8_mount_49 : decode cX8_mount 49 = .ok (.iload_n 2, 1) := by decide +kernel
theorem dX8_mount_50 : decode cX8_mount 50 = .ok (.ireturn, 1) := by decide +kernel
theorem dX8_mount_51 : decode cX8_mount 51 = .ok (.aload_n 0, 1) := by decide +kernel
theorem dX8_mount_52 : decode cX8_mount 52 = .ok (.getfield 7, 3) := by decide +kernel
theorem dX8_mount_55 : decode cX8_mount 55 = .ok (.iload_n 2, 1) := by decide +kernel
theorem dX8_mount_56 : decode cX8_mount 56 = .ok (.iaload, 1) := by decide +kernel
theorem dX8_mount_57 : decode cX8_mount 57 = .ok (.iconst 1, 1) := by decide +kernel
theorem dX8_mount_58 : decode cX8_mount 58 = .ok (.if_icmp .eq 6, 3) := by decide +kernel
theorem dX8_mount_61 : decode cX8_mount 61 = .ok (.bipush (-2), 2) := by decide +kernel
theorem dX8_mount_63 : decode cX8_mount 63 = .ok (.ireturn, 1) := by decide +kernel
theorem dX8_mount_64 : decode cX8_mount 64 = .ok (.aload_n 0, 1) := by decide +kernel
theorem dX8_mount_65 : decode cX8_mount 65 = .ok (.aload_n 0, 1) := by decide +kernel
theorem dX8_mount_66 : decode cX8_mount 66 = .ok (.getfield 108, 3) := by decide +kernel
theorem dX8_mount_69 : decode cX8_mount 69 = .ok (.iload_n 2, 1) := by decide +kernel
theorem dX8_mount_70 : decode cX8_mount 70 = .ok (.invokevirtual 186, 3) := by decide +kernel
theorem dX8_mount_73 : decode cX8_mount 73 = .ok (.ifCond .ne 15, 3) := by decide +kernel
theorem dX8_mount_76 : decode cX8_mount 76 = .ok (.aload_n 0, 1) := by decide +kernel
theorem dX8_mount_77 : decode cX8_mount 77 = .ok (.aload_n 0, 1) := by decide +kernel
theorem dX8_mount_78 : decode cX8_mount 78 = .ok (.getfield 111, 3) := by decide +kernel
theorem dX8_mount_81 : decode cX8_mount 81 = .ok (.iload_n 2, 1) := by decide +kernel
theorem dX8_mount_82 : decode cX8_mount 82 = .ok (.invokevirtual 186, 3) := by decide +kernel
theorem dX8_mount_85 : decode cX8_mount 85 = .ok (.ifCond .eq 6, 3) := by decide +kernel
theorem dX8_mount_88 : decode cX8_mount 88 = .ok (.bipush (-7), 2) := by decide +kernel
theorem dX8_mount_90 : decode cX8_mount 90 = .ok (.ireturn, 1) := by decide +kernel
theorem dX8_mount_91 : decode cX8_mount 91 = .ok (.aload_n 0, 1) := by decide +kernel
theorem dX8_mount_92 : decode cX8_mount 92 = .ok (.getfield 48, 3) := by decide +kernel
theorem dX8_mount_95 : decode cX8_mount 95 = .ok (.iload_n 1, 1) := by decide +kernel
theorem dX8_mount_96 : decode cX8_mount 96 = .ok (.iload_n 2, 1) := by decide +kernel
theorem dX8_mount_97 : decode cX8_mount 97 = .ok (.iastore, 1) := by decide +kernel
theorem dX8_mount_98 : decode cX8_mount 98 = .ok (.iload_n 2, 1) := by decide +kernel
theorem dX8_mount_99 : decode cX8_mount 99 = .ok (.ireturn, 1) := by decide +kernel
theorem dX8_unmount_0 : decode cX8_unmount 0 = .ok (.aload_n 0, 1) := by decide +kernel
theorem dX8_unmount_1 : decode cX8_unmount 1 = .ok (.getfield 66, 3) := by decide +kernel
theorem dX8_unmount_4 : decode cX8_unmount 4 = .ok (.ifCond .eq 6, 3) := by decide +kernel
theorem dX8_unmount_7 : decode cX8_unmount 7 = .ok (.bipush (-3), 2) := by decide +kernel
theorem dX8_unmount_9 : decode cX8_unmount 9 = .ok (.ireturn, 1) := by decide +kernel
theorem dX8_unmount_10 : decode cX8_unmount 10 = .ok (.aload_n 0, 1) := by decide +kernel
theorem dX8_unmount_11 : decode cX8_unmount 11 = .ok (.iconst 0, 1) := by decide +kernel
theorem dX8_unmount_12 : decode cX8_unmount 12 = .ok (.iconst 1, 1) := by decide +kernel
theorem dX8_unmount_13 : decode cX8_unmount 13 = .ok (.invokevirtual 157, 3) := by decide +kernel
theorem dX8_unmount_16 : decode cX8_unmount 16 = .ok (.istore_n 1, 1) := by decide +kernel
theorem dX8_unmount_17 : decode cX8_unmount 17 = .ok (.iload_n 1, 1) := by decide +kernel
theorem dX8_unmount_18 : decode cX8_unmount 18 = .ok (.ifCond .ge 5, 3) := by decide +kernel
theorem dX8_unmount_21 : decode cX8_unmount 21 = .ok (.iload_n 1, 1) := by decide +kernel
theorem dX8_unmount_22 : decode cX8_unmount 22 = .ok (.ireturn, 1) := by decide +kernel
theorem dX8_unmount_23 : decode cX8_unmount 23 = .ok (.aload_n 0, 1) := by decide +kernel
theorem dX8_unmount_24 : decode cX8_unmount 24 = .ok (.iload_n 1, 1) := by decide +kernel
theorem dX8_unmount_25 : decode cX8_unmount 25 = .ok (.invokevirtual 73, 3) := by decide +kernel
theorem dX8_unmount_28 : decode cX8_unmount 28 = .ok (.istore_n 2, 1) := by decide +kernel
theorem dX8_unmount_29 : decode cX8_unmount 29 = .ok (.iload_n 2, 1) := by decide +kernel
theorem dX8_unmount_30 : decode cX8_unmount 30 = .ok (.ifCond .ne 6, 3) := by decide +kernel
theorem dX8_unmount_33 : decode cX8_unmount 33 = .ok (.bipush (-11), 2) := by decide +kernel
theorem dX8_unmount_35 : decode cX8_unmount 35 = .ok (.ireturn, 1) := by decide +kernel
theorem dX8_unmount_36 : decode cX8_unmount 36 = .ok (.aload_n 0, 1) := by decide +kernel
theorem dX8_unmount_37 : decode cX8_unmount 37 = .ok (.getfield 19, 3) := by decide +kernel
theorem dX8_unmount_40 : decode cX8_unmount 40 = .ok (.aload_n 0, 1) := by decide +kernel
theorem dX8_unmount_41 : decode cX8_unmount 41 = .ok (.getfield 108, 3) := by decide +kernel
theorem dX8_unmount_44 : decode cX8_unmount 44 = .ok (.iaload, 1) := by decide +kernel
theorem dX8_unmount_45 : decode cX8_unmount 45 = .ok (.iload_n 2, 1) := by decide +kernel
theorem dX8_unmount_46 : decode cX8_unmount 46 = .ok (.if_icmp .eq 16, 3) := by decide +kernel
theorem dX8_unmount_49 : decode cX8_unmount 49 = .ok (.aload_n 0, 1) := by decide +kernel
theorem dX8_unmount_50 : decode cX8_unmount 50 = .ok (.getfield 19, 3) := by decide +kernel
theorem dX8_unmount_53 : decode cX8_unmount 53 = .ok (.aload_n 0, 1) := by decide +kernel
theorem dX8_unmount_54 : decode cX8_unmount 54 = .ok (.getfield 111, 3) := by decide +kernel
theorem dX8_unmount_57 : decode cX8_unmount 57 = .ok (.iaload, 1) := by decide +kernel
theorem dX8_unmount_58 : decode cX8_unmount 58 = .ok (.iload_n 2, 1) := by decide +kernel
theorem dX8_unmount_59 : decode cX8_unmount 59 = .ok (.if_icmp .ne 7, 3) := by decide +kernel
theorem dX8_unmount_62 : decode cX8_unmount 62 = .ok (.iconst 1, 1) := by decide +kernel
theorem dX8_unmount_63 : decode cX8_unmount 63 = .ok (.goto 4, 3) := by decide +kernel
theorem dX8_unmount_66 : decode cX8_unmount 66 = .ok (.iconst 0, 1) := by decide +kernel
theorem dX8_unmount_67 : decode cX8_unmount 67 = .ok (.istore_n 3, 1) := by decide +kernel
theorem dX8_unmount_68 : decode cX8_unmount 68 = .ok (.iconst 1, 1) := by decide +kernel
theorem dX8_unmount_69 : decode cX8_unmount 69 = .ok (.istore 4, 2) := by decide +kernel
theorem dX8_unmount_71 : decode cX8_unmount 71 = .ok (.iload 4, 2) := by decide +kernel
theorem dX8_unmount_73 : decode cX8_unmount 73 = .ok (.aload_n 0, 1) := by decide +kernel
theorem dX8_unmount_74 : decode cX8_unmount 74 = .ok (.getfield 41, 3) := by decide +kernel
theorem dX8_unmount_77 : decode cX8_unmount 77 = .ok (.if_icmp .ge 45, 3) := by decide +kernel
theorem dX8_unmount_80 : decode cX8_unmount 80 = .ok (.iload_n 3, 1) := by decide +kernel
theorem dX8_unmount_81 : decode cX8_unmount 81 = .ok (.ifCond .ne 29, 3) := by decide +kernel
theorem dX8_unmount_84 : decode cX8_unmount 84 = .ok (.aload_n 0, 1) := by decide +kernel
theorem dX8_unmount_85 : decode cX8_unmount 85 = .ok (.getfield 48, 3) := by decide +kernel
theorem dX8_unmount_88 : decode cX8_unmount 88 = .ok (.iload 4, 2) := by decide +kernel
theorem dX8_unmount_90 : decode cX8_unmount 90 = .ok (.iaload, 1) := by decide +kernel
theorem dX8_unmount_91 : decode cX8_unmount 91 = .ok (.ifCond .lt 23, 3) := by decide +kernel
theorem dX8_unmount_94 : decode cX8_unmount 94 = .ok (.aload_n 0, 1) := by decide +kernel
theorem dX8_unmount_95 : decode cX8_unmount 95 = .ok (.getfield 19, 3) := by decide +kernel
theorem dX8_unmount_98 : decode cX8_unmount 98 = .ok (.aload_n 0, 1) := by decide +kernel
theorem dX8_unmount_99 : decode cX8_unmount 99 = .ok (.getfield 48, 3) := by decide +kernel
theorem dX8_unmount_102 : decode cX8_unmount 102 = .ok (.iload 4, 2) := by decide +kernel
theorem dX8_unmount_104 : decode cX8_unmount 104 = .ok (.iaload, 1) := by decide +kernel
theorem dX8_unmount_105 : decode cX8_unmount 105 = .ok (.iaload, 1) := by decide +kernel
theorem dX8_unmount_106 : decode cX8_unmount 106 = .ok (.iload_n 2, 1) := by decide +kernel
theorem dX8_unmount_107 : decode cX8_unmount 107 = .ok (.if_icmp .ne 7, 3) := by decide +kernel
theorem dX8_unmount_110 : decode cX8_unmount 110 = .ok (.iconst 1, 1) := by decide +kernel
theorem dX8_unmount_111 : decode cX8_unmount 111 = .ok (.goto 4, 3) := by decide +kernel
theorem dX8_unmount_114 : decode cX8_unmount 114 = .ok (.iconst 0, 1) := by decide +kernel
theorem dX8_unmount_115 : decode cX8_unmount 115 = .ok (.istore_n 3, 1) := by decide +kernel
theorem dX8_unmount_116 : decode cX8_unmount 116 = .ok (.iinc 4 1, 3) := by decide +kernel
theorem dX8_unmount_119 : decode cX8_unmount 119 = .ok (.goto (-48), 3) := by decide +kernel
theorem dX8_unmount_122 : decode cX8_unmount 122 = .ok (.iload_n 3, 1) := by decide +kernel
theorem dX8_unmount_123 : decode cX8_unmount 123 = .ok (.ifCond .eq 6, 3) := by decide +kernel
theorem dX8_unmount_126 : decode cX8_unmount 126 = .ok (.bipush (-7), 2) := by decide +kernel
theorem dX8_unmount_128 : decode cX8_unmount 128 = .ok (.ireturn, 1) := by decide +kernel
theorem dX8_unmount_129 : decode cX8_unmount 129 = .ok (.aload_n 0, 1) := by decide +kernel
theorem dX8_unmount_130 : decode cX8_unmount 130 = .ok (.getfield 48, 3) := by decide +kernel
theorem dX8_unmount_133 : decode cX8_unmount 133 = .ok (.iload_n 2, 1) := by decide +kernel
theorem dX8_unmount_134 : decode cX8_unmount 134 = .ok (.iconst (-1), 1) := by decide +kernel
theorem dX8_unmount_135 : decode cX8_unmount 135 = .ok (.iastore, 1) := by decide +kernel
theorem dX8_unmount_136 : decode cX8_unmount 136 = .ok (.iload_n 2, 1) := by decide +kernel
theorem dX8_unmount_137 : decode cX8_unmount 137 = .ok (.ireturn, 1) := by decide +kernel
theorem dX8_enter_0 : decode cX8_enter 0 = .ok (.aload_n 0, 1) := by decide +kernel
theorem dX8_enter_1 : decode cX8_enter 1 = .ok (.iconst 0, 1) := by decide +kernel
theorem dX8_enter_2 : decode cX8_enter 2 = .ok (.iconst 1, 1) := by decide +kernel
theorem dX8_enter_3 : decode cX8_enter 3 = .ok (.invokevirtual 157, 3) := by decide +kernel
theorem dX8_enter_6 : decode cX8_enter 6 = .ok (.istore_n 2, 1) := by decide +kernel
theorem dX8_enter_7 : decode cX8_enter 7 = .ok (.iload_n 2, 1) := by decide +kernel
theorem dX8_enter_8 : decode cX8_enter 8 = .ok (.ifCond .ge 5, 3) := by decide +kernel
theorem dX8_enter_11 : decode cX8_enter 11 = .ok (.iload_n 2, 1) := by decide +kernel
theorem dX8_enter_12 : decode cX8_enter 12 = .ok (.ireturn, 1) := by decide +kernel
theorem dX8_enter_13 : decode cX8_enter 13 = .ok (.aload_n 0, 1) := by decide +kernel
theorem dX8_enter_14 : decode cX8_enter 14 = .ok (.getfield 7, 3) := by decide +kernel
theorem dX8_enter_17 : decode cX8_enter 17 = .ok (.iload_n 2, 1) := by decide +kernel
theorem dX8_enter_18 : decode cX8_enter 18 = .ok (.iaload, 1) := by decide +kernel
theorem dX8_enter_19 : decode cX8_enter 19 = .ok (.iconst 1, 1) := by decide +kernel
theorem dX8_enter_20 : decode cX8_enter 20 = .ok (.if_icmp .eq 6, 3) := by decide +kernel
theorem dX8_enter_23 : decode cX8_enter 23 = .ok (.bipush (-2), 2) := by decide +kernel
theorem dX8_enter_25 : decode cX8_enter 25 = .ok (.ireturn, 1) := by decide +kernel
theorem dX8_enter_26 : decode cX8_enter 26 = .ok (.aload_n 0, 1) := by decide +kernel
theorem dX8_enter_27 : decode cX8_enter 27 = .ok (.iload_n 2, 1) := by decide +kernel
theorem dX8_enter_28 : decode cX8_enter 28 = .ok (.iconst 0, 1) := by decide +kernel
theorem dX8_enter_29 : decode cX8_enter 29 = .ok (.invokevirtual 120, 3) := by decide +kernel
theorem dX8_enter_32 : decode cX8_enter 32 = .ok (.ifCond .ne 6, 3) := by decide +kernel
theorem dX8_enter_35 : decode cX8_enter 35 = .ok (.bipush (-3), 2) := by decide +kernel
theorem dX8_enter_37 : decode cX8_enter 37 = .ok (.ireturn, 1) := by decide +kernel
theorem dX8_enter_38 : decode cX8_enter 38 = .ok (.aload_n 0, 1) := by decide +kernel
theorem dX8_enter_39 : decode cX8_enter 39 = .ok (.iload_n 2, 1) := by decide +kernel
theorem dX8_enter_40 : decode cX8_enter 40 = .ok (.putfield 111, 3) := by decide +kernel
theorem dX8_enter_43 : decode cX8_enter 43 = .ok (.aload_n 0, 1) := by decide +kernel
theorem dX8_enter_44 : decode cX8_enter 44 = .ok (.iload_n 1, 1) := by decide +kernel
theorem dX8_enter_45 : decode cX8_enter 45 = .ok (.ifCond .eq 7, 3) := by decide +kernel
theorem dX8_enter_48 : decode cX8_enter 48 = .ok (.iload_n 2, 1) := by decide +kernel
theorem dX8_enter_49 : decode cX8_enter 49 = .ok (.goto 7, 3) := by decide +kernel
theorem dX8_enter_52 : decode cX8_enter 52 = .ok (.aload_n 0, 1) := by decide +kernel
theorem dX8_enter_53 : decode cX8_enter 53 = .ok (.getfield 108, 3) := by decide +kernel
theorem dX8_enter_56 : decode cX8_enter 56 = .ok (.putfield 108, 3) := by decide +kernel
theorem dX8_enter_59 : decode cX8_enter 59 = .ok (.iload_n 2, 1) := by decide +kernel
theorem dX8_enter_60 : decode cX8_enter 60 = .ok (.ireturn, 1) := by decide +kernel
theorem dX8_user_0 : decode cX8_user 0 = .ok (.iload_n 1, 1) := by decide +kernel
theorem dX8_user_1 : decode cX8_user 1 = .ok (.ifCond .lt 8, 3) := by decide +kernel
theorem dX8_user_4 : decode cX8_user 4 = .ok (.iload_n 1, 1) := by decide +kernel
theorem dX8_user_5 : decode cX8_user 5 = .ok (.iconst 3, 1) := by decide +kernel
theorem dX8_user_6 : decode cX8_user 6 = .ok (.if_icmp .le 5, 3) := by decide +kernel
theorem dX8_user_9 : decode cX8_user 9 = .ok (.iconst 0, 1) := by decide +kernel
theorem dX8_user_10 : decode cX8_user 10 = .ok (.ireturn, 1) := by decide +kernel
theorem dX8_user_11 : decode cX8_user 11 = .ok (.aload_n 0, 1) := by decide +kernel
theorem dX8_user_12 : decode cX8_user 12 = .ok (.iload_n 1, 1) := by decide +kernel
theorem dX8_user_13 : decode cX8_user 13 = .ok (.putfield 66, 3) := by decide +kernel
theorem dX8_user_16 : decode cX8_user 16 = .ok (.iconst 1, 1) := by decide +kernel
theorem dX8_user_17 : decode cX8_user 17 = .ok (.ireturn, 1) := by decide +kernel
theorem dX8_change_0 : decode cX8_change 0 = .ok (.iload_n 1, 1) := by decide +kernel
theorem dX8_change_1 : decode cX8_change 1 = .ok (.ifCond .lt 9, 3) := by decide +kernel
theorem dX8_change_4 : decode cX8_change 4 = .ok (.iload_n 1, 1) := by decide +kernel
theorem dX8_change_5 : decode cX8_change 5 = .ok (.bipush 15, 2) := by decide +kernel
theorem dX8_change_7 : decode cX8_change 7 = .ok (.if_icmp .le 6, 3) := by decide +kernel
theorem dX8_change_10 : decode cX8_change 10 = .ok (.bipush (-11), 2) := by decide +kernel
theorem dX8_change_12 : decode cX8_change 12 = .ok (.ireturn, 1) := by decide +kernel
theorem dX8_change_13 : decode cX8_change 13 = .ok (.aload_n 0, 1) := by decide +kernel
theorem dX8_change_14 : decode cX8_change 14 = .ok (.iconst 0, 1) := by decide +kernel
theorem dX8_change_15 : decode cX8_change 15 = .ok (.iconst 1, 1) := by decide +kernel
theorem dX8_change_16 : decode cX8_change 16 = .ok (.invokevirtual 157, 3) := by decide +kernel
theorem dX8_change_19 : decode cX8_change 19 = .ok (.istore_n 2, 1) := by decide +kernel
theorem dX8_change_20 : decode cX8_change 20 = .ok (.iload_n 2, 1) := by decide +kernel
theorem dX8_change_21 : decode cX8_change 21 = .ok (.ifCond .ge 5, 3) := by decide +kernel
theorem dX8_change_24 : decode cX8_change 24 = .ok (.iload_n 2, 1) := by decide +kernel
theorem dX8_change_25 : decode cX8_change 25 = .ok (.ireturn, 1) := by decide +kernel
theorem dX8_change_26 : decode cX8_change 26 = .ok (.aload_n 0, 1) := by decide +kernel
theorem dX8_change_27 : decode cX8_change 27 = .ok (.getfield 66, 3) := by decide +kernel
theorem dX8_change_30 : decode cX8_change 30 = .ok (.ifCond .eq 19, 3) := by decide +kernel
theorem dX8_change_33 : decode cX8_change 33 = .ok (.aload_n 0, 1) := by decide +kernel
theorem dX8_change_34 : decode cX8_change 34 = .ok (.getfield 16, 3) := by decide +kernel
theorem dX8_change_37 : decode cX8_change 37 = .ok (.iload_n 2, 1) := by decide +kernel
theorem dX8_change_38 : decode cX8_change 38 = .ok (.iaload, 1) := by decide +kernel
theorem dX8_change_39 : decode cX8_change 39 = .ok (.aload_n 0, 1) := by decide +kernel
theorem dX8_change_40 : decode cX8_change 40 = .ok (.getfield 66, 3) := by decide +kernel
theorem dX8_change_43 : decode cX8_change 43 = .ok (.if_icmp .eq 6, 3) := by decide +kernel
theorem dX8_change_46 : decode cX8_change 46 = .ok (.bipush (-3), 2) := by decide +kernel
theorem dX8_change_48 : decode cX8_change 48 = .ok (.ireturn, 1) := by decide +kernel
theorem dX8_change_49 : decode cX8_change 49 = .ok (.aload_n 0, 1) := by decide +kernel
theorem dX8_change_50 : decode cX8_change 50 = .ok (.getfield 13, 3) := by decide +kernel
theorem dX8_change_53 : decode cX8_change 53 = .ok (.iload_n 2, 1) := by decide +kernel
theorem dX8_change_54 : decode cX8_change 54 = .ok (.iaload, 1) := by decide +kernel
theorem dX8_change_55 : decode cX8_change 55 = .ok (.istore_n 3, 1) := by decide +kernel
theorem dX8_change_56 : decode cX8_change 56 = .ok (.aload_n 0, 1) := by decide +kernel
theorem dX8_change_57 : decode cX8_change 57 = .ok (.getfield 13, 3) := by decide +kernel
theorem dX8_change_60 : decode cX8_change 60 = .ok (.iload_n 2, 1) := by decide +kernel
theorem dX8_change_61 : decode cX8_change 61 = .ok (.iload_n 1, 1) := by decide +kernel
theorem dX8_change_62 : decode cX8_change 62 = .ok (.iastore, 1) := by decide +kernel
theorem dX8_change_63 : decode cX8_change 63 = .ok (.iload_n 3, 1) := by decide +kernel
theorem dX8_change_64 : decode cX8_change 64 = .ok (.ireturn, 1) := by decide +kernel
theorem dX8_characters_0 : decode cX8_characters 0 = .ok (.iconst 0, 1) := by decide +kernel
theorem dX8_characters_1 : decode cX8_characters 1 = .ok (.istore_n 2, 1) := by decide +kernel
theorem dX8_characters_2 : decode cX8_characters 2 = .ok (.lload_n 0, 1) := by decide +kernel
theorem dX8_characters_3 : decode cX8_characters 3 = .ok (.lstore_n 3, 1) := by decide +kernel
theorem dX8_characters_4 : decode cX8_characters 4 = .ok (.lload_n 3, 1) := by decide +kernel
theorem dX8_characters_5 : decode cX8_characters 5 = .ok (.lconst 0, 1) := by decide +kernel
theorem dX8_characters_6 : decode cX8_characters 6 = .ok (.lcmp, 1) := by decide +kernel
theorem dX8_characters_7 : decode cX8_characters 7 = .ok (.ifCond .le 14, 3) := by decide +kernel
theorem dX8_characters_10 : decode cX8_characters 10 = .ok (.lload_n 3, 1) := by decide +kernel
theorem dX8_characters_11 : decode cX8_characters 11 = .ok (.bipush 7, 2) := by decide +kernel
theorem dX8_characters_13 : decode cX8_characters 13 = .ok (.lshr, 1) := by decide +kernel
theorem dX8_characters_14 : decode cX8_characters 14 = .ok (.lstore_n 3, 1) := by decide +kernel
theorem dX8_characters_15 : decode cX8_characters 15 = .ok (.iinc 2 1, 3) := by decide +kernel
theorem dX8_characters_18 : decode cX8_characters 18 = .ok (.goto (-14), 3) := by decide +kernel
theorem dX8_characters_21 : decode cX8_characters 21 = .ok (.iload_n 2, 1) := by decide +kernel
theorem dX8_characters_22 : decode cX8_characters 22 = .ok (.ireturn, 1) := by decide +kernel
theorem dX8_nameOf_0 : decode cX8_nameOf 0 = .ok (.iconst 0, 1) := by decide +kernel
theorem dX8_nameOf_1 : decode cX8_nameOf 1 = .ok (.istore_n 2, 1) := by decide +kernel
theorem dX8_nameOf_2 : decode cX8_nameOf 2 = .ok (.iload_n 2, 1) := by decide +kernel
theorem dX8_nameOf_3 : decode cX8_nameOf 3 = .ok (.aload_n 0, 1) := by decide +kernel
theorem dX8_nameOf_4 : decode cX8_nameOf 4 = .ok (.getfield 82, 3) := by decide +kernel
theorem dX8_nameOf_7 : decode cX8_nameOf 7 = .ok (.if_icmp .ge 41, 3) := by decide +kernel
theorem dX8_nameOf_10 : decode cX8_nameOf 10 = .ok (.aload_n 0, 1) := by decide +kernel
theorem dX8_nameOf_11 : decode cX8_nameOf 11 = .ok (.getfield 38, 3) := by decide +kernel
theorem dX8_nameOf_14 : decode cX8_nameOf 14 = .ok (.iload_n 2, 1) := by decide +kernel
theorem dX8_nameOf_15 : decode cX8_nameOf 15 = .ok (.iaload, 1) := by decide +kernel
theorem dX8_nameOf_16 : decode cX8_nameOf 16 = .ok (.iload_n 1, 1) := by decide +kernel
theorem dX8_nameOf_17 : decode cX8_nameOf 17 = .ok (.if_icmp .ne 25, 3) := by decide +kernel
theorem dX8_nameOf_20 : decode cX8_nameOf 20 = .ok (.aload_n 0, 1) := by decide +kernel
theorem dX8_nameOf_21 : decode cX8_nameOf 21 = .ok (.getfield 31, 3) := by decide +kernel
theorem dX8_nameOf_24 : decode cX8_nameOf 24 = .ok (.iload_n 2, 1) := by decide +kernel
theorem dX8_nameOf_25 : decode cX8_nameOf 25 = .ok (.iaload, 1) := by decide +kernel
theorem dX8_nameOf_26 : decode cX8_nameOf 26 = .ok (.aload_n 0, 1) := by decide +kernel
theorem dX8_nameOf_27 : decode cX8_nameOf 27 = .ok (.getfield 22, 3) := by decide +kernel
theorem dX8_nameOf_30 : decode cX8_nameOf 30 = .ok (.iload_n 1, 1) := by decide +kernel
theorem dX8_nameOf_31 : decode cX8_nameOf 31 = .ok (.iaload, 1) := by decide +kernel
theorem dX8_nameOf_32 : decode cX8_nameOf 32 = .ok (.if_icmp .ne 10, 3) := by decide +kernel
theorem dX8_nameOf_35 : decode cX8_nameOf 35 = .ok (.aload_n 0, 1) := by decide +kernel
theorem dX8_nameOf_36 : decode cX8_nameOf 36 = .ok (.getfield 34, 3) := by decide +kernel
theorem dX8_nameOf_39 : decode cX8_nameOf 39 = .ok (.iload_n 2, 1) := by decide +kernel
theorem dX8_nameOf_40 : decode cX8_nameOf 40 = .ok (.laload, 1) := by decide +kernel
theorem dX8_nameOf_41 : decode cX8_nameOf 41 = .ok (.lreturn, 1) := by decide +kernel
theorem dX8_nameOf_42 : decode cX8_nameOf 42 = .ok (.iinc 2 1, 3) := by decide +kernel
theorem dX8_nameOf_45 : decode cX8_nameOf 45 = .ok (.goto (-43), 3) := by decide +kernel
theorem dX8_nameOf_48 : decode cX8_nameOf 48 = .ok (.lconst 0, 1) := by decide +kernel
theorem dX8_nameOf_49 : decode cX8_nameOf 49 = .ok (.lreturn, 1) := by decide +kernel
theorem dX8_path_0 : decode cX8_path 0 = .ok (.aload_n 0, 1) := by decide +kernel
theorem dX8_path_1 : decode cX8_path 1 = .ok (.getfield 111, 3) := by decide +kernel
theorem dX8_path_4 : decode cX8_path 4 = .ok (.aload_n 0, 1) := by decide +kernel
theorem dX8_path_5 : decode cX8_path 5 = .ok (.getfield 108, 3) := by decide +kernel
theorem dX8_path_8 : decode cX8_path 8 = .ok (.if_icmp .ne 18, 3) := by decide +kernel
theorem dX8_path_11 : decode cX8_path 11 = .ok (.aload_n 0, 1) := by decide +kernel
theorem dX8_path_12 : decode cX8_path 12 = .ok (.getfield 51, 3) := by decide +kernel
theorem dX8_path_15 : decode cX8_path 15 = .ok (.iconst 0, 1) := by decide +kernel
theorem dX8_path_16 : decode cX8_path 16 = .ok (.bipush 47, 2) := by decide +kernel
theorem dX8_path_18 : decode cX8_path 18 = .ok (.iastore, 1) := by decide +kernel
theorem dX8_path_19 : decode cX8_path 19 = .ok (.aload_n 0, 1) := by decide +kernel
theorem dX8_path_20 : decode cX8_path 20 = .ok (.iconst 1, 1) := by decide +kernel
theorem dX8_path_21 : decode cX8_path 21 = .ok (.putfield 60, 3) := by decide +kernel
theorem dX8_path_24 : decode cX8_path 24 = .ok (.iconst 1, 1) := by decide +kernel
theorem dX8_path_25 : decode cX8_path 25 = .ok (.ireturn, 1) := by decide +kernel
theorem dX8_path_26 : decode cX8_path 26 = .ok (.iconst 0, 1) := by decide +kernel
theorem dX8_path_27 : decode cX8_path 27 = .ok (.istore_n 1, 1) := by decide +kernel
theorem dX8_path_28 : decode cX8_path 28 = .ok (.aload_n 0, 1) := by decide +kernel
theorem dX8_path_29 : decode cX8_path 29 = .ok (.getfield 111, 3) := by decide +kernel
theorem dX8_path_32 : decode cX8_path 32 = .ok (.istore_n 2, 1) := by decide +kernel
theorem dX8_path_33 : decode cX8_path 33 = .ok (.iload_n 2, 1) := by decide +kernel
theorem dX8_path_34 : decode cX8_path 34 = .ok (.aload_n 0, 1) := by decide +kernel
theorem dX8_path_35 : decode cX8_path 35 = .ok (.getfield 108, 3) := by decide +kernel
theorem dX8_path_38 : decode cX8_path 38 = .ok (.if_icmp .eq 40, 3) := by decide +kernel
theorem dX8_path_41 : decode cX8_path 41 = .ok (.iload_n 1, 1) := by decide +kernel
theorem dX8_path_42 : decode cX8_path 42 = .ok (.sipush 1000, 3) := by decide +kernel
theorem dX8_path_45 : decode cX8_path 45 = .ok (.if_icmp .ge 33, 3) := by decide +kernel
theorem dX8_path_48 : decode cX8_path 48 = .ok (.iload_n 1, 1) := by decide +kernel
theorem dX8_path_49 : decode cX8_path 49 = .ok (.iconst 1, 1) := by decide +kernel
theorem dX8_path_50 : decode cX8_path 50 = .ok (.iadd, 1) := by decide +kernel
theorem dX8_path_51 : decode cX8_path 51 = .ok (.aload_n 0, 1) := by decide +kernel
theorem dX8_path_52 : decode cX8_path 52 = .ok (.aload_n 0, 1) := by decide +kernel
theorem dX8_path_53 : decode cX8_path 53 = .ok (.iload_n 2, 1) := by decide +kernel
theorem dX8_path_54 : decode cX8_path 54 = .ok (.invokevirtual 76, 3) := by decide +kernel
theorem dX8_path_57 : decode cX8_path 57 = .ok (.invokevirtual 189, 3) := by decide +kernel
theorem dX8_path_60 : decode cX8_path 60 = .ok (.invokestatic 193, 3) := by decide +kernel
theorem dX8_path_63 : decode cX8_path 63 = .ok (.iadd, 1) := by decide +kernel
theorem dX8_path_64 : decode cX8_path 64 = .ok (.istore_n 1, 1) := by decide +kernel
theorem dX8_path_65 : decode cX8_path 65 = .ok (.aload_n 0, 1) := by decide +kernel
theorem dX8_path_66 : decode cX8_path 66 = .ok (.iload_n 2, 1) := by decide +kernel
theorem dX8_path_67 : decode cX8_path 67 = .ok (.aload_n 0, 1) := by decide +kernel
theorem dX8_path_68 : decode cX8_path 68 = .ok (.getfield 108, 3) := by decide +kernel
theorem dX8_path_71 : decode cX8_path 71 = .ok (.invokevirtual 126, 3) := by decide +kernel
theorem dX8_path_74 : decode cX8_path 74 = .ok (.istore_n 2, 1) := by decide +kernel
theorem dX8_path_75 : decode cX8_path 75 = .ok (.goto (-42), 3) := by decide +kernel
theorem dX8_path_78 : decode cX8_path 78 = .ok (.iload_n 1, 1) := by decide +kernel
theorem dX8_path_79 : decode cX8_path 79 = .ok (.bipush 40, 2) := by decide +kernel
theorem dX8_path_81 : decode cX8_path 81 = .ok (.if_icmp .le 6, 3) := by decide +kernel
theorem dX8_path_84 : decode cX8_path 84 = .ok (.bipush (-5), 2) := by decide +kernel
theorem dX8_path_86 : decode cX8_path 86 = .ok (.ireturn, 1) := by decide +kernel
theorem dX8_path_87 : decode cX8_path 87 = .ok (.iload_n 1, 1) := by decide +kernel
theorem dX8_path_88 : decode cX8_path 88 = .ok (.istore_n 2, 1) := by decide +kernel
theorem dX8_path_89 : decode cX8_path 89 = .ok (.aload_n 0, 1) := by decide +kernel
theorem dX8_path_90 : decode cX8_path 90 = .ok (.getfield 111, 3) := by decide +kernel
theorem dX8_path_93 : decode cX8_path 93 = .ok (.istore_n 3, 1) := by decide +kernel
theorem dX8_path_94 : decode cX8_path 94 = .ok (.iload_n 3, 1) := by decide +kernel
theorem dX8_path_95 : decode cX8_path 95 = .ok (.aload_n 0, 1) := by decide +kernel
theorem dX8_path_96 : decode cX8_path 96 = .ok (.getfield 108, 3) := by decide +kernel
theorem dX8_path_99 : decode cX8_path 99 = .ok (.if_icmp .eq 73, 3) := by decide +kernel
theorem dX8_path_102 : decode cX8_path 102 = .ok (.aload_n 0, 1) := by decide +kernel
theorem dX8_path_103 : decode cX8_path 103 = .ok (.aload_n 0, 1) := by decide +kernel
theorem dX8_path_104 : decode cX8_path 104 = .ok (.iload_n 3, 1) := by decide +kernel
theorem dX8_path_105 : decode cX8_path 105 = .ok (.invokevirtual 76, 3) := by decide +kernel
theorem dX8_path_108 : decode cX8_path 108 = .ok (.invokevirtual 189, 3) := by decide +kernel
theorem dX8_path_111 : decode cX8_path 111 = .ok (.lstore 4, 2) := by decide +kernel
theorem dX8_path_113 : decode cX8_path 113 = .ok (.lload 4, 2) := by decide +kernel
theorem dX8_path_115 : decode cX8_path 115 = .ok (.lconst 0, 1) := by decide +kernel
theorem dX8_path_116 : decode cX8_path 116 = .ok (.lcmp, 1) := by decide +kernel
theorem dX8_path_117 : decode cX8_path 117 = .ok (.ifCond .le 30, 3) := by decide +kernel
theorem dX8_path_120 : decode cX8_path 120 = .ok (.iload_n 2, 1) := by decide +kernel
theorem dX8_path_121 : decode cX8_path 121 = .ok (.iconst 1, 1) := by decide +kernel
theorem dX8_path_122 : decode cX8_path 122 = .ok (.isub, 1) := by decide +kernel
theorem dX8_path_123 : decode cX8_path 123 = .ok (.istore_n 2, 1) := by decide +kernel
theorem dX8_path_124 : decode cX8_path 124 = .ok (.aload_n 0, 1) := by decide +kernel
theorem dX8_path_125 : decode cX8_path 125 = .ok (.getfield 51, 3) := by decide +kernel
theorem dX8_path_128 : decode cX8_path 128 = .ok (.iload_n 2, 1) := by decide +kernel
theorem dX8_path_129 : decode cX8_path 129 = .ok (.lload 4, 2) := by decide +kernel
theorem dX8_path_131 : decode cX8_path 131 = .ok (.ldc2_w 197, 3) := by decide +kernel
theorem dX8_path_134 : decode cX8_path 134 = .ok (.land, 1) := by decide +kernel
theorem dX8_path_135 : decode cX8_path 135 = .ok (.l2i, 1) := by decide +kernel
theorem dX8_path_136 : decode cX8_path 136 = .ok (.iastore, 1) := by decide +kernel
theorem dX8_path_137 : decode cX8_path 137 = .ok (.lload 4, 2) := by decide +kernel
theorem dX8_path_139 : decode cX8_path 139 = .ok (.bipush 7, 2) := by decide +kernel
theorem dX8_path_141 : decode cX8_path 141 = .ok (.lshr, 1) := by decide +kernel
theorem dX8_path_142 : decode cX8_path 142 = .ok (.lstore 4, 2) := by decide +kernel
theorem dX8_path_144 : decode cX8_path 144 = .ok (.goto (-31), 3) := by decide +kernel
theorem dX8_path_147 : decode cX8_path 147 = .ok (.iload_n 2, 1) := by decide +kernel
theorem dX8_path_148 : decode cX8_path 148 = .ok (.iconst 1, 1) := by decide +kernel
theorem dX8_path_149 : decode cX8_path 149 = .ok (.isub, 1) := by decide +kernel
theorem dX8_path_150 : decode cX8_path 150 = .ok (.istore_n 2, 1) := by decide +kernel
theorem dX8_path_151 : decode cX8_path 151 = .ok (.aload_n 0, 1) := by decide +kernel
theorem dX8_path_152 : decode cX8_path 152 = .ok (.getfield 51, 3) := by decide +kernel
theorem dX8_path_155 : decode cX8_path 155 = .ok (.iload_n 2, 1) := by decide +kernel
theorem dX8_path_156 : decode cX8_path 156 = .ok (.bipush 47, 2) := by decide +kernel
theorem dX8_path_158 : decode cX8_path 158 = .ok (.iastore, 1) := by decide +kernel
theorem dX8_path_159 : decode cX8_path 159 = .ok (.aload_n 0, 1) := by decide +kernel
theorem dX8_path_160 : decode cX8_path 160 = .ok (.iload_n 3, 1) := by decide +kernel
theorem dX8_path_161 : decode cX8_path 161 = .ok (.aload_n 0, 1) := by decide +kernel
theorem dX8_path_162 : decode cX8_path 162 = .ok (.getfield 108, 3) := by decide +kernel
theorem dX8_path_165 : decode cX8_path 165 = .ok (.invokevirtual 126, 3) := by decide +kernel
theorem dX8_path_168 : decode cX8_path 168 = .ok (.istore_n 3, 1) := by decide +kernel
theorem dX8_path_169 : decode cX8_path 169 = .ok (.goto (-75), 3) := by decide +kernel
theorem dX8_path_172 : decode cX8_path 172 = .ok (.aload_n 0, 1) := by decide +kernel
theorem dX8_path_173 : decode cX8_path 173 = .ok (.iload_n 1, 1) := by decide +kernel
theorem dX8_path_174 : decode cX8_path 174 = .ok (.putfield 60, 3) := by decide +kernel
theorem dX8_path_177 : decode cX8_path 177 = .ok (.aload_n 0, 1) := by decide +kernel
theorem dX8_path_178 : decode cX8_path 178 = .ok (.getfield 60, 3) := by decide +kernel
theorem dX8_path_181 : decode cX8_path 181 = .ok (.ireturn, 1) := by decide +kernel
theorem dX8_kind_0 : decode cX8_kind 0 = .ok (.aload_n 0, 1) := by decide +kernel
theorem dX8_kind_1 : decode cX8_kind 1 = .ok (.iload_n 1, 1) := by decide +kernel
theorem dX8_kind_2 : decode cX8_kind 2 = .ok (.invokevirtual 199, 3) := by decide +kernel
theorem dX8_kind_5 : decode cX8_kind 5 = .ok (.ifCond .eq 12, 3) := by decide +kernel
theorem dX8_kind_8 : decode cX8_kind 8 = .ok (.aload_n 0, 1) := by decide +kernel
theorem dX8_kind_9 : decode cX8_kind 9 = .ok (.getfield 7, 3) := by decide +kernel
theorem dX8_kind_12 : decode cX8_kind 12 = .ok (.iload_n 1, 1) := by decide +kernel
theorem dX8_kind_13 : decode cX8_kind 13 = .ok (.iaload, 1) := by decide +kernel
theorem dX8_kind_14 : decode cX8_kind 14 = .ok (.goto 4, 3) := by decide +kernel
theorem dX8_kind_17 : decode cX8_kind 17 = .ok (.iconst 0, 1) := by decide +kernel
theorem dX8_kind_18 : decode cX8_kind 18 = .ok (.ireturn, 1) := by decide +kernel
theorem dX8_about_0 : decode cX8_about 0 = .ok (.aload_n 0, 1) := by decide +kernel
theorem dX8_about_1 : decode cX8_about 1 = .ok (.iload_n 1, 1) := by decide +kernel
theorem dX8_about_2 : decode cX8_about 2 = .ok (.invokevirtual 199, 3) := by decide +kernel
theorem dX8_about_5 : decode cX8_about 5 = .ok (.ifCond .eq 12, 3) := by decide +kernel
theorem dX8_about_8 : decode cX8_about 8 = .ok (.iload_n 2, 1) := by decide +kernel
theorem dX8_about_9 : decode cX8_about 9 = .ok (.ifCond .lt 8, 3) := by decide +kernel
theorem dX8_about_12 : decode cX8_about 12 = .ok (.iload_n 2, 1) := by decide +kernel
theorem dX8_about_13 : decode cX8_about 13 = .ok (.iconst 5, 1) := by decide +kernel
theorem dX8_about_14 : decode cX8_about 14 = .ok (.if_icmp .le 6, 3) := by decide +kernel
theorem dX8_about_17 : decode cX8_about 17 = .ok (.bipush (-11), 2) := by decide +kernel
theorem dX8_about_19 : decode cX8_about 19 = .ok (.ireturn, 1) := by decide +kernel
theorem dX8_about_20 : decode cX8_about 20 = .ok (.iload_n 2, 1) := by decide +kernel
theorem dX8_about_21 : decode cX8_about 21 = .ok (.iconst 2, 1) := by decide +kernel
theorem dX8_about_22 : decode cX8_about 22 = .ok (.if_icmp .le 35, 3) := by decide +kernel
theorem dX8_about_25 : decode cX8_about 25 = .ok (.iload_n 2, 1) := by decide +kernel
theorem dX8_about_26 : decode cX8_about 26 = .ok (.iconst 3, 1) := by decide +kernel
theorem dX8_about_27 : decode cX8_about 27 = .ok (.if_icmp .ne 11, 3) := by decide +kernel
theorem dX8_about_30 : decode cX8_about 30 = .ok (.aload_n 0, 1) := by decide +kernel
theorem dX8_about_31 : decode cX8_about 31 = .ok (.iload_n 1, 1) := by decide +kernel
theorem dX8_about_32 : decode cX8_about 32 = .ok (.invokevirtual 183, 3) := by decide +kernel
theorem dX8_about_35 : decode cX8_about 35 = .ok (.goto 21, 3) := by decide +kernel
theorem dX8_about_38 : decode cX8_about 38 = .ok (.iload_n 2, 1) := by decide +kernel
theorem dX8_about_39 : decode cX8_about 39 = .ok (.iconst 4, 1) := by decide +kernel
theorem dX8_about_40 : decode cX8_about 40 = .ok (.if_icmp .ne 11, 3) := by decide +kernel
theorem dX8_about_43 : decode cX8_about 43 = .ok (.aload_n 0, 1) := by decide +kernel
theorem dX8_about_44 : decode cX8_about 44 = .ok (.iload_n 1, 1) := by decide +kernel
theorem dX8_about_45 : decode cX8_about 45 = .ok (.invokevirtual 180, 3) := by decide +kernel
theorem dX8_about_48 : decode cX8_about 48 = .ok (.goto 8, 3) := by decide +kernel
theorem dX8_about_51 : decode cX8_about 51 = .ok (.aload_n 0, 1) := by decide +kernel
theorem dX8_about_52 : decode cX8_about 52 = .ok (.iload_n 1, 1) := by decide +kernel
theorem dX8_about_53 : decode cX8_about 53 = .ok (.invokevirtual 69, 3) := by decide +kernel
theorem dX8_about_56 : decode cX8_about 56 = .ok (.ireturn, 1) := by decide +kernel
theorem dX8_about_57 : decode cX8_about 57 = .ok (.iload_n 2, 1) := by decide +kernel
theorem dX8_about_58 : decode cX8_about 58 = .ok (.ifCond .ne 12, 3) := by decide +kernel
theorem dX8_about_61 : decode cX8_about 61 = .ok (.aload_n 0, 1) := by decide +kernel
theorem dX8_about_62 : decode cX8_about 62 = .ok (.getfield 13, 3) := by decide +kernel
theorem dX8_about_65 : decode cX8_about 65 = .ok (.iload_n 1, 1) := by decide +kernel
theorem dX8_about_66 : decode cX8_about 66 = .ok (.iaload, 1) := by decide +kernel
theorem dX8_about_67 : decode cX8_about 67 = .ok (.goto 23, 3) := by decide +kernel
theorem dX8_about_70 : decode cX8_about 70 = .ok (.iload_n 2, 1) := by decide +kernel
theorem dX8_about_71 : decode cX8_about 71 = .ok (.iconst 1, 1) := by decide +kernel
theorem dX8_about_72 : decode cX8_about 72 = .ok (.if_icmp .ne 12, 3) := by decide +kernel
theorem dX8_about_75 : decode cX8_about 75 = .ok (.aload_n 0, 1) := by decide +kernel
theorem dX8_about_76 : decode cX8_about 76 = .ok (.getfield 16, 3) := by decide +kernel
theorem dX8_about_79 : decode cX8_about 79 = .ok (.iload_n 1, 1) := by decide +kernel
theorem dX8_about_80 : decode cX8_about 80 = .ok (.iaload, 1) := by decide +kernel
theorem dX8_about_81 : decode cX8_about 81 = .ok (.goto 9, 3) := by decide +kernel
theorem dX8_about_84 : decode cX8_about 84 = .ok (.aload_n 0, 1) := by decide +kernel
theorem dX8_about_85 : decode cX8_about 85 = .ok (.getfield 19, 3) := by decide +kernel
theorem dX8_about_88 : decode cX8_about 88 = .ok (.iload_n 1, 1) := by decide +kernel
theorem dX8_about_89 : decode cX8_about 89 = .ok (.iaload, 1) := by decide +kernel
theorem dX8_about_90 : decode cX8_about 90 = .ok (.ireturn, 1) := by decide +kernel
theorem dX8_entry_0 : decode cX8_entry 0 = .ok (.aload_n 0, 1) := by decide +kernel
theorem dX8_entry_1 : decode cX8_entry 1 = .ok (.iload_n 1, 1) := by decide +kernel
theorem dX8_entry_2 : decode cX8_entry 2 = .ok (.invokevirtual 199, 3) := by decide +kernel
theorem dX8_entry_5 : decode cX8_entry 5 = .ok (.ifCond .eq 7, 3) := by decide +kernel
theorem dX8_entry_8 : decode cX8_entry 8 = .ok (.iload_n 2, 1) := by decide +kernel
theorem dX8_entry_9 : decode cX8_entry 9 = .ok (.ifCond .ge 5, 3) := by decide +kernel
theorem dX8_entry_12 : decode cX8_entry 12 = .ok (.iconst (-1), 1) := by decide +kernel
theorem dX8_entry_13 : decode cX8_entry 13 = .ok (.ireturn, 1) := by decide +kernel
theorem dX8_entry_14 : decode cX8_entry 14 = .ok (.iload_n 2, 1) := by decide +kernel
theorem dX8_entry_15 : decode cX8_entry 15 = .ok (.istore_n 3, 1) := by decide +kernel
theorem dX8_entry_16 : decode cX8_entry 16 = .ok (.iconst 0, 1) := by decide +kernel
theorem dX8_entry_17 : decode cX8_entry 17 = .ok (.istore 4, 2) := by decide +kernel
theorem dX8_entry_19 : decode cX8_entry 19 = .ok (.iload 4, 2) := by decide +kernel
theorem dX8_entry_21 : decode cX8_entry 21 = .ok (.aload_n 0, 1) := by decide +kernel
theorem dX8_entry_22 : decode cX8_entry 22 = .ok (.getfield 82, 3) := by decide +kernel
theorem dX8_entry_25 : decode cX8_entry 25 = .ok (.if_icmp .ge 36, 3) := by decide +kernel
theorem dX8_entry_28 : decode cX8_entry 28 = .ok (.aload_n 0, 1) := by decide +kernel
theorem dX8_entry_29 : decode cX8_entry 29 = .ok (.getfield 31, 3) := by decide +kernel
theorem dX8_entry_32 : decode cX8_entry 32 = .ok (.iload 4, 2) := by decide +kernel
theorem dX8_entry_34 : decode cX8_entry 34 = .ok (.iaload, 1) := by decide +kernel
theorem dX8_entry_35 : decode cX8_entry 35 = .ok (.iload_n 1, 1) := by decide +kernel
theorem dX8_entry_36 : decode cX8_entry 36 = .ok (.if_icmp .ne 19, 3) := by decide +kernel
theorem dX8_entry_39 : decode cX8_entry 39 = .ok (.iload_n 3, 1) := by decide +kernel
theorem dX8_entry_40 : decode cX8_entry 40 = .ok (.ifCond .ne 11, 3) := by decide +kernel
theorem dX8_entry_43 : decode cX8_entry 43 = .ok (.aload_n 0, 1) := by decide +kernel
theorem dX8_entry_44 : decode cX8_entry 44 = .ok (.getfield 38, 3) := by decide +kernel
theorem dX8_entry_47 : decode cX8_entry 47 = .ok (.iload 4, 2) := by decide +kernel
theorem dX8_entry_49 : decode cX8_entry 49 = .ok (.iaload, 1) := by decide +kernel
theorem dX8_entry_50 : decode cX8_entry 50 = .ok (.ireturn, 1) := by decide +kernel
theorem dX8_entry_51 : decode cX8_entry 51 = .ok (.iload_n 3, 1) := by decide +kernel
theorem dX8_entry_52 : decode cX8_entry 52 = .ok (.iconst 1, 1) := by decide +kernel
theorem dX8_entry_53 : decode cX8_entry 53 = .ok (.isub, 1) := by decide +kernel
theorem dX8_entry_54 : decode cX8_entry 54 = .ok (.istore_n 3, 1) := by decide +kernel
theorem dX8_entry_55 : decode cX8_entry 55 = .ok (.iinc 4 1, 3) := by decide +kernel
theorem dX8_entry_58 : decode cX8_entry 58 = .ok (.goto (-39), 3) := by decide +kernel
theorem dX8_entry_61 : decode cX8_entry 61 = .ok (.iconst (-1), 1) := by decide +kernel
theorem dX8_entry_62 : decode cX8_entry 62 = .ok (.ireturn, 1) := by decide +kernel
theorem dX0_init_0 : decode cX0_init 0 = .ok (.aload_n 0, 1) := by decide +kernel
theorem dX0_init_1 : decode cX0_init 1 = .ok (.invokespecial 3, 3) := by decide +kernel
theorem dX0_init_4 : decode cX0_init 4 = .ok (.aload_n 0, 1) := by decide +kernel
theorem dX0_init_5 : decode cX0_init 5 = .ok (.bipush 80, 2) := by decide +kernel
theorem dX0_init_7 : decode cX0_init 7 = .ok (.newarray .int, 2) := by decide +kernel
theorem dX0_init_9 : decode cX0_init 9 = .ok (.putfield 9, 3) := by decide +kernel
theorem dX0_init_12 : decode cX0_init 12 = .ok (.aload_n 0, 1) := by decide +kernel
theorem dX0_init_13 : decode cX0_init 13 = .ok (.bipush 80, 2) := by decide +kernel
theorem dX0_init_15 : decode cX0_init 15 = .ok (.newarray .long, 2) := by decide +kernel
theorem dX0_init_17 : decode cX0_init 17 = .ok (.putfield 15, 3) := by decide +kernel
theorem dX0_init_20 : decode cX0_init 20 = .ok (.aload_n 0, 1) := by decide +kernel
theorem dX0_init_21 : decode cX0_init 21 = .ok (.bipush 80, 2) := by decide +kernel
theorem dX0_init_23 : decode cX0_init 23 = .ok (.newarray .int, 2) := by decide +kernel
theorem dX0_init_25 : decode cX0_init 25 = .ok (.putfield 19, 3) := by decide +kernel
theorem dX0_init_28 : decode cX0_init 28 = .ok (.return_, 1) := by decide +kernel
theorem dX0_isFull_0 : decode cX0_isFull 0 = .ok (.aload_n 0, 1) := by decide +kernel
theorem dX0_isFull_1 : decode cX0_isFull 1 = .ok (.getfield 22, 3) := by decide +kernel
theorem dX0_isFull_4 : decode cX0_isFull 4 = .ok (.bipush 80, 2) := by decide +kernel
theorem dX0_isFull_6 : decode cX0_isFull 6 = .ok (.if_icmp .lt 7, 3) := by decide +kernel
theorem dX0_isFull_9 : decode cX0_isFull 9 = .ok (.iconst 1, 1) := by decide +kernel
theorem dX0_isFull_10 : decode cX0_isFull 10 = .ok (.goto 4, 3) := by decide +kernel
theorem dX0_isFull_13 : decode cX0_isFull 13 = .ok (.iconst 0, 1) := by decide +kernel
theorem dX0_isFull_14 : decode cX0_isFull 14 = .ok (.ireturn, 1) := by decide +kernel
theorem dX0_add_0 : decode cX0_add 0 = .ok (.aload_n 0, 1) := by decide +kernel
theorem dX0_add_1 : decode cX0_add 1 = .ok (.getfield 22, 3) := by decide +kernel
theorem dX0_add_4 : decode cX0_add 4 = .ok (.bipush 80, 2) := by decide +kernel
theorem dX0_add_6 : decode cX0_add 6 = .ok (.if_icmp .ge 44, 3) := by decide +kernel
theorem dX0_add_9 : decode cX0_add 9 = .ok (.aload_n 0, 1) := by decide +kernel
theorem dX0_add_10 : decode cX0_add 10 = .ok (.getfield 9, 3) := by decide +kernel
theorem dX0_add_13 : decode cX0_add 13 = .ok (.aload_n 0, 1) := by decide +kernel
theorem dX0_add_14 : decode cX0_add 14 = .ok (.getfield 22, 3) := by decide +kernel
theorem dX0_add_17 : decode cX0_add 17 = .ok (.iload_n 1, 1) := by decide +kernel
theorem dX0_add_18 : decode cX0_add 18 = .ok (.iastore, 1) := by decide +kernel
theorem dX0_add_19 : decode cX0_add 19 = .ok (.aload_n 0, 1) := by decide +kernel
theorem dX0_add_20 : decode cX0_add 20 = .ok (.getfield 15, 3) := by decide +kernel
theorem dX0_add_23 : decode cX0_add 23 = .ok (.aload_n 0, 1) := by decide +kernel
theorem dX0_add_24 : decode cX0_add 24 = .ok (.getfield 22, 3) := by decide +kernel
theorem dX0_add_27 : decode cX0_add 27 = .ok (.lload_n 2, 1) := by decide +kernel
theorem dX0_add_28 : decode cX0_add 28 = .ok (.lastore, 1) := by decide +kernel
theorem dX0_add_29 : decode cX0_add 29 = .ok (.aload_n 0, 1) := by decide +kernel
theorem dX0_add_30 : decode cX0_add 30 = .ok (.getfield 19, 3) := by decide +kernel
theorem dX0_add_33 : decode cX0_add 33 = .ok (.aload_n 0, 1) := by decide +kernel
theorem dX0_add_34 : decode cX0_add 34 = .ok (.getfield 22, 3) := by decide +kernel
theorem dX0_add_37 : decode cX0_add 37 = .ok (.iload 4, 2) := by decide +kernel
theorem dX0_add_39 : decode cX0_add 39 = .ok (.iastore, 1) := by decide +kernel
theorem dX0_add_40 : decode cX0_add 40 = .ok (.aload_n 0, 1) := by decide +kernel
theorem dX0_add_41 : decode cX0_add 41 = .ok (.dup, 1) := by decide +kernel
theorem dX0_add_42 : decode cX0_add 42 = .ok (.getfield 22, 3) := by decide +kernel
theorem dX0_add_45 : decode cX0_add 45 = .ok (.iconst 1, 1) := by decide +kernel
theorem dX0_add_46 : decode cX0_add 46 = .ok (.iadd, 1) := by decide +kernel
theorem dX0_add_47 : decode cX0_add 47 = .ok (.putfield 22, 3) := by decide +kernel
theorem dX0_add_50 : decode cX0_add 50 = .ok (.return_, 1) := by decide +kernel
theorem dX0_drop_0 : decode cX0_drop 0 = .ok (.iload_n 1, 1) := by decide +kernel
theorem dX0_drop_1 : decode cX0_drop 1 = .ok (.ifCond .lt 11, 3) := by decide +kernel
theorem dX0_drop_4 : decode cX0_drop 4 = .ok (.iload_n 1, 1) := by decide +kernel
theorem dX0_drop_5 : decode cX0_drop 5 = .ok (.aload_n 0, 1) := by decide +kernel
theorem dX0_drop_6 : decode cX0_drop 6 = .ok (.getfield 22, 3) := by decide +kernel
theorem dX0_drop_9 : decode cX0_drop 9 = .ok (.if_icmp .lt 4, 3) := by decide +kernel
theorem dX0_drop_12 : decode cX0_drop 12 = .ok (.return_, 1) := by decide +kernel
theorem dX0_drop_13 : decode cX0_drop 13 = .ok (.aload_n 0, 1) := by decide +kernel
theorem dX0_drop_14 : decode cX0_drop 14 = .ok (.dup, 1) := by decide +kernel
theorem dX0_drop_15 : decode cX0_drop 15 = .ok (.getfield 22, 3) := by decide +kernel
theorem dX0_drop_18 : decode cX0_drop 18 = .ok (.iconst 1, 1) := by decide +kernel
theorem dX0_drop_19 : decode cX0_drop 19 = .ok (.isub, 1) := by decide +kernel
theorem dX0_drop_20 : decode cX0_drop 20 = .ok (.putfield 22, 3) := by decide +kernel
theorem dX0_drop_23 : decode cX0_drop 23 = .ok (.iload_n 1, 1) := by decide +kernel
theorem dX0_drop_24 : decode cX0_drop 24 = .ok (.istore_n 2, 1) := by decide +kernel
theorem dX0_drop_25 : decode cX0_drop 25 = .ok (.iload_n 2, 1) := by decide +kernel
theorem dX0_drop_26 : decode cX0_drop 26 = .ok (.aload_n 0, 1) := by decide +kernel
theorem dX0_drop_27 : decode cX0_drop 27 = .ok (.getfield 22, 3) := by decide +kernel
theorem dX0_drop_30 : decode cX0_drop 30 = .ok (.if_icmp .ge 51, 3) := by decide +kernel
theorem dX0_drop_33 : decode cX0_drop 33 = .ok (.aload_n 0, 1) := by decide +kernel
theorem dX0_drop_34 : decode cX0_drop 34 = .ok (.getfield 9, 3) := by decide +kernel
theorem dX0_drop_37 : decode cX0_drop 37 = .ok (.iload_n 2, 1) := by decide +kernel
theorem dX0_drop_38 : decode cX0_drop 38 = .ok (.aload_n 0, 1) := by decide +kernel
theorem dX0_drop_39 : decode cX0_drop 39 = .ok (.getfield 9, 3) := by decide +kernel
theorem dX0_drop_42 : decode cX0_drop 42 = .ok (.iload_n 2, 1) := by decide +kernel
theorem dX0_drop_43 : decode cX0_drop 43 = .ok (.iconst 1, 1) := by decide +kernel
theorem dX0_drop_44 : decode cX0_drop 44 = .ok (.iadd, 1) := by decide +kernel
theorem dX0_drop_45 : decode cX0_drop 45 = .ok (.iaload, 1) := by decide +kernel
theorem dX0_drop_46 : decode cX0_drop 46 = .ok (.iastore, 1) := by decide +kernel
theorem dX0_drop_47 : decode cX0_drop 47 = .ok (.aload_n 0, 1) := by decide +kernel
theorem dX0_drop_48 : decode cX0_drop 48 = .ok (.getfield 15, 3) := by decide +kernel
theorem dX0_drop_51 : decode cX0_drop 51 = .ok (.iload_n 2, 1) := by decide +kernel
theorem dX0_drop_52 : decode cX0_drop 52 = .ok (.aload_n 0, 1) := by decide +kernel
theorem dX0_drop_53 : decode cX0_drop 53 = .ok (.getfield 15, 3) := by decide +kernel
theorem dX0_drop_56 : decode cX0_drop 56 = .ok (.iload_n 2, 1) := by decide +kernel
theorem dX0_drop_57 : decode cX0_drop 57 = .ok (.iconst 1, 1) := by decide +kernel
theorem dX0_drop_58 : decode cX0_drop 58 = .ok (.iadd, 1) := by decide +kernel
theorem dX0_drop_59 : decode cX0_drop 59 = .ok (.laload, 1) := by decide +kernel
theorem dX0_drop_60 : decode cX0_drop 60 = .ok (.lastore, 1) := by decide +kernel
theorem dX0_drop_61 : decode cX0_drop 61 = .ok (.aload_n 0, 1) := by decide +kernel
theorem dX0_drop_62 : decode cX0_drop 62 = .ok (.getfield 19, 3) := by decide +kernel
theorem dX0_drop_65 : decode cX0_drop 65 = .ok (.iload_n 2, 1) := by decide +kernel
theorem dX0_drop_66 : decode cX0_drop 66 = .ok (.aload_n 0, 1) := by decide +kernel
theorem dX0_drop_67 : decode cX0_drop 67 = .ok (.getfield 19, 3) := by decide +kernel
theorem dX0_drop_70 : decode cX0_drop 70 = .ok (.iload_n 2, 1) := by decide +kernel
theorem dX0_drop_71 : decode cX0_drop 71 = .ok (.iconst 1, 1) := by decide +kernel
theorem dX0_drop_72 : decode cX0_drop 72 = .ok (.iadd, 1) := by decide +kernel
theorem dX0_drop_73 : decode cX0_drop 73 = .ok (.iaload, 1) := by decide +kernel
theorem dX0_drop_74 : decode cX0_drop 74 = .ok (.iastore, 1) := by decide +kernel
theorem dX0_drop_75 : decode cX0_drop 75 = .ok (.iinc 2 1, 3) := by decide +kernel
theorem dX0_drop_78 : decode cX0_drop 78 = .ok (.goto (-53), 3) := by decide +kernel
theorem dX0_drop_81 : decode cX0_drop 81 = .ok (.return_, 1) := by decide +kernel
theorem dX0_object_0 : decode cX0_object 0 = .ok (.aload_n 0, 1) := by decide +kernel
theorem dX0_object_1 : decode cX0_object 1 = .ok (.getfield 19, 3) := by decide +kernel
theorem dX0_object_4 : decode cX0_object 4 = .ok (.iload_n 1, 1) := by decide +kernel
theorem dX0_object_5 : decode cX0_object 5 = .ok (.iaload, 1) := by decide +kernel
theorem dX0_object_6 : decode cX0_object 6 = .ok (.ireturn, 1) := by decide +kernel
theorem dX0_find_0 : decode cX0_find 0 = .ok (.iconst 0, 1) := by decide +kernel
theorem dX0_find_1 : decode cX0_find 1 = .ok (.istore 4, 2) := by decide +kernel
theorem dX0_find_3 : decode cX0_find 3 = .ok (.iload 4, 2) := by decide +kernel
theorem dX0_find_5 : decode cX0_find 5 = .ok (.aload_n 0, 1) := by decide +kernel
theorem dX0_find_6 : decode cX0_find 6 = .ok (.getfield 22, 3) := by decide +kernel
theorem dX0_find_9 : decode cX0_find 9 = .ok (.if_icmp .ge 35, 3) := by decide +kernel
theorem dX0_find_12 : decode cX0_find 12 = .ok (.aload_n 0, 1) := by decide +kernel
theorem dX0_find_13 : decode cX0_find 13 = .ok (.getfield 9, 3) := by decide +kernel
theorem dX0_find_16 : decode cX0_find 16 = .ok (.iload 4, 2) := by decide +kernel
theorem dX0_find_18 : decode cX0_find 18 = .ok (.iaload, 1) := by decide +kernel
theorem dX0_find_19 : decode cX0_find 19 = .ok (.iload_n 1, 1) := by decide +kernel
theorem dX0_find_20 : decode cX0_find 20 = .ok (.if_icmp .ne 18, 3) := by decide +kernel
theorem dX0_find_23 : decode cX0_find 23 = .ok (.aload_n 0, 1) := by decide +kernel
theorem dX0_find_24 : decode cX0_find 24 = .ok (.getfield 15, 3) := by decide +kernel
theorem dX0_find_27 : decode cX0_find 27 = .ok (.iload 4, 2) := by decide +kernel
theorem dX0_find_29 : decode cX0_find 29 = .ok (.laload, 1) := by decide +kernel
theorem dX0_find_30 : decode cX0_find 30 = .ok (.lload_n 2, 1) := by decide +kernel
theorem dX0_find_31 : decode cX0_find 31 = .ok (.lcmp, 1) := by decide +kernel
theorem dX0_find_32 : decode cX0_find 32 = .ok (.ifCond .ne 6, 3) := by decide +kernel
theorem dX0_find_35 : decode cX0_find 35 = .ok (.iload 4, 2) := by decide +kernel
theorem dX0_find_37 : decode cX0_find 37 = .ok (.ireturn, 1) := by decide +kernel
theorem dX0_find_38 : decode cX0_find 38 = .ok (.iinc 4 1, 3) := by decide +kernel
theorem dX0_find_41 : decode cX0_find 41 = .ok (.goto (-38), 3) := by decide +kernel
theorem dX0_find_44 : decode cX0_find 44 = .ok (.iconst (-1), 1) := by decide +kernel
theorem dX0_find_45 : decode cX0_find 45 = .ok (.ireturn, 1) := by decide +kernel
theorem dX0_findNth_0 : decode cX0_findNth 0 = .ok (.iconst 0, 1) := by decide +kernel
theorem dX0_findNth_1 : decode cX0_findNth 1 = .ok (.istore_n 3, 1) := by decide +kernel
theorem dX0_findNth_2 : decode cX0_findNth 2 = .ok (.iconst 0, 1) := by decide +kernel
theorem dX0_findNth_3 : decode cX0_findNth 3 = .ok (.istore 4, 2) := by decide +kernel
theorem dX0_findNth_5 : decode cX0_findNth 5 = .ok (.iload 4, 2) := by decide +kernel
theorem dX0_findNth_7 : decode cX0_findNth 7 = .ok (.aload_n 0, 1) := by decide +kernel
theorem dX0_findNth_8 : decode cX0_findNth 8 = .ok (.getfield 22, 3) := by decide +kernel
theorem dX0_findNth_11 : decode cX0_findNth 11 = .ok (.if_icmp .ge 31, 3) := by decide +kernel
theorem dX0_findNth_14 : decode cX0_findNth 14 = .ok (.aload_n 0, 1) := by decide +kernel
theorem dX0_findNth_15 : decode cX0_findNth 15 = .ok (.getfield 9, 3) := by decide +kernel
theorem dX0_findNth_18 : decode cX0_findNth 18 = .ok (.iload 4, 2) := by decide +kernel
theorem dX0_findNth_20 : decode cX0_findNth 20 = .ok (.iaload, 1) := by decide +kernel
theorem dX0_findNth_21 : decode cX0_findNth 21 = .ok (.iload_n 1, 1) := by decide +kernel
theorem dX0_findNth_22 : decode cX0_findNth 22 = .ok (.if_icmp .ne 14, 3) := by decide +kernel
theorem dX0_findNth_25 : decode cX0_findNth 25 = .ok (.iload_n 3, 1) := by decide +kernel
theorem dX0_findNth_26 : decode cX0_findNth 26 = .ok (.iload_n 2, 1) := by decide +kernel
theorem dX0_findNth_27 : decode cX0_findNth 27 = .ok (.if_icmp .ne 6, 3) := by decide +kernel
theorem dX0_findNth_30 : decode cX0_findNth 30 = .ok (.iload 4, 2) := by decide +kernel
theorem dX0_findNth_32 : decode cX0_findNth 32 = .ok (.ireturn, 1) := by decide +kernel
theorem dX0_findNth_33 : decode cX0_findNth 33 = .ok (.iinc 3 1, 3) := by decide +kernel
theorem dX0_findNth_36 : decode cX0_findNth 36 = .ok (.iinc 4 1, 3) := by decide +kernel
theorem dX0_findNth_39 : decode cX0_findNth 39 = .ok (.goto (-34), 3) := by decide +kernel
theorem dX0_findNth_42 : decode cX0_findNth 42 = .ok (.iconst (-1), 1) := by decide +kernel
theorem dX0_findNth_43 : decode cX0_findNth 43 = .ok (.ireturn, 1) := by decide +kernel
theorem dX0_nameFor_0 : decode cX0_nameFor 0 = .ok (.iconst 0, 1) := by decide +kernel
theorem dX0_nameFor_1 : decode cX0_nameFor 1 = .ok (.istore_n 2, 1) := by decide +kernel
theorem dX0_nameFor_2 : decode cX0_nameFor 2 = .ok (.iload_n 2, 1) := by decide +kernel
theorem dX0_nameFor_3 : decode cX0_nameFor 3 = .ok (.aload_n 0, 1) := by decide +kernel
theorem dX0_nameFor_4 : decode cX0_nameFor 4 = .ok (.getfield 22, 3) := by decide +kernel
theorem dX0_nameFor_7 : decode cX0_nameFor 7 = .ok (.if_icmp .ge 26, 3) := by decide +kernel
theorem dX0_nameFor_10 : decode cX0_nameFor 10 = .ok (.aload_n 0, 1) := by decide +kernel
theorem dX0_nameFor_11 : decode cX0_nameFor 11 = .ok (.getfield 19, 3) := by decide +kernel
theorem dX0_nameFor_14 : decode cX0_nameFor 14 = .ok (.iload_n 2, 1) := by decide +kernel
theorem dX0_nameFor_15 : decode cX0_nameFor 15 = .ok (.iaload, 1) := by decide +kernel
theorem dX0_nameFor_16 : decode cX0_nameFor 16 = .ok (.iload_n 1, 1) := by decide +kernel
theorem dX0_nameFor_17 : decode cX0_nameFor 17 = .ok (.if_icmp .ne 10, 3) := by decide +kernel
theorem dX0_nameFor_20 : decode cX0_nameFor 20 = .ok (.aload_n 0, 1) := by decide +kernel
theorem dX0_nameFor_21 : decode cX0_nameFor 21 = .ok (.getfield 15, 3) := by decide +kernel
theorem dX0_nameFor_24 : decode cX0_nameFor 24 = .ok (.iload_n 2, 1) := by decide +kernel
theorem dX0_nameFor_25 : decode cX0_nameFor 25 = .ok (.laload, 1) := by decide +kernel
theorem dX0_nameFor_26 : decode cX0_nameFor 26 = .ok (.lreturn, 1) := by decide +kernel
theorem dX0_nameFor_27 : decode cX0_nameFor 27 = .ok (.iinc 2 1, 3) := by decide +kernel
theorem dX0_nameFor_30 : decode cX0_nameFor 30 = .ok (.goto (-28), 3) := by decide +kernel
theorem dX0_nameFor_33 : decode cX0_nameFor 33 = .ok (.lconst 0, 1) := by decide +kernel
theorem dX0_nameFor_34 : decode cX0_nameFor 34 = .ok (.lreturn, 1) := by decide +kernel
theorem dX0_countFor_0 : decode cX0_countFor 0 = .ok (.iconst 0, 1) := by decide +kernel
theorem dX0_countFor_1 : decode cX0_countFor 1 = .ok (.istore_n 2, 1) := by decide +kernel
theorem dX0_countFor_2 : decode cX0_countFor 2 = .ok (.iconst 0, 1) := by decide +kernel
theorem dX0_countFor_3 : decode cX0_countFor 3 = .ok (.istore_n 3, 1) := by decide +kernel
theorem dX0_countFor_4 : decode cX0_countFor 4 = .ok (.iload_n 3, 1) := by decide +kernel
theorem dX0_countFor_5 : decode cX0_countFor 5 = .ok (.aload_n 0, 1) := by decide +kernel
theorem dX0_countFor_6 : decode cX0_countFor 6 = .ok (.getfield 22, 3) := by decide +kernel
theorem dX0_countFor_9 : decode cX0_countFor 9 = .ok (.if_icmp .ge 27, 3) := by decide +kernel
theorem dX0_countFor_12 : decode cX0_countFor 12 = .ok (.iload_n 2, 1) := by decide +kernel
theorem dX0_countFor_13 : decode cX0_countFor 13 = .ok (.aload_n 0, 1) := by decide +kernel
theorem dX0_countFor_14 : decode cX0_countFor 14 = .ok (.getfield 19, 3) := by decide +kernel
theorem dX0_countFor_17 : decode cX0_countFor 17 = .ok (.iload_n 3, 1) := by decide +kernel
theorem dX0_countFor_18 : decode cX0_countFor 18 = .ok (.iaload, 1) := by decide +kernel
theorem dX0_countFor_19 : decode cX0_countFor 19 = .ok (.iload_n 1, 1) := by decide +kernel
theorem dX0_countFor_20 : decode cX0_countFor 20 = .ok (.if_icmp .ne 7, 3) := by decide +kernel
theorem dX0_countFor_23 : decode cX0_countFor 23 = .ok (.iconst 1, 1) := by decide +kernel
theorem dX0_countFor_24 : decode cX0_countFor 24 = .ok (.goto 4, 3) := by decide +kernel
theorem dX0_countFor_27 : decode cX0_countFor 27 = .ok (.iconst 0, 1) := by decide +kernel
theorem dX0_countFor_28 : decode cX0_countFor 28 = .ok (.iadd, 1) := by decide +kernel
theorem dX0_countFor_29 : decode cX0_countFor 29 = .ok (.istore_n 2, 1) := by decide +kernel
theorem dX0_countFor_30 : decode cX0_countFor 30 = .ok (.iinc 3 1, 3) := by decide +kernel
theorem dX0_countFor_33 : decode cX0_countFor 33 = .ok (.goto (-29), 3) := by decide +kernel
theorem dX0_countFor_36 : decode cX0_countFor 36 = .ok (.iload_n 2, 1) := by decide +kernel
theorem dX0_countFor_37 : decode cX0_countFor 37 = .ok (.ireturn, 1) := by decide +kernel
theorem dX0_countIn_0 : decode cX0_countIn 0 = .ok (.iconst 0, 1) := by decide +kernel
theorem dX0_countIn_1 : decode cX0_countIn 1 = .ok (.istore_n 2, 1) := by decide +kernel
theorem dX0_countIn_2 : decode cX0_countIn 2 = .ok (.iconst 0, 1) := by decide +kernel
theorem dX0_countIn_3 : decode cX0_countIn 3 = .ok (.istore_n 3, 1) := by decide +kernel
theorem dX0_countIn_4 : decode cX0_countIn 4 = .ok (.iload_n 3, 1) := by decide +kernel
theorem dX0_countIn_5 : decode cX0_countIn 5 = .ok (.aload_n 0, 1) := by decide +kernel
theorem dX0_countIn_6 : decode cX0_countIn 6 = .ok (.getfield 22, 3) := by decide +kernel
theorem dX0_countIn_9 : decode cX0_countIn 9 = .ok (.if_icmp .ge 27, 3) := by decide +kernel
theorem dX0_countIn_12 : decode cX0_countIn 12 = .ok (.iload_n 2, 1) := by decide +kernel
theorem dX0_countIn_13 : decode cX0_countIn 13 = .ok (.aload_n 0, 1) := by decide +kernel
theorem dX0_countIn_14 : decode cX0_countIn 14 = .ok (.getfield 9, 3) := by decide +kernel
theorem dX0_countIn_17 : decode cX0_countIn 17 = .ok (.iload_n 3, 1) := by decide +kernel
theorem dX0_countIn_18 : decode cX0_countIn 18 = .ok (.iaload, 1) := by decide +kernel
theorem dX0_countIn_19 : decode cX0_countIn 19 = .ok (.iload_n 1, 1) := by decide +kernel
theorem dX0_countIn_20 : decode cX0_countIn 20 = .ok (.if_icmp .ne 7, 3) := by decide +kernel
theorem dX0_countIn_23 : decode cX0_countIn 23 = .ok (.iconst 1, 1) := by decide +kernel
theorem dX0_countIn_24 : decode cX0_countIn 24 = .ok (.goto 4, 3) := by decide +kernel
theorem dX0_countIn_27 : decode cX0_countIn 27 = .ok (.iconst 0, 1) := by decide +kernel
theorem dX0_countIn_28 : decode cX0_countIn 28 = .ok (.iadd, 1) := by decide +kernel
theorem dX0_countIn_29 : decode cX0_countIn 29 = .ok (.istore_n 2, 1) := by decide +kernel
theorem dX0_countIn_30 : decode cX0_countIn 30 = .ok (.iinc 3 1, 3) := by decide +kernel
theorem dX0_countIn_33 : decode cX0_countIn 33 = .ok (.goto (-29), 3) := by decide +kernel
theorem dX0_countIn_36 : decode cX0_countIn 36 = .ok (.iload_n 2, 1) := by decide +kernel
theorem dX0_countIn_37 : decode cX0_countIn 37 = .ok (.ireturn, 1) := by decide +kernel
theorem dX1_init_0 : decode cX1_init 0 = .ok (.aload_n 0, 1) := by decide +kernel
theorem dX1_init_1 : decode cX1_init 1 = .ok (.invokespecial 3, 3) := by decide +kernel
theorem dX1_init_4 : decode cX1_init 4 = .ok (.aload_n 0, 1) := by decide +kernel
theorem dX1_init_5 : decode cX1_init 5 = .ok (.bipush 40, 2) := by decide +kernel
theorem dX1_init_7 : decode cX1_init 7 = .ok (.newarray .char, 2) := by decide +kernel
theorem dX1_init_9 : decode cX1_init 9 = .ok (.putfield 9, 3) := by decide +kernel
theorem dX1_init_12 : decode cX1_init 12 = .ok (.return_, 1) := by decide +kernel
theorem dX1_clear_0 : decode cX1_clear 0 = .ok (.aload_n 0, 1) := by decide +kernel
theorem dX1_clear_1 : decode cX1_clear 1 = .ok (.iconst 0, 1) := by decide +kernel
theorem dX1_clear_2 : decode cX1_clear 2 = .ok (.putfield 15, 3) := by decide +kernel
theorem dX1_clear_5 : decode cX1_clear 5 = .ok (.return_, 1) := by decide +kernel
theorem dX1_size_0 : decode cX1_size 0 = .ok (.aload_n 0, 1) := by decide +kernel
theorem dX1_size_1 : decode cX1_size 1 = .ok (.getfield 15, 3) := by decide +kernel
theorem dX1_size_4 : decode cX1_size 4 = .ok (.ireturn, 1) := by decide +kernel
theorem dX1_isEmpty_0 : decode cX1_isEmpty 0 = .ok (.aload_n 0, 1) := by decide +kernel
theorem dX1_isEmpty_1 : decode cX1_isEmpty 1 = .ok (.getfield 15, 3) := by decide +kernel
theorem dX1_isEmpty_4 : decode cX1_isEmpty 4 = .ok (.ifCond .ne 7, 3) := by decide +kernel
theorem dX1_isEmpty_7 : decode cX1_isEmpty 7 = .ok (.iconst 1, 1) := by decide +kernel
theorem dX1_isEmpty_8 : decode cX1_isEmpty 8 = .ok (.goto 4, 3) := by decide +kernel
theorem dX1_isEmpty_11 : decode cX1_isEmpty 11 = .ok (.iconst 0, 1) := by decide +kernel
theorem dX1_isEmpty_12 : decode cX1_isEmpty 12 = .ok (.ireturn, 1) := by decide +kernel
theorem dX1_hasRoom_0 : decode cX1_hasRoom 0 = .ok (.iload_n 1, 1) := by decide +kernel
theorem dX1_hasRoom_1 : decode cX1_hasRoom 1 = .ok (.bipush 40, 2) := by decide +kernel
theorem dX1_hasRoom_3 : decode cX1_hasRoom 3 = .ok (.aload_n 0, 1) := by decide +kernel
theorem dX1_hasRoom_4 : decode cX1_hasRoom 4 = .ok (.getfield 15, 3) := by decide +kernel
theorem dX1_hasRoom_7 : decode cX1_hasRoom 7 = .ok (.isub, 1) := by decide +kernel
theorem dX1_hasRoom_8 : decode cX1_hasRoom 8 = .ok (.if_icmp .gt 7, 3) := by decide +kernel
theorem dX1_hasRoom_11 : decode cX1_hasRoom 11 = .ok (.iconst 1, 1) := by decide +kernel
theorem dX1_hasRoom_12 : decode cX1_hasRoom 12 = .ok (.goto 4, 3) := by decide +kernel
theorem dX1_hasRoom_15 : decode cX1_hasRoom 15 = .ok (.iconst 0, 1) := by decide +kernel
theorem dX1_hasRoom_16 : decode cX1_hasRoom 16 = .ok (.ireturn, 1) := by decide +kernel
theorem dX1_append_0 : decode cX1_append 0 = .ok (.aload_n 0, 1) := by decide +kernel
theorem dX1_append_1 : decode cX1_append 1 = .ok (.getfield 15, 3) := by decide +kernel
theorem dX1_append_4 : decode cX1_append 4 = .ok (.bipush 40, 2) := by decide +kernel
theorem dX1_append_6 : decode cX1_append 6 = .ok (.if_icmp .ge 23, 3) := by decide +kernel
theorem dX1_append_9 : decode cX1_append 9 = .ok (.aload_n 0, 1) := by decide +kernel
theorem dX1_append_10 : decode cX1_append 10 = .ok (.getfield 9, 3) := by decide +kernel
theorem dX1_append_13 : decode cX1_append 13 = .ok (.aload_n 0, 1) := by decide +kernel
theorem dX1_append_14 : decode cX1_append 14 = .ok (.getfield 15, 3) := by decide +kernel
theorem dX1_append_17 : decode cX1_append 17 = .ok (.iload_n 1, 1) := by decide +kernel
theorem dX1_append_18 : decode cX1_append 18 = .ok (.castore, 1) := by decide +kernel
theorem dX1_append_19 : decode cX1_append 19 = .ok (.aload_n 0, 1) := by decide +kernel
theorem dX1_append_20 : decode cX1_append 20 = .ok (.dup, 1) := by decide +kernel
theorem dX1_append_21 : decode cX1_append 21 = .ok (.getfield 15, 3) := by decide +kernel
theorem dX1_append_24 : decode cX1_append 24 = .ok (.iconst 1, 1) := by decide +kernel
theorem dX1_append_25 : decode cX1_append 25 = .ok (.iadd, 1) := by decide +kernel
theorem dX1_append_26 : decode cX1_append 26 = .ok (.putfield 15, 3) := by decide +kernel
theorem dX1_append_29 : decode cX1_append 29 = .ok (.return_, 1) := by decide +kernel
theorem dX1_mark_0 : decode cX1_mark 0 = .ok (.iload_n 1, 1) := by decide +kernel
theorem dX1_mark_1 : decode cX1_mark 1 = .ok (.ifCond .lt 20, 3) := by decide +kernel
theorem dX1_mark_4 : decode cX1_mark 4 = .ok (.iload_n 1, 1) := by decide +kernel
theorem dX1_mark_5 : decode cX1_mark 5 = .ok (.aload_n 0, 1) := by decide +kernel
theorem dX1_mark_6 : decode cX1_mark 6 = .ok (.getfield 15, 3) := by decide +kernel
theorem dX1_mark_9 : decode cX1_mark 9 = .ok (.if_icmp .ge 12, 3) := by decide +kernel
theorem dX1_mark_12 : decode cX1_mark 12 = .ok (.aload_n 0, 1) := by decide +kernel
theorem dX1_mark_13 : decode cX1_mark 13 = .ok (.getfield 9, 3) := by decide +kernel
theorem dX1_mark_16 : decode cX1_mark 16 = .ok (.iload_n 1, 1) := by decide +kernel
theorem dX1_mark_17 : decode cX1_mark 17 = .ok (.caload, 1) := by decide +kernel
theorem dX1_mark_18 : decode cX1_mark 18 = .ok (.goto 4, 3) := by decide +kernel
theorem dX1_mark_21 : decode cX1_mark 21 = .ok (.iconst 0, 1) := by decide +kernel
theorem dX1_mark_22 : decode cX1_mark 22 = .ok (.ireturn, 1) := by decide +kernel
theorem dX1_copy_0 : decode cX1_copy 0 = .ok (.aload_n 1, 1) := by decide +kernel
theorem dX1_copy_1 : decode cX1_copy 1 = .ok (.getfield 9, 3) := by decide +kernel
theorem dX1_copy_4 : decode cX1_copy 4 = .ok (.iconst 0, 1) := by decide +kernel
theorem dX1_copy_5 : decode cX1_copy 5 = .ok (.aload_n 0, 1) := by decide +kernel
theorem dX1_copy_6 : decode cX1_copy 6 = .ok (.getfield 9, 3) := by decide +kernel
theorem dX1_copy_9 : decode cX1_copy 9 = .ok (.iconst 0, 1) := by decide +kernel
theorem dX1_copy_10 : decode cX1_copy 10 = .ok (.aload_n 1, 1) := by decide +kernel
theorem dX1_copy_11 : decode cX1_copy 11 = .ok (.getfield 15, 3) := by decide +kernel
theorem dX1_copy_14 : decode cX1_copy 14 = .ok (.invokestatic 19, 3) := by decide +kernel
theorem dX1_copy_17 : decode cX1_copy 17 = .ok (.aload_n 0, 1) := by decide +kernel
theorem dX1_copy_18 : decode cX1_copy 18 = .ok (.aload_n 1, 1) := by decide +kernel
theorem dX1_copy_19 : decode cX1_copy 19 = .ok (.getfield 15, 3) := by decide +kernel
theorem dX1_copy_22 : decode cX1_copy 22 = .ok (.putfield 15, 3) := by decide +kernel
theorem dX1_copy_25 : decode cX1_copy 25 = .ok (.return_, 1) := by decide +kernel
theorem dX1_hasSlashesAlone_0 : decode cX1_hasSlashesAlone 0 = .ok (.iconst 0, 1) := by decide +kernel
theorem dX1_hasSlashesAlone_1 : decode cX1_hasSlashesAlone 1 = .ok (.istore_n 1, 1) := by decide +kernel
theorem dX1_hasSlashesAlone_2 : decode cX1_hasSlashesAlone 2 = .ok (.iload_n 1, 1) := by decide +kernel
theorem dX1_hasSlashesAlone_3 : decode cX1_hasSlashesAlone 3 = .ok (.aload_n 0, 1) := by decide +kernel
theorem dX1_hasSlashesAlone_4 : decode cX1_hasSlashesAlone 4 = .ok (.getfield 15, 3) := by decide +kernel
theorem dX1_hasSlashesAlone_7 : decode cX1_hasSlashesAlone 7 = .ok (.if_icmp .ge 22, 3) := by decide +kernel
theorem dX1_hasSlashesAlone_10 : decode cX1_hasSlashesAlone 10 = .ok (.aload_n 0, 1) := by decide +kernel
theorem dX1_hasSlashesAlone_11 : decode cX1_hasSlashesAlone 11 = .ok (.getfield 9, 3) := by decide +kernel
theorem dX1_hasSlashesAlone_14 : decode cX1_hasSlashesAlone 14 = .ok (.iload_n 1, 1) := by decide +kernel
theorem dX1_hasSlashesAlone_15 : decode cX1_hasSlashesAlone 15 = .ok (.caload, 1) := by decide +kernel
theorem dX1_hasSlashesAlone_16 : decode cX1_hasSlashesAlone 16 = .ok (.bipush 47, 2) := by decide +kernel
theorem dX1_hasSlashesAlone_18 : decode cX1_hasSlashesAlone 18 = .ok (.if_icmp .eq 5, 3) := by decide +kernel
theorem dX1_hasSlashesAlone_21 : decode cX1_hasSlashesAlone 21 = .ok (.iconst 0, 1) := by decide +kernel
theorem dX1_hasSlashesAlone_22 : decode cX1_hasSlashesAlone 22 = .ok (.ireturn, 1) := by decide +kernel
theorem dX1_hasSlashesAlone_23 : decode cX1_hasSlashesAlone 23 = .ok (.iinc 1 1, 3) := by decide +kernel
theorem dX1_hasSlashesAlone_26 : decode cX1_hasSlashesAlone 26 = .ok (.goto (-24), 3) := by decide +kernel
theorem dX1_hasSlashesAlone_29 : decode cX1_hasSlashesAlone 29 = .ok (.iconst 1, 1) := by decide +kernel
theorem dX1_hasSlashesAlone_30 : decode cX1_hasSlashesAlone 30 = .ok (.ireturn, 1) := by decide +kernel
theorem dX2_init_0 : decode cX2_init 0 = .ok (.aload_n 0, 1) := by decide +kernel
theorem dX2_init_1 : decode cX2_init 1 = .ok (.invokespecial 3, 3) := by decide +kernel
theorem dX2_init_4 : decode cX2_init 4 = .ok (.aload_n 0, 1) := by decide +kernel
theorem dX2_init_5 : decode cX2_init 5 = .ok (.bipush 60, 2) := by decide +kernel
theorem dX2_init_7 : decode cX2_init 7 = .ok (.newarray .char, 2) := by decide +kernel
theorem dX2_init_9 : decode cX2_init 9 = .ok (.putfield 9, 3) := by decide +kernel
theorem dX2_init_12 : decode cX2_init 12 = .ok (.aload_n 0, 1) := by decide +kernel
theorem dX2_init_13 : decode cX2_init 13 = .ok (.bipush 60, 2) := by decide +kernel
theorem dX2_init_15 : decode cX2_init 15 = .ok (.putfield 15, 3) := by decide +kernel
theorem dX2_init_18 : decode cX2_init 18 = .ok (.return_, 1) := by decide +kernel
theorem dX2_clear_0 : decode cX2_clear 0 = .ok (.aload_n 0, 1) := by decide +kernel
theorem dX2_clear_1 : decode cX2_clear 1 = .ok (.bipush 60, 2) := by decide +kernel
theorem dX2_clear_3 : decode cX2_clear 3 = .ok (.putfield 15, 3) := by decide +kernel
theorem dX2_clear_6 : decode cX2_clear 6 = .ok (.return_, 1) := by decide +kernel
theorem dX2_size_0 : decode cX2_size 0 = .ok (.bipush 60, 2) := by decide +kernel
theorem dX2_size_2 : decode cX2_size 2 = .ok (.aload_n 0, 1) := by decide +kernel
theorem dX2_size_3 : decode cX2_size 3 = .ok (.getfield 15, 3) := by decide +kernel
theorem dX2_size_6 : decode cX2_size 6 = .ok (.isub, 1) := by decide +kernel
theorem dX2_size_7 : decode cX2_size 7 = .ok (.ireturn, 1) := by decide +kernel
theorem dX2_isEmpty_0 : decode cX2_isEmpty 0 = .ok (.aload_n 0, 1) := by decide +kernel
theorem dX2_isEmpty_1 : decode cX2_isEmpty 1 = .ok (.getfield 15, 3) := by decide +kernel
theorem dX2_isEmpty_4 : decode cX2_isEmpty 4 = .ok (.bipush 60, 2) := by decide +kernel
theorem dX2_isEmpty_6 : decode cX2_isEmpty 6 = .ok (.if_icmp .lt 7, 3) := by decide +kernel
theorem dX2_isEmpty_9 : decode cX2_isEmpty 9 = .ok (.iconst 1, 1) := by decide +kernel
theorem dX2_isEmpty_10 : decode cX2_isEmpty 10 = .ok (.goto 4, 3) := by decide +kernel
theorem dX2_isEmpty_13 : decode cX2_isEmpty 13 = .ok (.iconst 0, 1) := by decide +kernel
theorem dX2_isEmpty_14 : decode cX2_isEmpty 14 = .ok (.ireturn, 1) := by decide +kernel
theorem dX2_beginsWithSlash_0 : decode cX2_beginsWithSlash 0 = .ok (.aload_n 0, 1) := by decide +kernel
theorem dX2_beginsWithSlash_1 : decode cX2_beginsWithSlash 1 = .ok (.getfield 15, 3) := by decide +kernel
theorem dX2_beginsWithSlash_4 : decode cX2_beginsWithSlash 4 = .ok (.bipush 60, 2) := by decide +kernel
theorem dX2_beginsWithSlash_6 : decode cX2_beginsWithSlash 6 = .ok (.if_icmp .ge 21, 3) := by decide +kernel
theorem dX2_beginsWithSlash_9 : decode cX2_beginsWithSlash 9 = .ok (.aload_n 0, 1) := by decide +kernel
theorem dX2_beginsWithSlash_10 : decode cX2_beginsWithSlash 10 = .ok (.getfield 9, 3) := by decide +kernel
theorem dX2_beginsWithSlash_13 : decode cX2_beginsWithSlash 13 = .ok (.aload_n 0, 1) := by decide +kernel
theorem dX2_beginsWithSlash_14 : decode cX2_beginsWithSlash 14 = .ok (.getfield 15, 3) := by decide +kernel
theorem dX2_beginsWithSlash_17 : decode cX2_beginsWithSlash 17 = .ok (.caload, 1) := by decide +kernel
theorem dX2_beginsWithSlash_18 : decode cX2_beginsWithSlash 18 = .ok (.bipush 47, 2) := by decide +kernel
theorem dX2_beginsWithSlash_20 : decode cX2_beginsWithSlash 20 = .ok (.if_icmp .ne 7, 3) := by decide +kernel
theorem dX2_beginsWithSlash_23 : decode cX2_beginsWithSlash 23 = .ok (.iconst 1, 1) := by decide +kernel
theorem dX2_beginsWithSlash_24 : decode cX2_beginsWithSlash 24 = .ok (.goto 4, 3) := by decide +kernel
theorem dX2_beginsWithSlash_27 : decode cX2_beginsWithSlash 27 = .ok (.iconst 0, 1) := by decide +kernel
theorem dX2_beginsWithSlash_28 : decode cX2_beginsWithSlash 28 = .ok (.ireturn, 1) := by decide +kernel
theorem dX2_hasSlashesAlone_0 : decode cX2_hasSlashesAlone 0 = .ok (.aload_n 0, 1) := by decide +kernel
theorem dX2_hasSlashesAlone_1 : decode cX2_hasSlashesAlone 1 = .ok (.getfield 15, 3) := by decide +kernel
theorem dX2_hasSlashesAlone_4 : decode cX2_hasSlashesAlone 4 = .ok (.istore_n 1, 1) := by decide +kernel
theorem dX2_hasSlashesAlone_5 : decode cX2_hasSlashesAlone 5 = .ok (.iload_n 1, 1) := by decide +kernel
theorem dX2_hasSlashesAlone_6 : decode cX2_hasSlashesAlone 6 = .ok (.bipush 60, 2) := by decide +kernel
theorem dX2_hasSlashesAlone_8 : decode cX2_hasSlashesAlone 8 = .ok (.if_icmp .ge 22, 3) := by decide +kernel
theorem dX2_hasSlashesAlone_11 : decode cX2_hasSlashesAlone 11 = .ok (.aload_n 0, 1) := by decide +kernel
theorem dX2_hasSlashesAlone_12 : decode cX2_hasSlashesAlone 12 = .ok (.getfield 9, 3) := by decide +kernel
theorem dX2_hasSlashesAlone_15 : decode cX2_hasSlashesAlone 15 = .ok (.iload_n 1, 1) := by decide +kernel
theorem dX2_hasSlashesAlone_16 : decode cX2_hasSlashesAlone 16 = .ok (.caload, 1) := by decide +kernel
theorem dX2_hasSlashesAlone_17 : decode cX2_hasSlashesAlone 17 = .ok (.bipush 47, 2) := by decide +kernel
theorem dX2_hasSlashesAlone_19 : decode cX2_hasSlashesAlone 19 = .ok (.if_icmp .eq 5, 3) := by decide +kernel
theorem dX2_hasSlashesAlone_22 : decode cX2_hasSlashesAlone 22 = .ok (.iconst 0, 1) := by decide +kernel
theorem dX2_hasSlashesAlone_23 : decode cX2_hasSlashesAlone 23 = .ok (.ireturn, 1) := by decide +kernel
theorem dX2_hasSlashesAlone_24 : decode cX2_hasSlashesAlone 24 = .ok (.iinc 1 1, 3) := by decide +kernel
theorem dX2_hasSlashesAlone_27 : decode cX2_hasSlashesAlone 27 = .ok (.goto (-22), 3) := by decide +kernel
theorem dX2_hasSlashesAlone_30 : decode cX2_hasSlashesAlone 30 = .ok (.iconst 1, 1) := by decide +kernel
theorem dX2_hasSlashesAlone_31 : decode cX2_hasSlashesAlone 31 = .ok (.ireturn, 1) := by decide +kernel
theorem dX2_take_0 : decode cX2_take 0 = .ok (.aload_n 0, 1) := by decide +kernel
theorem dX2_take_1 : decode cX2_take 1 = .ok (.getfield 15, 3) := by decide +kernel
theorem dX2_take_4 : decode cX2_take 4 = .ok (.bipush 60, 2) := by decide +kernel
theorem dX2_take_6 : decode cX2_take 6 = .ok (.if_icmp .lt 5, 3) := by decide +kernel
theorem dX2_take_9 : decode cX2_take 9 = .ok (.iconst 0, 1) := by decide +kernel
theorem dX2_take_10 : decode cX2_take 10 = .ok (.ireturn, 1) := by decide +kernel
theorem dX2_take_11 : decode cX2_take 11 = .ok (.aload_n 0, 1) := by decide +kernel
theorem dX2_take_12 : decode cX2_take 12 = .ok (.getfield 9, 3) := by decide +kernel
theorem dX2_take_15 : decode cX2_take 15 = .ok (.aload_n 0, 1) := by decide +kernel
theorem dX2_take_16 : decode cX2_take 16 = .ok (.getfield 15, 3) := by decide +kernel
theorem dX2_take_19 : decode cX2_take 19 = .ok (.caload, 1) := by decide +kernel
theorem dX2_take_20 : decode cX2_take 20 = .ok (.istore_n 1, 1) := by decide +kernel
theorem dX2_take_21 : decode cX2_take 21 = .ok (.aload_n 0, 1) := by decide +kernel
theorem dX2_take_22 : decode cX2_take 22 = .ok (.dup, 1) := by decide +kernel
theorem dX2_take_23 : decode cX2_take 23 = .ok (.getfield 15, 3) := by decide +kernel
theorem dX2_take_26 : decode cX2_take 26 = .ok (.iconst 1, 1) := by decide +kernel
theorem dX2_take_27 : decode cX2_take 27 = .ok (.iadd, 1) := by decide +kernel
theorem dX2_take_28 : decode cX2_take 28 = .ok (.putfield 15, 3) := by decide +kernel
theorem dX2_take_31 : decode cX2_take 31 = .ok (.iload_n 1, 1) := by decide +kernel
theorem dX2_take_32 : decode cX2_take 32 = .ok (.ireturn, 1) := by decide +kernel
theorem dX2_putBefore_0 : decode cX2_putBefore 0 = .ok (.aload_n 0, 1) := by decide +kernel
theorem dX2_putBefore_1 : decode cX2_putBefore 1 = .ok (.getfield 15, 3) := by decide +kernel
theorem dX2_putBefore_4 : decode cX2_putBefore 4 = .ok (.ifCond .le 23, 3) := by decide +kernel
theorem dX2_putBefore_7 : decode cX2_putBefore 7 = .ok (.aload_n 0, 1) := by decide +kernel
theorem dX2_putBefore_8 : decode cX2_putBefore 8 = .ok (.dup, 1) := by decide +kernel
theorem dX2_putBefore_9 : decode cX2_putBefore 9 = .ok (.getfield 15, 3) := by decide +kernel
theorem dX2_putBefore_12 : decode cX2_putBefore 12 = .ok (.iconst 1, 1) := by decide +kernel
theorem dX2_putBefore_13 : decode cX2_putBefore 13 = .ok (.isub, 1) := by decide +kernel
theorem dX2_putBefore_14 : decode cX2_putBefore 14 = .ok (.putfield 15, 3) := by decide +kernel
theorem dX2_putBefore_17 : decode cX2_putBefore 17 = .ok (.aload_n 0, 1) := by decide +kernel
theorem dX2_putBefore_18 : decode cX2_putBefore 18 = .ok (.getfield 9, 3) := by decide +kernel
theorem dX2_putBefore_21 : decode cX2_putBefore 21 = .ok (.aload_n 0, 1) := by decide +kernel
theorem dX2_putBefore_22 : decode cX2_putBefore 22 = .ok (.getfield 15, 3) := by decide +kernel
theorem dX2_putBefore_25 : decode cX2_putBefore 25 = .ok (.iload_n 1, 1) := by decide +kernel
theorem dX2_putBefore_26 : decode cX2_putBefore 26 = .ok (.castore, 1) := by decide +kernel
theorem dX2_putBefore_27 : decode cX2_putBefore 27 = .ok (.return_, 1) := by decide +kernel
theorem dX2_putLineBefore_0 : decode cX2_putLineBefore 0 = .ok (.aload_n 1, 1) := by decide +kernel
theorem dX2_putLineBefore_1 : decode cX2_putLineBefore 1 = .ok (.invokevirtual 19, 3) := by decide +kernel
theorem dX2_putLineBefore_4 : decode cX2_putLineBefore 4 = .ok (.aload_n 0, 1) := by decide +kernel
theorem dX2_putLineBefore_5 : decode cX2_putLineBefore 5 = .ok (.getfield 15, 3) := by decide +kernel
theorem dX2_putLineBefore_8 : decode cX2_putLineBefore 8 = .ok (.if_icmp .le 5, 3) := by decide +kernel
theorem dX2_putLineBefore_11 : decode cX2_putLineBefore 11 = .ok (.iconst 0, 1) := by decide +kernel
theorem dX2_putLineBefore_12 : decode cX2_putLineBefore 12 = .ok (.ireturn, 1) := by decide +kernel
theorem dX2_putLineBefore_13 : decode cX2_putLineBefore 13 = .ok (.aload_n 1, 1) := by decide +kernel
theorem dX2_putLineBefore_14 : decode cX2_putLineBefore 14 = .ok (.invokevirtual 19, 3) := by decide +kernel
theorem dX2_putLineBefore_17 : decode cX2_putLineBefore 17 = .ok (.iconst 1, 1) := by decide +kernel
theorem dX2_putLineBefore_18 : decode cX2_putLineBefore 18 = .ok (.isub, 1) := by decide +kernel
theorem dX2_putLineBefore_19 : decode cX2_putLineBefore 19 = .ok (.istore_n 2, 1) := by decide +kernel
theorem dX2_putLineBefore_20 : decode cX2_putLineBefore 20 = .ok (.iload_n 2, 1) := by decide +kernel
theorem dX2_putLineBefore_21 : decode cX2_putLineBefore 21 = .ok (.ifCond .lt 18, 3) := by decide +kernel
theorem dX2_putLineBefore_24 : decode cX2_putLineBefore 24 = .ok (.aload_n 0, 1) := by decide +kernel
theorem dX2_putLineBefore_25 : decode cX2_putLineBefore 25 = .ok (.aload_n 1, 1) := by decide +kernel
theorem dX2_putLineBefore_26 : decode cX2_putLineBefore 26 = .ok (.iload_n 2, 1) := by decide +kernel
theorem dX2_putLineBefore_27 : decode cX2_putLineBefore 27 = .ok (.invokevirtual 25, 3) := by decide +kernel
theorem dX2_putLineBefore_30 : decode cX2_putLineBefore 30 = .ok (.invokevirtual 29, 3) := by decide +kernel
theorem dX2_putLineBefore_33 : decode cX2_putLineBefore 33 = .ok (.iinc 2 (-1), 3) := by decide +kernel
theorem dX2_putLineBefore_36 : decode cX2_putLineBefore 36 = .ok (.goto (-16), 3) := by decide +kernel
theorem dX2_putLineBefore_39 : decode cX2_putLineBefore 39 = .ok (.iconst 1, 1) := by decide +kernel
theorem dX2_putLineBefore_40 : decode cX2_putLineBefore 40 = .ok (.ireturn, 1) := by decide +kernel
theorem dX2_putNameBefore_0 : decode cX2_putNameBefore 0 = .ok (.lload_n 1, 1) := by decide +kernel
theorem dX2_putNameBefore_1 : decode cX2_putNameBefore 1 = .ok (.lstore_n 3, 1) := by decide +kernel
theorem dX2_putNameBefore_2 : decode cX2_putNameBefore 2 = .ok (.iconst 0, 1) := by decide +kernel
theorem dX2_putNameBefore_3 : decode cX2_putNameBefore 3 = .ok (.istore 5, 2) := by decide +kernel
theorem dX2_putNameBefore_5 : decode cX2_putNameBefore 5 = .ok (.iload 5, 2) := by decide +kernel
theorem dX2_putNameBefore_7 : decode cX2_putNameBefore 7 = .ok (.bipush 6, 2) := by decide +kernel
theorem dX2_putNameBefore_9 : decode cX2_putNameBefore 9 = .ok (.if_icmp .ge 31, 3) := by decide +kernel
theorem dX2_putNameBefore_12 : decode cX2_putNameBefore 12 = .ok (.lload_n 3, 1) := by decide +kernel
theorem dX2_putNameBefore_13 : decode cX2_putNameBefore 13 = .ok (.lconst 0, 1) := by decide +kernel
theorem dX2_putNameBefore_14 : decode cX2_putNameBefore 14 = .ok (.lcmp, 1) := by decide +kernel
theorem dX2_putNameBefore_15 : decode cX2_putNameBefore 15 = .ok (.ifCond .eq 25, 3) := by decide +kernel
theorem dX2_putNameBefore_18 : decode cX2_putNameBefore 18 = .ok (.aload_n 0, 1) := by decide +kernel
theorem dX2_putNameBefore_19 : decode cX2_putNameBefore 19 = .ok (.lload_n 3, 1) := by decide +kernel
theorem dX2_putNameBefore_20 : decode cX2_putNameBefore 20 = .ok (.ldc2_w 33, 3) := by decide +kernel
theorem dX2_putNameBefore_23 : decode cX2_putNameBefore 23 = .ok (.land, 1) := by decide +kernel
theorem dX2_putNameBefore_24 : decode cX2_putNameBefore 24 = .ok (.l2i, 1) := by decide +kernel
theorem dX2_putNameBefore_25 : decode cX2_putNameBefore 25 = .ok (.i2c, 1) := by decide +kernel
theorem dX2_putNameBefore_26 : decode cX2_putNameBefore 26 = .ok (.invokevirtual 29, 3) := by decide +kernel
theorem dX2_putNameBefore_29 : decode cX2_putNameBefore 29 = .ok (.lload_n 3, 1) := by decide +kernel
theorem dX2_putNameBefore_30 : decode cX2_putNameBefore 30 = .ok (.bipush 8, 2) := by decide +kernel
theorem dX2_putNameBefore_32 : decode cX2_putNameBefore 32 = .ok (.lushr, 1) := by decide +kernel
theorem dX2_putNameBefore_33 : decode cX2_putNameBefore 33 = .ok (.lstore_n 3, 1) := by decide +kernel
theorem dX2_putNameBefore_34 : decode cX2_putNameBefore 34 = .ok (.iinc 5 1, 3) := by decide +kernel
theorem dX2_putNameBefore_37 : decode cX2_putNameBefore 37 = .ok (.goto (-32), 3) := by decide +kernel
theorem dX2_putNameBefore_40 : decode cX2_putNameBefore 40 = .ok (.aload_n 0, 1) := by decide +kernel
theorem dX2_putNameBefore_41 : decode cX2_putNameBefore 41 = .ok (.bipush 47, 2) := by decide +kernel
theorem dX2_putNameBefore_43 : decode cX2_putNameBefore 43 = .ok (.invokevirtual 29, 3) := by decide +kernel
theorem dX2_putNameBefore_46 : decode cX2_putNameBefore 46 = .ok (.return_, 1) := by decide +kernel
theorem dX3_init_0 : decode cX3_init 0 = .ok (.aload_n 0, 1) := by decide +kernel
theorem dX3_init_1 : decode cX3_init 1 = .ok (.invokespecial 1, 3) := by decide +kernel
theorem dX3_init_4 : decode cX3_init 4 = .ok (.aload_n 0, 1) := by decide +kernel
theorem dX3_init_5 : decode cX3_init 5 = .ok (.aload_n 1, 1) := by decide +kernel
theorem dX3_init_6 : decode cX3_init 6 = .ok (.putfield 7, 3) := by decide +kernel
theorem dX3_init_9 : decode cX3_init 9 = .ok (.return_, 1) := by decide +kernel
theorem dX3_may_0 : decode cX3_may 0 = .ok (.aload_n 0, 1) := by decide +kernel
theorem dX3_may_1 : decode cX3_may 1 = .ok (.getfield 7, 3) := by decide +kernel
theorem dX3_may_4 : decode cX3_may 4 = .ok (.iload_n 2, 1) := by decide +kernel
theorem dX3_may_5 : decode cX3_may 5 = .ok (.invokevirtual 13, 3) := by decide +kernel
theorem dX3_may_8 : decode cX3_may 8 = .ok (.istore_n 3, 1) := by decide +kernel
theorem dX3_may_9 : decode cX3_may 9 = .ok (.aload_n 0, 1) := by decide +kernel
theorem dX3_may_10 : decode cX3_may 10 = .ok (.getfield 19, 3) := by decide +kernel
theorem dX3_may_13 : decode cX3_may 13 = .ok (.aload_n 0, 1) := by decide +kernel
theorem dX3_may_14 : decode cX3_may 14 = .ok (.getfield 7, 3) := by decide +kernel
theorem dX3_may_17 : decode cX3_may 17 = .ok (.iload_n 2, 1) := by decide +kernel
theorem dX3_may_18 : decode cX3_may 18 = .ok (.invokevirtual 23, 3) := by decide +kernel
theorem dX3_may_21 : decode cX3_may 21 = .ok (.if_icmp .ne 9, 3) := by decide +kernel
theorem dX3_may_24 : decode cX3_may 24 = .ok (.iload_n 3, 1) := by decide +kernel
theorem dX3_may_25 : decode cX3_may 25 = .ok (.iconst 4, 1) := by decide +kernel
theorem dX3_may_26 : decode cX3_may 26 = .ok (.idiv, 1) := by decide +kernel
theorem dX3_may_27 : decode cX3_may 27 = .ok (.goto 6, 3) := by decide +kernel
theorem dX3_may_30 : decode cX3_may 30 = .ok (.iload_n 3, 1) := by decide +kernel
theorem dX3_may_31 : decode cX3_may 31 = .ok (.iconst 4, 1) := by decide +kernel
theorem dX3_may_32 : decode cX3_may 32 = .ok (.irem, 1) := by decide +kernel
theorem dX3_may_33 : decode cX3_may 33 = .ok (.istore 4, 2) := by decide +kernel
theorem dX3_may_35 : decode cX3_may 35 = .ok (.aload_n 0, 1) := by decide +kernel
theorem dX3_may_36 : decode cX3_may 36 = .ok (.getfield 19, 3) := by decide +kernel
theorem dX3_may_39 : decode cX3_may 39 = .ok (.ifCond .eq 10, 3) := by decide +kernel
theorem dX3_may_42 : decode cX3_may 42 = .ok (.iload 4, 2) := by decide +kernel
theorem dX3_may_44 : decode cX3_may 44 = .ok (.iload_n 1, 1) := by decide +kernel
theorem dX3_may_45 : decode cX3_may 45 = .ok (.iand, 1) := by decide +kernel
theorem dX3_may_46 : decode cX3_may 46 = .ok (.ifCond .eq 7, 3) := by decide +kernel
theorem dX3_may_49 : decode cX3_may 49 = .ok (.iconst 1, 1) := by decide +kernel
theorem dX3_may_50 : decode cX3_may 50 = .ok (.goto 4, 3) := by decide +kernel
theorem dX3_may_53 : decode cX3_may 53 = .ok (.iconst 0, 1) := by decide +kernel
theorem dX3_may_54 : decode cX3_may 54 = .ok (.ireturn, 1) := by decide +kernel
theorem dX4_init_0 : decode cX4_init 0 = .ok (.aload_n 0, 1) := by decide +kernel
theorem dX4_init_1 : decode cX4_init 1 = .ok (.invokespecial 3, 3) := by decide +kernel
theorem dX4_init_4 : decode cX4_init 4 = .ok (.aload_n 0, 1) := by decide +kernel
theorem dX4_init_5 : decode cX4_init 5 = .ok (.bipush 40, 2) := by decide +kernel
theorem dX4_init_7 : decode cX4_init 7 = .ok (.newarray .int, 2) := by decide +kernel
theorem dX4_init_9 : decode cX4_init 9 = .ok (.putfield 9, 3) := by decide +kernel
theorem dX4_init_12 : decode cX4_init 12 = .ok (.aload_n 0, 1) := by decide +kernel
theorem dX4_init_13 : decode cX4_init 13 = .ok (.bipush 40, 2) := by decide +kernel
theorem dX4_init_15 : decode cX4_init 15 = .ok (.newarray .int, 2) := by decide +kernel
theorem dX4_init_17 : decode cX4_init 17 = .ok (.putfield 15, 3) := by decide +kernel
theorem dX4_init_20 : decode cX4_init 20 = .ok (.aload_n 0, 1) := by decide +kernel
theorem dX4_init_21 : decode cX4_init 21 = .ok (.bipush 40, 2) := by decide +kernel
theorem dX4_init_23 : decode cX4_init 23 = .ok (.newarray .int, 2) := by decide +kernel
theorem dX4_init_25 : decode cX4_init 25 = .ok (.putfield 18, 3) := by decide +kernel
theorem dX4_init_28 : decode cX4_init 28 = .ok (.aload_n 0, 1) := by decide +kernel
theorem dX4_init_29 : decode cX4_init 29 = .ok (.bipush 40, 2) := by decide +kernel
theorem dX4_init_31 : decode cX4_init 31 = .ok (.newarray .int, 2) := by decide +kernel
theorem dX4_init_33 : decode cX4_init 33 = .ok (.putfield 21, 3) := by decide +kernel
theorem dX4_init_36 : decode cX4_init 36 = .ok (.aload_n 0, 1) := by decide +kernel
theorem dX4_init_37 : decode cX4_init 37 = .ok (.bipush 40, 2) := by decide +kernel
theorem dX4_init_39 : decode cX4_init 39 = .ok (.newarray .int, 2) := by decide +kernel
theorem dX4_init_41 : decode cX4_init 41 = .ok (.putfield 24, 3) := by decide +kernel
theorem dX4_init_44 : decode cX4_init 44 = .ok (.aload_n 0, 1) := by decide +kernel
theorem dX4_init_45 : decode cX4_init 45 = .ok (.bipush 40, 2) := by decide +kernel
theorem dX4_init_47 : decode cX4_init 47 = .ok (.anewarray 27, 3) := by decide +kernel
theorem dX4_init_50 : decode cX4_init 50 = .ok (.putfield 29, 3) := by decide +kernel
theorem dX4_init_53 : decode cX4_init 53 = .ok (.return_, 1) := by decide +kernel
