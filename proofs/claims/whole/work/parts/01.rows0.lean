theorem dX7_init_0 : decode cX7_init 0 = .ok (.aload_n 0, 1) := by decide +kernel
theorem dX7_init_1 : decode cX7_init 1 = .ok (.invokespecial 1, 3) := by decide +kernel
theorem dX7_init_4 : decode cX7_init 4 = .ok (.aload_n 0, 1) := by decide +kernel
theorem dX7_init_5 : decode cX7_init 5 = .ok (.new 7, 3) := by decide +kernel
theorem dX7_init_8 : decode cX7_init 8 = .ok (.dup, 1) := by decide +kernel
theorem dX7_init_9 : decode cX7_init 9 = .ok (.invokespecial 9, 3) := by decide +kernel
theorem dX7_init_12 : decode cX7_init 12 = .ok (.putfield 10, 3) := by decide +kernel
theorem dX7_init_15 : decode cX7_init 15 = .ok (.aload_n 0, 1) := by decide +kernel
theorem dX7_init_16 : decode cX7_init 16 = .ok (.new 7, 3) := by decide +kernel
theorem dX7_init_19 : decode cX7_init 19 = .ok (.dup, 1) := by decide +kernel
theorem dX7_init_20 : decode cX7_init 20 = .ok (.invokespecial 9, 3) := by decide +kernel
theorem dX7_init_23 : decode cX7_init 23 = .ok (.putfield 16, 3) := by decide +kernel
theorem dX7_init_26 : decode cX7_init 26 = .ok (.aload_n 0, 1) := by decide +kernel
theorem dX7_init_27 : decode cX7_init 27 = .ok (.new 19, 3) := by decide +kernel
theorem dX7_init_30 : decode cX7_init 30 = .ok (.dup, 1) := by decide +kernel
theorem dX7_init_31 : decode cX7_init 31 = .ok (.invokespecial 21, 3) := by decide +kernel
theorem dX7_init_34 : decode cX7_init 34 = .ok (.putfield 22, 3) := by decide +kernel
theorem dX7_init_37 : decode cX7_init 37 = .ok (.aload_n 0, 1) := by decide +kernel
theorem dX7_init_38 : decode cX7_init 38 = .ok (.new 26, 3) := by decide +kernel
theorem dX7_init_41 : decode cX7_init 41 = .ok (.dup, 1) := by decide +kernel
theorem dX7_init_42 : decode cX7_init 42 = .ok (.invokespecial 28, 3) := by decide +kernel
theorem dX7_init_45 : decode cX7_init 45 = .ok (.putfield 29, 3) := by decide +kernel
theorem dX7_init_48 : decode cX7_init 48 = .ok (.aload_n 0, 1) := by decide +kernel
theorem dX7_init_49 : decode cX7_init 49 = .ok (.new 33, 3) := by decide +kernel
theorem dX7_init_52 : decode cX7_init 52 = .ok (.dup, 1) := by decide +kernel
theorem dX7_init_53 : decode cX7_init 53 = .ok (.invokespecial 35, 3) := by decide +kernel
theorem dX7_init_56 : decode cX7_init 56 = .ok (.putfield 36, 3) := by decide +kernel
theorem dX7_init_59 : decode cX7_init 59 = .ok (.aload_n 0, 1) := by decide +kernel
theorem dX7_init_60 : decode cX7_init 60 = .ok (.new 40, 3) := by decide +kernel
theorem dX7_init_63 : decode cX7_init 63 = .ok (.dup, 1) := by decide +kernel
theorem dX7_init_64 : decode cX7_init 64 = .ok (.aload_n 0, 1) := by decide +kernel
theorem dX7_init_65 : decode cX7_init 65 = .ok (.getfield 29, 3) := by decide +kernel
theorem dX7_init_68 : decode cX7_init 68 = .ok (.invokespecial 42, 3) := by decide +kernel
theorem dX7_init_71 : decode cX7_init 71 = .ok (.putfield 45, 3) := by decide +kernel
theorem dX7_init_74 : decode cX7_init 74 = .ok (.aload_n 0, 1) := by decide +kernel
theorem dX7_init_75 : decode cX7_init 75 = .ok (.new 49, 3) := by decide +kernel
theorem dX7_init_78 : decode cX7_init 78 = .ok (.dup, 1) := by decide +kernel
theorem dX7_init_79 : decode cX7_init 79 = .ok (.aload_n 0, 1) := by decide +kernel
theorem dX7_init_80 : decode cX7_init 80 = .ok (.getfield 29, 3) := by decide +kernel
theorem dX7_init_83 : decode cX7_init 83 = .ok (.invokespecial 51, 3) := by decide +kernel
theorem dX7_init_86 : decode cX7_init 86 = .ok (.putfield 52, 3) := by decide +kernel
theorem dX7_init_89 : decode cX7_init 89 = .ok (.aload_n 0, 1) := by decide +kernel
theorem dX7_init_90 : decode cX7_init 90 = .ok (.new 56, 3) := by decide +kernel
theorem dX7_init_93 : decode cX7_init 93 = .ok (.dup, 1) := by decide +kernel
theorem dX7_init_94 : decode cX7_init 94 = .ok (.aload_n 0, 1) := by decide +kernel
theorem dX7_init_95 : decode cX7_init 95 = .ok (.getfield 29, 3) := by decide +kernel
theorem dX7_init_98 : decode cX7_init 98 = .ok (.aload_n 0, 1) := by decide +kernel
theorem dX7_init_99 : decode cX7_init 99 = .ok (.getfield 36, 3) := by decide +kernel
theorem dX7_init_102 : decode cX7_init 102 = .ok (.aload_n 0, 1) := by decide +kernel
theorem dX7_init_103 : decode cX7_init 103 = .ok (.getfield 45, 3) := by decide +kernel
theorem dX7_init_106 : decode cX7_init 106 = .ok (.aload_n 0, 1) := by decide +kernel
theorem dX7_init_107 : decode cX7_init 107 = .ok (.getfield 52, 3) := by decide +kernel
theorem dX7_init_110 : decode cX7_init 110 = .ok (.invokespecial 58, 3) := by decide +kernel
theorem dX7_init_113 : decode cX7_init 113 = .ok (.putfield 61, 3) := by decide +kernel
theorem dX7_init_116 : decode cX7_init 116 = .ok (.aload_n 0, 1) := by decide +kernel
theorem dX7_init_117 : decode cX7_init 117 = .ok (.getfield 29, 3) := by decide +kernel
theorem dX7_init_120 : decode cX7_init 120 = .ok (.iconst 0, 1) := by decide +kernel
theorem dX7_init_121 : decode cX7_init 121 = .ok (.iconst 1, 1) := by decide +kernel
theorem dX7_init_122 : decode cX7_init 122 = .ok (.bipush 15, 2) := by decide +kernel
theorem dX7_init_124 : decode cX7_init 124 = .ok (.iconst 0, 1) := by decide +kernel
theorem dX7_init_125 : decode cX7_init 125 = .ok (.aload_n 0, 1) := by decide +kernel
theorem dX7_init_126 : decode cX7_init 126 = .ok (.getfield 45, 3) := by decide +kernel
theorem dX7_init_129 : decode cX7_init 129 = .ok (.iconst 0, 1) := by decide +kernel
theorem dX7_init_130 : decode cX7_init 130 = .ok (.invokevirtual 65, 3) := by decide +kernel
theorem dX7_init_133 : decode cX7_init 133 = .ok (.invokevirtual 69, 3) := by decide +kernel
theorem dX7_init_136 : decode cX7_init 136 = .ok (.return_, 1) := by decide +kernel
theorem dX7_type_0 : decode cX7_type 0 = .ok (.iconst 0, 1) := by decide +kernel
theorem dX7_type_1 : decode cX7_type 1 = .ok (.istore_n 2, 1) := by decide +kernel
theorem dX7_type_2 : decode cX7_type 2 = .ok (.bipush 24, 2) := by decide +kernel
theorem dX7_type_4 : decode cX7_type 4 = .ok (.istore_n 3, 1) := by decide +kernel
theorem dX7_type_5 : decode cX7_type 5 = .ok (.iload_n 3, 1) := by decide +kernel
theorem dX7_type_6 : decode cX7_type 6 = .ok (.ifCond .lt 52, 3) := by decide +kernel
theorem dX7_type_9 : decode cX7_type 9 = .ok (.iload_n 1, 1) := by decide +kernel
theorem dX7_type_10 : decode cX7_type 10 = .ok (.iload_n 3, 1) := by decide +kernel
theorem dX7_type_11 : decode cX7_type 11 = .ok (.iushr, 1) := by decide +kernel
theorem dX7_type_12 : decode cX7_type 12 = .ok (.sipush 255, 3) := by decide +kernel
theorem dX7_type_15 : decode cX7_type 15 = .ok (.iand, 1) := by decide +kernel
theorem dX7_type_16 : decode cX7_type 16 = .ok (.istore 4, 2) := by decide +kernel
theorem dX7_type_18 : decode cX7_type 18 = .ok (.iload 4, 2) := by decide +kernel
theorem dX7_type_20 : decode cX7_type 20 = .ok (.ifCond .eq 19, 3) := by decide +kernel
theorem dX7_type_23 : decode cX7_type 23 = .ok (.iload 4, 2) := by decide +kernel
theorem dX7_type_25 : decode cX7_type 25 = .ok (.bipush 33, 2) := by decide +kernel
theorem dX7_type_27 : decode cX7_type 27 = .ok (.if_icmp .lt 10, 3) := by decide +kernel
theorem dX7_type_30 : decode cX7_type 30 = .ok (.iload 4, 2) := by decide +kernel
theorem dX7_type_32 : decode cX7_type 32 = .ok (.bipush 126, 2) := by decide +kernel
theorem dX7_type_34 : decode cX7_type 34 = .ok (.if_icmp .le 5, 3) := by decide +kernel
theorem dX7_type_37 : decode cX7_type 37 = .ok (.iconst 0, 1) := by decide +kernel
theorem dX7_type_38 : decode cX7_type 38 = .ok (.ireturn, 1) := by decide +kernel
theorem dX7_type_39 : decode cX7_type 39 = .ok (.iload_n 2, 1) := by decide +kernel
theorem dX7_type_40 : decode cX7_type 40 = .ok (.iload 4, 2) := by decide +kernel
theorem dX7_type_42 : decode cX7_type 42 = .ok (.ifCond .eq 7, 3) := by decide +kernel
theorem dX7_type_45 : decode cX7_type 45 = .ok (.iconst 1, 1) := by decide +kernel
theorem dX7_type_46 : decode cX7_type 46 = .ok (.goto 4, 3) := by decide +kernel
theorem dX7_type_49 : decode cX7_type 49 = .ok (.iconst 0, 1) := by decide +kernel
theorem dX7_type_50 : decode cX7_type 50 = .ok (.iadd, 1) := by decide +kernel
theorem dX7_type_51 : decode cX7_type 51 = .ok (.istore_n 2, 1) := by decide +kernel
theorem dX7_type_52 : decode cX7_type 52 = .ok (.iinc 3 (-8), 3) := by decide +kernel
theorem dX7_type_55 : decode cX7_type 55 = .ok (.goto (-50), 3) := by decide +kernel
theorem dX7_type_58 : decode cX7_type 58 = .ok (.aload_n 0, 1) := by decide +kernel
theorem dX7_type_59 : decode cX7_type 59 = .ok (.getfield 10, 3) := by decide +kernel
theorem dX7_type_62 : decode cX7_type 62 = .ok (.iload_n 2, 1) := by decide +kernel
theorem dX7_type_63 : decode cX7_type 63 = .ok (.invokevirtual 73, 3) := by decide +kernel
theorem dX7_type_66 : decode cX7_type 66 = .ok (.ifCond .ne 5, 3) := by decide +kernel
theorem dX7_type_69 : decode cX7_type 69 = .ok (.iconst 0, 1) := by decide +kernel
theorem dX7_type_70 : decode cX7_type 70 = .ok (.ireturn, 1) := by decide +kernel
theorem dX7_type_71 : decode cX7_type 71 = .ok (.bipush 24, 2) := by decide +kernel
theorem dX7_type_73 : decode cX7_type 73 = .ok (.istore_n 3, 1) := by decide +kernel
theorem dX7_type_74 : decode cX7_type 74 = .ok (.iload_n 3, 1) := by decide +kernel
theorem dX7_type_75 : decode cX7_type 75 = .ok (.ifCond .lt 33, 3) := by decide +kernel
theorem dX7_type_78 : decode cX7_type 78 = .ok (.iload_n 1, 1) := by decide +kernel
theorem dX7_type_79 : decode cX7_type 79 = .ok (.iload_n 3, 1) := by decide +kernel
theorem dX7_type_80 : decode cX7_type 80 = .ok (.iushr, 1) := by decide +kernel
theorem dX7_type_81 : decode cX7_type 81 = .ok (.sipush 255, 3) := by decide +kernel
theorem dX7_type_84 : decode cX7_type 84 = .ok (.iand, 1) := by decide +kernel
theorem dX7_type_85 : decode cX7_type 85 = .ok (.istore 4, 2) := by decide +kernel
theorem dX7_type_87 : decode cX7_type 87 = .ok (.iload 4, 2) := by decide +kernel
theorem dX7_type_89 : decode cX7_type 89 = .ok (.ifCond .eq 13, 3) := by decide +kernel
theorem dX7_type_92 : decode cX7_type 92 = .ok (.aload_n 0, 1) := by decide +kernel
theorem dX7_type_93 : decode cX7_type 93 = .ok (.getfield 10, 3) := by decide +kernel
theorem dX7_type_96 : decode cX7_type 96 = .ok (.iload 4, 2) := by decide +kernel
theorem dX7_type_98 : decode cX7_type 98 = .ok (.i2c, 1) := by decide +kernel
theorem dX7_type_99 : decode cX7_type 99 = .ok (.invokevirtual 77, 3) := by decide +kernel
theorem dX7_type_102 : decode cX7_type 102 = .ok (.iinc 3 (-8), 3) := by decide +kernel
theorem dX7_type_105 : decode cX7_type 105 = .ok (.goto (-31), 3) := by decide +kernel
theorem dX7_type_108 : decode cX7_type 108 = .ok (.iconst 1, 1) := by decide +kernel
theorem dX7_type_109 : decode cX7_type 109 = .ok (.ireturn, 1) := by decide +kernel
theorem dX7_wipe_0 : decode cX7_wipe 0 = .ok (.aload_n 0, 1) := by decide +kernel
theorem dX7_wipe_1 : decode cX7_wipe 1 = .ok (.getfield 10, 3) := by decide +kernel
theorem dX7_wipe_4 : decode cX7_wipe 4 = .ok (.invokevirtual 81, 3) := by decide +kernel
theorem dX7_wipe_7 : decode cX7_wipe 7 = .ok (.return_, 1) := by decide +kernel
theorem dX7_keep_0 : decode cX7_keep 0 = .ok (.aload_n 0, 1) := by decide +kernel
theorem dX7_keep_1 : decode cX7_keep 1 = .ok (.getfield 16, 3) := by decide +kernel
theorem dX7_keep_4 : decode cX7_keep 4 = .ok (.aload_n 0, 1) := by decide +kernel
theorem dX7_keep_5 : decode cX7_keep 5 = .ok (.getfield 10, 3) := by decide +kernel
theorem dX7_keep_8 : decode cX7_keep 8 = .ok (.invokevirtual 84, 3) := by decide +kernel
theorem dX7_keep_11 : decode cX7_keep 11 = .ok (.return_, 1) := by decide +kernel
theorem dX7_length_0 : decode cX7_length 0 = .ok (.aload_n 0, 1) := by decide +kernel
theorem dX7_length_1 : decode cX7_length 1 = .ok (.getfield 10, 3) := by decide +kernel
theorem dX7_length_4 : decode cX7_length 4 = .ok (.invokevirtual 88, 3) := by decide +kernel
theorem dX7_length_7 : decode cX7_length 7 = .ok (.ireturn, 1) := by decide +kernel
theorem dX7_at_0 : decode cX7_at 0 = .ok (.iload_n 1, 1) := by decide +kernel
theorem dX7_at_1 : decode cX7_at 1 = .ok (.ifCond .lt 25, 3) := by decide +kernel
theorem dX7_at_4 : decode cX7_at 4 = .ok (.iload_n 1, 1) := by decide +kernel
theorem dX7_at_5 : decode cX7_at 5 = .ok (.aload_n 0, 1) := by decide +kernel
theorem dX7_at_6 : decode cX7_at 6 = .ok (.getfield 10, 3) := by decide +kernel
theorem dX7_at_9 : decode cX7_at 9 = .ok (.invokevirtual 88, 3) := by decide +kernel
theorem dX7_at_12 : decode cX7_at 12 = .ok (.if_icmp .ge 14, 3) := by decide +kernel
theorem dX7_at_15 : decode cX7_at 15 = .ok (.aload_n 0, 1) := by decide +kernel
theorem dX7_at_16 : decode cX7_at 16 = .ok (.getfield 10, 3) := by decide +kernel
theorem dX7_at_19 : decode cX7_at 19 = .ok (.iload_n 1, 1) := by decide +kernel
theorem dX7_at_20 : decode cX7_at 20 = .ok (.invokevirtual 92, 3) := by decide +kernel
theorem dX7_at_23 : decode cX7_at 23 = .ok (.goto 5, 3) := by decide +kernel
theorem dX7_at_26 : decode cX7_at 26 = .ok (.bipush (-11), 2) := by decide +kernel
theorem dX7_at_28 : decode cX7_at 28 = .ok (.ireturn, 1) := by decide +kernel
theorem dX7_resolve_0 : decode cX7_resolve 0 = .ok (.aload_n 0, 1) := by decide +kernel
theorem dX7_resolve_1 : decode cX7_resolve 1 = .ok (.getfield 61, 3) := by decide +kernel
theorem dX7_resolve_4 : decode cX7_resolve 4 = .ok (.aload_n 0, 1) := by decide +kernel
theorem dX7_resolve_5 : decode cX7_resolve 5 = .ok (.getfield 10, 3) := by decide +kernel
theorem dX7_resolve_8 : decode cX7_resolve 8 = .ok (.iload_n 1, 1) := by decide +kernel
theorem dX7_resolve_9 : decode cX7_resolve 9 = .ok (.invokevirtual 96, 3) := by decide +kernel
theorem dX7_resolve_12 : decode cX7_resolve 12 = .ok (.ireturn, 1) := by decide +kernel
theorem dX7_make_0 : decode cX7_make 0 = .ok (.aload_n 0, 1) := by decide +kernel
theorem dX7_make_1 : decode cX7_make 1 = .ok (.iload_n 1, 1) := by decide +kernel
theorem dX7_make_2 : decode cX7_make 2 = .ok (.iload_n 2, 1) := by decide +kernel
theorem dX7_make_3 : decode cX7_make 3 = .ok (.invokevirtual 100, 3) := by decide +kernel
theorem dX7_make_6 : decode cX7_make 6 = .ok (.ifCond .ne 6, 3) := by decide +kernel
theorem dX7_make_9 : decode cX7_make 9 = .ok (.bipush (-11), 2) := by decide +kernel
theorem dX7_make_11 : decode cX7_make 11 = .ok (.ireturn, 1) := by decide +kernel
theorem dX7_make_12 : decode cX7_make 12 = .ok (.aload_n 0, 1) := by decide +kernel
theorem dX7_make_13 : decode cX7_make 13 = .ok (.iload_n 1, 1) := by decide +kernel
theorem dX7_make_14 : decode cX7_make 14 = .ok (.iconst 1, 1) := by decide +kernel
theorem dX7_make_15 : decode cX7_make 15 = .ok (.if_icmp .ne 7, 3) := by decide +kernel
theorem dX7_make_18 : decode cX7_make 18 = .ok (.iconst 1, 1) := by decide +kernel
theorem dX7_make_19 : decode cX7_make 19 = .ok (.goto 4, 3) := by decide +kernel
theorem dX7_make_22 : decode cX7_make 22 = .ok (.iconst 0, 1) := by decide +kernel
theorem dX7_make_23 : decode cX7_make 23 = .ok (.invokevirtual 104, 3) := by decide +kernel
theorem dX7_make_26 : decode cX7_make 26 = .ok (.istore_n 3, 1) := by decide +kernel
theorem dX7_make_27 : decode cX7_make 27 = .ok (.iload_n 3, 1) := by decide +kernel
theorem dX7_make_28 : decode cX7_make 28 = .ok (.ifCond .eq 5, 3) := by decide +kernel
theorem dX7_make_31 : decode cX7_make 31 = .ok (.iload_n 3, 1) := by decide +kernel
theorem dX7_make_32 : decode cX7_make 32 = .ok (.ireturn, 1) := by decide +kernel
theorem dX7_make_33 : decode cX7_make 33 = .ok (.aload_n 0, 1) := by decide +kernel
theorem dX7_make_34 : decode cX7_make 34 = .ok (.getfield 29, 3) := by decide +kernel
theorem dX7_make_37 : decode cX7_make 37 = .ok (.invokevirtual 108, 3) := by decide +kernel
theorem dX7_make_40 : decode cX7_make 40 = .ok (.istore 4, 2) := by decide +kernel
theorem dX7_make_42 : decode cX7_make 42 = .ok (.iload 4, 2) := by decide +kernel
theorem dX7_make_44 : decode cX7_make 44 = .ok (.iconst (-1), 1) := by decide +kernel
theorem dX7_make_45 : decode cX7_make 45 = .ok (.if_icmp .eq 13, 3) := by decide +kernel
theorem dX7_make_48 : decode cX7_make 48 = .ok (.aload_n 0, 1) := by decide +kernel
theorem dX7_make_49 : decode cX7_make 49 = .ok (.getfield 36, 3) := by decide +kernel
theorem dX7_make_52 : decode cX7_make 52 = .ok (.invokevirtual 111, 3) := by decide +kernel
theorem dX7_make_55 : decode cX7_make 55 = .ok (.ifCond .eq 6, 3) := by decide +kernel
theorem dX7_make_58 : decode cX7_make 58 = .ok (.bipush (-10), 2) := by decide +kernel
theorem dX7_make_60 : decode cX7_make 60 = .ok (.ireturn, 1) := by decide +kernel
theorem dX7_make_61 : decode cX7_make 61 = .ok (.aload_n 0, 1) := by decide +kernel
theorem dX7_make_62 : decode cX7_make 62 = .ok (.getfield 61, 3) := by decide +kernel
theorem dX7_make_65 : decode cX7_make 65 = .ok (.invokevirtual 115, 3) := by decide +kernel
theorem dX7_make_68 : decode cX7_make 68 = .ok (.istore 5, 2) := by decide +kernel
theorem dX7_make_70 : decode cX7_make 70 = .ok (.aload_n 0, 1) := by decide +kernel
theorem dX7_make_71 : decode cX7_make 71 = .ok (.getfield 29, 3) := by decide +kernel
theorem dX7_make_74 : decode cX7_make 74 = .ok (.iload 4, 2) := by decide +kernel
theorem dX7_make_76 : decode cX7_make 76 = .ok (.iload_n 1, 1) := by decide +kernel
theorem dX7_make_77 : decode cX7_make 77 = .ok (.iload_n 1, 1) := by decide +kernel
theorem dX7_make_78 : decode cX7_make 78 = .ok (.iconst 3, 1) := by decide +kernel
theorem dX7_make_79 : decode cX7_make 79 = .ok (.if_icmp .ne 8, 3) := by decide +kernel
theorem dX7_make_82 : decode cX7_make 82 = .ok (.bipush 15, 2) := by decide +kernel
theorem dX7_make_84 : decode cX7_make 84 = .ok (.goto 4, 3) := by decide +kernel
theorem dX7_make_87 : decode cX7_make 87 = .ok (.iload_n 2, 1) := by decide +kernel
theorem dX7_make_88 : decode cX7_make 88 = .ok (.aload_n 0, 1) := by decide +kernel
theorem dX7_make_89 : decode cX7_make 89 = .ok (.getfield 52, 3) := by decide +kernel
theorem dX7_make_92 : decode cX7_make 92 = .ok (.getfield 118, 3) := by decide +kernel
theorem dX7_make_95 : decode cX7_make 95 = .ok (.aload_n 0, 1) := by decide +kernel
theorem dX7_make_96 : decode cX7_make 96 = .ok (.getfield 29, 3) := by decide +kernel
theorem dX7_make_99 : decode cX7_make 99 = .ok (.iload 5, 2) := by decide +kernel
theorem dX7_make_101 : decode cX7_make 101 = .ok (.invokevirtual 122, 3) := by decide +kernel
theorem dX7_make_104 : decode cX7_make 104 = .ok (.invokevirtual 69, 3) := by decide +kernel
theorem dX7_make_107 : decode cX7_make 107 = .ok (.iload_n 1, 1) := by decide +kernel
theorem dX7_make_108 : decode cX7_make 108 = .ok (.iconst 1, 1) := by decide +kernel
theorem dX7_make_109 : decode cX7_make 109 = .ok (.if_icmp .ne 14, 3) := by decide +kernel
theorem dX7_make_112 : decode cX7_make 112 = .ok (.aload_n 0, 1) := by decide +kernel
theorem dX7_make_113 : decode cX7_make 113 = .ok (.getfield 29, 3) := by decide +kernel
theorem dX7_make_116 : decode cX7_make 116 = .ok (.iload 4, 2) := by decide +kernel
theorem dX7_make_118 : decode cX7_make 118 = .ok (.iload 5, 2) := by decide +kernel
theorem dX7_make_120 : decode cX7_make 120 = .ok (.invokevirtual 125, 3) := by decide +kernel
theorem dX7_make_123 : decode cX7_make 123 = .ok (.iload_n 1, 1) := by decide +kernel
theorem dX7_make_124 : decode cX7_make 124 = .ok (.iconst 3, 1) := by decide +kernel
theorem dX7_make_125 : decode cX7_make 125 = .ok (.if_icmp .ne 16, 3) := by decide +kernel
theorem dX7_make_128 : decode cX7_make 128 = .ok (.aload_n 0, 1) := by decide +kernel
theorem dX7_make_129 : decode cX7_make 129 = .ok (.getfield 29, 3) := by decide +kernel
theorem dX7_make_132 : decode cX7_make 132 = .ok (.iload 4, 2) := by decide +kernel
theorem dX7_make_134 : decode cX7_make 134 = .ok (.aload_n 0, 1) := by decide +kernel
theorem dX7_make_135 : decode cX7_make 135 = .ok (.getfield 16, 3) := by decide +kernel
theorem dX7_make_138 : decode cX7_make 138 = .ok (.invokevirtual 129, 3) := by decide +kernel
theorem dX7_make_141 : decode cX7_make 141 = .ok (.aload_n 0, 1) := by decide +kernel
theorem dX7_make_142 : decode cX7_make 142 = .ok (.getfield 36, 3) := by decide +kernel
theorem dX7_make_145 : decode cX7_make 145 = .ok (.iload 5, 2) := by decide +kernel
theorem dX7_make_147 : decode cX7_make 147 = .ok (.aload_n 0, 1) := by decide +kernel
theorem dX7_make_148 : decode cX7_make 148 = .ok (.getfield 61, 3) := by decide +kernel
theorem dX7_make_151 : decode cX7_make 151 = .ok (.invokevirtual 133, 3) := by decide +kernel
theorem dX7_make_154 : decode cX7_make 154 = .ok (.iload 4, 2) := by decide +kernel
theorem dX7_make_156 : decode cX7_make 156 = .ok (.invokevirtual 137, 3) := by decide +kernel
theorem dX7_make_159 : decode cX7_make 159 = .ok (.iload 4, 2) := by decide +kernel
theorem dX7_make_161 : decode cX7_make 161 = .ok (.ireturn, 1) := by decide +kernel
theorem dX7_mayBeMade_0 : decode cX7_mayBeMade 0 = .ok (.iload_n 1, 1) := by decide +kernel
theorem dX7_mayBeMade_1 : decode cX7_mayBeMade 1 = .ok (.iconst 3, 1) := by decide +kernel
theorem dX7_mayBeMade_2 : decode cX7_mayBeMade 2 = .ok (.if_icmp .ne 19, 3) := by decide +kernel
theorem dX7_mayBeMade_5 : decode cX7_mayBeMade 5 = .ok (.aload_n 0, 1) := by decide +kernel
theorem dX7_mayBeMade_6 : decode cX7_mayBeMade 6 = .ok (.getfield 16, 3) := by decide +kernel
theorem dX7_mayBeMade_9 : decode cX7_mayBeMade 9 = .ok (.invokevirtual 140, 3) := by decide +kernel
theorem dX7_mayBeMade_12 : decode cX7_mayBeMade 12 = .ok (.ifCond .ne 7, 3) := by decide +kernel
theorem dX7_mayBeMade_15 : decode cX7_mayBeMade 15 = .ok (.iconst 1, 1) := by decide +kernel
theorem dX7_mayBeMade_16 : decode cX7_mayBeMade 16 = .ok (.goto 4, 3) := by decide +kernel
theorem dX7_mayBeMade_19 : decode cX7_mayBeMade 19 = .ok (.iconst 0, 1) := by decide +kernel
theorem dX7_mayBeMade_20 : decode cX7_mayBeMade 20 = .ok (.ireturn, 1) := by decide +kernel
theorem dX7_mayBeMade_21 : decode cX7_mayBeMade 21 = .ok (.iload_n 1, 1) := by decide +kernel
theorem dX7_mayBeMade_22 : decode cX7_mayBeMade 22 = .ok (.iconst 1, 1) := by decide +kernel
theorem dX7_mayBeMade_23 : decode cX7_mayBeMade 23 = .ok (.if_icmp .eq 8, 3) := by decide +kernel
theorem dX7_mayBeMade_26 : decode cX7_mayBeMade 26 = .ok (.iload_n 1, 1) := by decide +kernel
theorem dX7_mayBeMade_27 : decode cX7_mayBeMade 27 = .ok (.iconst 2, 1) := by decide +kernel
theorem dX7_mayBeMade_28 : decode cX7_mayBeMade 28 = .ok (.if_icmp .ne 14, 3) := by decide +kernel
theorem dX7_mayBeMade_31 : decode cX7_mayBeMade 31 = .ok (.iload_n 2, 1) := by decide +kernel
theorem dX7_mayBeMade_32 : decode cX7_mayBeMade 32 = .ok (.invokestatic 143, 3) := by decide +kernel
theorem dX7_mayBeMade_35 : decode cX7_mayBeMade 35 = .ok (.ifCond .eq 7, 3) := by decide +kernel
theorem dX7_mayBeMade_38 : decode cX7_mayBeMade 38 = .ok (.iconst 1, 1) := by decide +kernel
theorem dX7_mayBeMade_39 : decode cX7_mayBeMade 39 = .ok (.goto 4, 3) := by decide +kernel
theorem dX7_mayBeMade_42 : decode cX7_mayBeMade 42 = .ok (.iconst 0, 1) := by decide +kernel
theorem dX7_mayBeMade_43 : decode cX7_mayBeMade 43 = .ok (.ireturn, 1) := by decide +kernel
theorem dX7_isMode_0 : decode cX7_isMode 0 = .ok (.iload_n 0, 1) := by decide +kernel
theorem dX7_isMode_1 : decode cX7_isMode 1 = .ok (.ifCond .lt 13, 3) := by decide +kernel
theorem dX7_isMode_4 : decode cX7_isMode 4 = .ok (.iload_n 0, 1) := by decide +kernel
theorem dX7_isMode_5 : decode cX7_isMode 5 = .ok (.bipush 16, 2) := by decide +kernel
theorem dX7_isMode_7 : decode cX7_isMode 7 = .ok (.if_icmp .ge 7, 3) := by decide +kernel
theorem dX7_isMode_10 : decode cX7_isMode 10 = .ok (.iconst 1, 1) := by decide +kernel
theorem dX7_isMode_11 : decode cX7_isMode 11 = .ok (.goto 4, 3) := by decide +kernel
theorem dX7_isMode_14 : decode cX7_isMode 14 = .ok (.iconst 0, 1) := by decide +kernel
theorem dX7_isMode_15 : decode cX7_isMode 15 = .ok (.ireturn, 1) := by decide +kernel
theorem dX7_comeToNewName_0 : decode cX7_comeToNewName 0 = .ok (.aload_n 0, 1) := by decide +kernel
theorem dX7_comeToNewName_1 : decode cX7_comeToNewName 1 = .ok (.getfield 10, 3) := by decide +kernel
theorem dX7_comeToNewName_4 : decode cX7_comeToNewName 4 = .ok (.invokevirtual 140, 3) := by decide +kernel
theorem dX7_comeToNewName_7 : decode cX7_comeToNewName 7 = .ok (.ifCond .eq 5, 3) := by decide +kernel
theorem dX7_comeToNewName_10 : decode cX7_comeToNewName 10 = .ok (.iconst (-1), 1) := by decide +kernel
theorem dX7_comeToNewName_11 : decode cX7_comeToNewName 11 = .ok (.ireturn, 1) := by decide +kernel
theorem dX7_comeToNewName_12 : decode cX7_comeToNewName 12 = .ok (.aload_n 0, 1) := by decide +kernel
theorem dX7_comeToNewName_13 : decode cX7_comeToNewName 13 = .ok (.getfield 10, 3) := by decide +kernel
theorem dX7_comeToNewName_16 : decode cX7_comeToNewName 16 = .ok (.invokevirtual 146, 3) := by decide +kernel
theorem dX7_comeToNewName_19 : decode cX7_comeToNewName 19 = .ok (.ifCond .eq 6, 3) := by decide +kernel
theorem dX7_comeToNewName_22 : decode cX7_comeToNewName 22 = .ok (.bipush (-6), 2) := by decide +kernel
theorem dX7_comeToNewName_24 : decode cX7_comeToNewName 24 = .ok (.ireturn, 1) := by decide +kernel
theorem dX7_comeToNewName_25 : decode cX7_comeToNewName 25 = .ok (.aload_n 0, 1) := by decide +kernel
theorem dX7_comeToNewName_26 : decode cX7_comeToNewName 26 = .ok (.getfield 61, 3) := by decide +kernel
theorem dX7_comeToNewName_29 : decode cX7_comeToNewName 29 = .ok (.aload_n 0, 1) := by decide +kernel
theorem dX7_comeToNewName_30 : decode cX7_comeToNewName 30 = .ok (.getfield 10, 3) := by decide +kernel
theorem dX7_comeToNewName_33 : decode cX7_comeToNewName 33 = .ok (.invokevirtual 149, 3) := by decide +kernel
theorem dX7_comeToNewName_36 : decode cX7_comeToNewName 36 = .ok (.istore_n 2, 1) := by decide +kernel
theorem dX7_comeToNewName_37 : decode cX7_comeToNewName 37 = .ok (.iload_n 2, 1) := by decide +kernel
theorem dX7_comeToNewName_38 : decode cX7_comeToNewName 38 = .ok (.ifCond .eq 5, 3) := by decide +kernel
theorem dX7_comeToNewName_41 : decode cX7_comeToNewName 41 = .ok (.iload_n 2, 1) := by decide +kernel
theorem dX7_comeToNewName_42 : decode cX7_comeToNewName 42 = .ok (.ireturn, 1) := by decide +kernel
theorem dX7_comeToNewName_43 : decode cX7_comeToNewName 43 = .ok (.aload_n 0, 1) := by decide +kernel
theorem dX7_comeToNewName_44 : decode cX7_comeToNewName 44 = .ok (.getfield 61, 3) := by decide +kernel
theorem dX7_comeToNewName_47 : decode cX7_comeToNewName 47 = .ok (.invokevirtual 153, 3) := by decide +kernel
theorem dX7_comeToNewName_50 : decode cX7_comeToNewName 50 = .ok (.ifCond .ne 28, 3) := by decide +kernel
theorem dX7_comeToNewName_53 : decode cX7_comeToNewName 53 = .ok (.aload_n 0, 1) := by decide +kernel
theorem dX7_comeToNewName_54 : decode cX7_comeToNewName 54 = .ok (.getfield 36, 3) := by decide +kernel
theorem dX7_comeToNewName_57 : decode cX7_comeToNewName 57 = .ok (.aload_n 0, 1) := by decide +kernel
theorem dX7_comeToNewName_58 : decode cX7_comeToNewName 58 = .ok (.getfield 61, 3) := by decide +kernel
theorem dX7_comeToNewName_61 : decode cX7_comeToNewName 61 = .ok (.invokevirtual 115, 3) := by decide +kernel
theorem dX7_comeToNewName_64 : decode cX7_comeToNewName 64 = .ok (.aload_n 0, 1) := by decide +kernel
theorem dX7_comeToNewName_65 : decode cX7_comeToNewName 65 = .ok (.getfield 61, 3) := by decide +kernel
theorem dX7_comeToNewName_68 : decode cX7_comeToNewName 68 = .ok (.invokevirtual 133, 3) := by decide +kernel
theorem dX7_comeToNewName_71 : decode cX7_comeToNewName 71 = .ok (.invokevirtual 156, 3) := by decide +kernel
theorem dX7_comeToNewName_74 : decode cX7_comeToNewName 74 = .ok (.iconst (-1), 1) := by decide +kernel
theorem dX7_comeToNewName_75 : decode cX7_comeToNewName 75 = .ok (.if_icmp .eq 6, 3) := by decide +kernel
theorem dX7_comeToNewName_78 : decode cX7_comeToNewName 78 = .ok (.bipush (-6), 2) := by decide +kernel
theorem dX7_comeToNewName_80 : decode cX7_comeToNewName 80 = .ok (.ireturn, 1) := by decide +kernel
theorem dX7_comeToNewName_81 : decode cX7_comeToNewName 81 = .ok (.aload_n 0, 1) := by decide +kernel
theorem dX7_comeToNewName_82 : decode cX7_comeToNewName 82 = .ok (.getfield 61, 3) := by decide +kernel
theorem dX7_comeToNewName_85 : decode cX7_comeToNewName 85 = .ok (.invokevirtual 160, 3) := by decide +kernel
theorem dX7_comeToNewName_88 : decode cX7_comeToNewName 88 = .ok (.ifCond .eq 10, 3) := by decide +kernel
theorem dX7_comeToNewName_91 : decode cX7_comeToNewName 91 = .ok (.iload_n 1, 1) := by decide +kernel
theorem dX7_comeToNewName_92 : decode cX7_comeToNewName 92 = .ok (.ifCond .ne 6, 3) := by decide +kernel
theorem dX7_comeToNewName_95 : decode cX7_comeToNewName 95 = .ok (.bipush (-2), 2) := by decide +kernel
theorem dX7_comeToNewName_97 : decode cX7_comeToNewName 97 = .ok (.ireturn, 1) := by decide +kernel
theorem dX7_comeToNewName_98 : decode cX7_comeToNewName 98 = .ok (.aload_n 0, 1) := by decide +kernel
theorem dX7_comeToNewName_99 : decode cX7_comeToNewName 99 = .ok (.getfield 52, 3) := by decide +kernel
theorem dX7_comeToNewName_102 : decode cX7_comeToNewName 102 = .ok (.iconst 2, 1) := by decide +kernel
theorem dX7_comeToNewName_103 : decode cX7_comeToNewName 103 = .ok (.aload_n 0, 1) := by decide +kernel
theorem dX7_comeToNewName_104 : decode cX7_comeToNewName 104 = .ok (.getfield 61, 3) := by decide +kernel
theorem dX7_comeToNewName_107 : decode cX7_comeToNewName 107 = .ok (.invokevirtual 115, 3) := by decide +kernel
theorem dX7_comeToNewName_110 : decode cX7_comeToNewName 110 = .ok (.invokevirtual 163, 3) := by decide +kernel
theorem dX7_comeToNewName_113 : decode cX7_comeToNewName 113 = .ok (.ifCond .eq 7, 3) := by decide +kernel
theorem dX7_comeToNewName_116 : decode cX7_comeToNewName 116 = .ok (.iconst 0, 1) := by decide +kernel
theorem dX7_comeToNewName_117 : decode cX7_comeToNewName 117 = .ok (.goto 5, 3) := by decide +kernel
theorem dX7_comeToNewName_120 : decode cX7_comeToNewName 120 = .ok (.bipush (-3), 2) := by decide +kernel
theorem dX7_comeToNewName_122 : decode cX7_comeToNewName 122 = .ok (.ireturn, 1) := by decide +kernel
theorem dX7_link_0 : decode cX7_link 0 = .ok (.aload_n 0, 1) := by decide +kernel
theorem dX7_link_1 : decode cX7_link 1 = .ok (.getfield 61, 3) := by decide +kernel
theorem dX7_link_4 : decode cX7_link 4 = .ok (.aload_n 0, 1) := by decide +kernel
theorem dX7_link_5 : decode cX7_link 5 = .ok (.getfield 16, 3) := by decide +kernel
theorem dX7_link_8 : decode cX7_link 8 = .ok (.iconst 0, 1) := by decide +kernel
theorem dX7_link_9 : decode cX7_link 9 = .ok (.invokevirtual 96, 3) := by decide +kernel
theorem dX7_link_12 : decode cX7_link 12 = .ok (.istore_n 1, 1) := by decide +kernel
theorem dX7_link_13 : decode cX7_link 13 = .ok (.iload_n 1, 1) := by decide +kernel
theorem dX7_link_14 : decode cX7_link 14 = .ok (.ifCond .ge 5, 3) := by decide +kernel
theorem dX7_link_17 : decode cX7_link 17 = .ok (.iload_n 1, 1) := by decide +kernel
theorem dX7_link_18 : decode cX7_link 18 = .ok (.ireturn, 1) := by decide +kernel
theorem dX7_link_19 : decode cX7_link 19 = .ok (.aload_n 0, 1) := by decide +kernel
theorem dX7_link_20 : decode cX7_link 20 = .ok (.getfield 29, 3) := by decide +kernel
theorem dX7_link_23 : decode cX7_link 23 = .ok (.iload_n 1, 1) := by decide +kernel
theorem dX7_link_24 : decode cX7_link 24 = .ok (.invokevirtual 166, 3) := by decide +kernel
theorem dX7_link_27 : decode cX7_link 27 = .ok (.ifCond .eq 6, 3) := by decide +kernel
theorem dX7_link_30 : decode cX7_link 30 = .ok (.bipush (-11), 2) := by decide +kernel
theorem dX7_link_32 : decode cX7_link 32 = .ok (.ireturn, 1) := by decide +kernel
theorem dX7_link_33 : decode cX7_link 33 = .ok (.aload_n 0, 1) := by decide +kernel
theorem dX7_link_34 : decode cX7_link 34 = .ok (.iconst 0, 1) := by decide +kernel
theorem dX7_link_35 : decode cX7_link 35 = .ok (.invokevirtual 104, 3) := by decide +kernel
theorem dX7_link_38 : decode cX7_link 38 = .ok (.istore_n 2, 1) := by decide +kernel
theorem dX7_link_39 : decode cX7_link 39 = .ok (.iload_n 2, 1) := by decide +kernel
theorem dX7_link_40 : decode cX7_link 40 = .ok (.ifCond .eq 5, 3) := by decide +kernel
theorem dX7_link_43 : decode cX7_link 43 = .ok (.iload_n 2, 1) := by decide +kernel
theorem dX7_link_44 : decode cX7_link 44 = .ok (.ireturn, 1) := by decide +kernel
theorem dX7_link_45 : decode cX7_link 45 = .ok (.aload_n 0, 1) := by decide +kernel
theorem dX7_link_46 : decode cX7_link 46 = .ok (.getfield 29, 3) := by decide +kernel
theorem dX7_link_49 : decode cX7_link 49 = .ok (.aload_n 0, 1) := by decide +kernel
theorem dX7_link_50 : decode cX7_link 50 = .ok (.getfield 61, 3) := by decide +kernel
theorem dX7_link_53 : decode cX7_link 53 = .ok (.invokevirtual 115, 3) := by decide +kernel
theorem dX7_link_56 : decode cX7_link 56 = .ok (.invokevirtual 122, 3) := by decide +kernel
theorem dX7_link_59 : decode cX7_link 59 = .ok (.aload_n 0, 1) := by decide +kernel
theorem dX7_link_60 : decode cX7_link 60 = .ok (.getfield 29, 3) := by decide +kernel
theorem dX7_link_63 : decode cX7_link 63 = .ok (.iload_n 1, 1) := by decide +kernel
theorem dX7_link_64 : decode cX7_link 64 = .ok (.invokevirtual 122, 3) := by decide +kernel
theorem dX7_link_67 : decode cX7_link 67 = .ok (.if_icmp .eq 6, 3) := by decide +kernel
theorem dX7_link_70 : decode cX7_link 70 = .ok (.bipush (-9), 2) := by decide +kernel
theorem dX7_link_72 : decode cX7_link 72 = .ok (.ireturn, 1) := by decide +kernel
theorem dX7_link_73 : decode cX7_link 73 = .ok (.aload_n 0, 1) := by decide +kernel
theorem dX7_link_74 : decode cX7_link 74 = .ok (.getfield 36, 3) := by decide +kernel
theorem dX7_link_77 : decode cX7_link 77 = .ok (.invokevirtual 111, 3) := by decide +kernel
theorem dX7_link_80 : decode cX7_link 80 = .ok (.ifCond .eq 6, 3) := by decide +kernel
theorem dX7_link_83 : decode cX7_link 83 = .ok (.bipush (-10), 2) := by decide +kernel
theorem dX7_link_85 : decode cX7_link 85 = .ok (.ireturn, 1) := by decide +kernel
theorem dX7_link_86 : decode cX7_link 86 = .ok (.aload_n 0, 1) := by decide +kernel
theorem dX7_link_87 : decode cX7_link 87 = .ok (.getfield 36, 3) := by decide +kernel
theorem dX7_link_90 : decode cX7_link 90 = .ok (.aload_n 0, 1) := by decide +kernel
theorem dX7_link_91 : decode cX7_link 91 = .ok (.getfield 61, 3) := by decide +kernel
theorem dX7_link_94 : decode cX7_link 94 = .ok (.invokevirtual 115, 3) := by decide +kernel
theorem dX7_link_97 : decode cX7_link 97 = .ok (.aload_n 0, 1) := by decide +kernel
theorem dX7_link_98 : decode cX7_link 98 = .ok (.getfield 61, 3) := by decide +kernel
theorem dX7_link_101 : decode cX7_link 101 = .ok (.invokevirtual 133, 3) := by decide +kernel
theorem dX7_link_104 : decode cX7_link 104 = .ok (.iload_n 1, 1) := by decide +kernel
theorem dX7_link_105 : decode cX7_link 105 = .ok (.invokevirtual 137, 3) := by decide +kernel
theorem dX7_link_108 : decode cX7_link 108 = .ok (.iload_n 1, 1) := by decide +kernel
theorem dX7_link_109 : decode cX7_link 109 = .ok (.ireturn, 1) := by decide +kernel
theorem dX7_remove_0 : decode cX7_remove 0 = .ok (.aload_n 0, 1) := by decide +kernel
theorem dX7_remove_1 : decode cX7_remove 1 = .ok (.getfield 10, 3) := by decide +kernel
theorem dX7_remove_4 : decode cX7_remove 4 = .ok (.invokevirtual 140, 3) := by decide +kernel
theorem dX7_remove_7 : decode cX7_remove 7 = .ok (.ifCond .eq 5, 3) := by decide +kernel
theorem dX7_remove_10 : decode cX7_remove 10 = .ok (.iconst (-1), 1) := by decide +kernel
theorem dX7_remove_11 : decode cX7_remove 11 = .ok (.ireturn, 1) := by decide +kernel
theorem dX7_remove_12 : decode cX7_remove 12 = .ok (.aload_n 0, 1) := by decide +kernel
theorem dX7_remove_13 : decode cX7_remove 13 = .ok (.getfield 10, 3) := by decide +kernel
theorem dX7_remove_16 : decode cX7_remove 16 = .ok (.invokevirtual 146, 3) := by decide +kernel
theorem dX7_remove_19 : decode cX7_remove 19 = .ok (.ifCond .eq 6, 3) := by decide +kernel
theorem dX7_remove_22 : decode cX7_remove 22 = .ok (.bipush (-7), 2) := by decide +kernel
theorem dX7_remove_24 : decode cX7_remove 24 = .ok (.ireturn, 1) := by decide +kernel
theorem dX7_remove_25 : decode cX7_remove 25 = .ok (.aload_n 0, 1) := by decide +kernel
theorem dX7_remove_26 : decode cX7_remove 26 = .ok (.getfield 61, 3) := by decide +kernel
theorem dX7_remove_29 : decode cX7_remove 29 = .ok (.aload_n 0, 1) := by decide +kernel
theorem dX7_remove_30 : decode cX7_remove 30 = .ok (.getfield 10, 3) := by decide +kernel
theorem dX7_remove_33 : decode cX7_remove 33 = .ok (.invokevirtual 149, 3) := by decide +kernel
theorem dX7_remove_36 : decode cX7_remove 36 = .ok (.istore_n 1, 1) := by decide +kernel
theorem dX7_remove_37 : decode cX7_remove 37 = .ok (.iload_n 1, 1) := by decide +kernel
theorem dX7_remove_38 : decode cX7_remove 38 = .ok (.ifCond .eq 5, 3) := by decide +kernel
theorem dX7_remove_41 : decode cX7_remove 41 = .ok (.iload_n 1, 1) := by decide +kernel
theorem dX7_remove_42 : decode cX7_remove 42 = .ok (.ireturn, 1) := by decide +kernel
theorem dX7_remove_43 : decode cX7_remove 43 = .ok (.aload_n 0, 1) := by decide +kernel
theorem dX7_remove_44 : decode cX7_remove 44 = .ok (.getfield 61, 3) := by decide +kernel
theorem dX7_remove_47 : decode cX7_remove 47 = .ok (.invokevirtual 153, 3) := by decide +kernel
theorem dX7_remove_50 : decode cX7_remove 50 = .ok (.ifCond .eq 6, 3) := by decide +kernel
theorem dX7_remove_53 : decode cX7_remove 53 = .ok (.bipush (-11), 2) := by decide +kernel
theorem dX7_remove_55 : decode cX7_remove 55 = .ok (.ireturn, 1) := by decide +kernel
theorem dX7_remove_56 : decode cX7_remove 56 = .ok (.aload_n 0, 1) := by decide +kernel
theorem dX7_remove_57 : decode cX7_remove 57 = .ok (.getfield 36, 3) := by decide +kernel
theorem dX7_remove_60 : decode cX7_remove 60 = .ok (.aload_n 0, 1) := by decide +kernel
theorem dX7_remove_61 : decode cX7_remove 61 = .ok (.getfield 61, 3) := by decide +kernel
theorem dX7_remove_64 : decode cX7_remove 64 = .ok (.invokevirtual 115, 3) := by decide +kernel
theorem dX7_remove_67 : decode cX7_remove 67 = .ok (.aload_n 0, 1) := by decide +kernel
theorem dX7_remove_68 : decode cX7_remove 68 = .ok (.getfield 61, 3) := by decide +kernel
theorem dX7_remove_71 : decode cX7_remove 71 = .ok (.invokevirtual 133, 3) := by decide +kernel
theorem dX7_remove_74 : decode cX7_remove 74 = .ok (.invokevirtual 156, 3) := by decide +kernel
theorem dX7_remove_77 : decode cX7_remove 77 = .ok (.istore_n 2, 1) := by decide +kernel
theorem dX7_remove_78 : decode cX7_remove 78 = .ok (.iload_n 2, 1) := by decide +kernel
theorem dX7_remove_79 : decode cX7_remove 79 = .ok (.iconst (-1), 1) := by decide +kernel
theorem dX7_remove_80 : decode cX7_remove 80 = .ok (.if_icmp .ne 5, 3) := by decide +kernel
theorem dX7_remove_83 : decode cX7_remove 83 = .ok (.iconst (-1), 1) := by decide +kernel
theorem dX7_remove_84 : decode cX7_remove 84 = .ok (.ireturn, 1) := by decide +kernel
theorem dX7_remove_85 : decode cX7_remove 85 = .ok (.aload_n 0, 1) := by decide +kernel
theorem dX7_remove_86 : decode cX7_remove 86 = .ok (.getfield 36, 3) := by decide +kernel
theorem dX7_remove_89 : decode cX7_remove 89 = .ok (.iload_n 2, 1) := by decide +kernel
theorem dX7_remove_90 : decode cX7_remove 90 = .ok (.invokevirtual 169, 3) := by decide +kernel
theorem dX7_remove_93 : decode cX7_remove 93 = .ok (.istore_n 3, 1) := by decide +kernel
theorem dX7_remove_94 : decode cX7_remove 94 = .ok (.aload_n 0, 1) := by decide +kernel
theorem dX7_remove_95 : decode cX7_remove 95 = .ok (.iload_n 3, 1) := by decide +kernel
theorem dX7_remove_96 : decode cX7_remove 96 = .ok (.invokevirtual 172, 3) := by decide +kernel
theorem dX7_remove_99 : decode cX7_remove 99 = .ok (.istore_n 1, 1) := by decide +kernel
theorem dX7_remove_100 : decode cX7_remove 100 = .ok (.iload_n 1, 1) := by decide +kernel
theorem dX7_remove_101 : decode cX7_remove 101 = .ok (.ifCond .eq 5, 3) := by decide +kernel
theorem dX7_remove_104 : decode cX7_remove 104 = .ok (.iload_n 1, 1) := by decide +kernel
theorem dX7_remove_105 : decode cX7_remove 105 = .ok (.ireturn, 1) := by decide +kernel
theorem dX7_remove_106 : decode cX7_remove 106 = .ok (.aload_n 0, 1) := by decide +kernel
theorem dX7_remove_107 : decode cX7_remove 107 = .ok (.getfield 36, 3) := by decide +kernel
theorem dX7_remove_110 : decode cX7_remove 110 = .ok (.iload_n 2, 1) := by decide +kernel
theorem dX7_remove_111 : decode cX7_remove 111 = .ok (.invokevirtual 175, 3) := by decide +kernel
theorem dX7_remove_114 : decode cX7_remove 114 = .ok (.aload_n 0, 1) := by decide +kernel
theorem dX7_remove_115 : decode cX7_remove 115 = .ok (.getfield 36, 3) := by decide +kernel
theorem dX7_remove_118 : decode cX7_remove 118 = .ok (.iload_n 3, 1) := by decide +kernel
theorem dX7_remove_119 : decode cX7_remove 119 = .ok (.invokevirtual 179, 3) := by decide +kernel
theorem dX7_remove_122 : decode cX7_remove 122 = .ok (.ifCond .ne 11, 3) := by decide +kernel
theorem dX7_remove_125 : decode cX7_remove 125 = .ok (.aload_n 0, 1) := by decide +kernel
theorem dX7_remove_126 : decode cX7_remove 126 = .ok (.getfield 29, 3) := by decide +kernel
theorem dX7_remove_129 : decode cX7_remove 129 = .ok (.iload_n 3, 1) := by decide +kernel
theorem dX7_remove_130 : decode cX7_remove 130 = .ok (.invokevirtual 182, 3) := by decide +kernel
theorem dX7_remove_133 : decode cX7_remove 133 = .ok (.iload_n 3, 1) := by decide +kernel
theorem dX7_remove_134 : decode cX7_remove 134 = .ok (.ireturn, 1) := by decide +kernel
theorem dX7_whyNotRemove_0 : decode cX7_whyNotRemove 0 = .ok (.aload_n 0, 1) := by decide +kernel
theorem dX7_whyNotRemove_1 : decode cX7_whyNotRemove 1 = .ok (.getfield 61, 3) := by decide +kernel
theorem dX7_whyNotRemove_4 : decode cX7_whyNotRemove 4 = .ok (.invokevirtual 160, 3) := by decide +kernel
theorem dX7_whyNotRemove_7 : decode cX7_whyNotRemove 7 = .ok (.ifCond .eq 17, 3) := by decide +kernel
theorem dX7_whyNotRemove_10 : decode cX7_whyNotRemove 10 = .ok (.aload_n 0, 1) := by decide +kernel
theorem dX7_whyNotRemove_11 : decode cX7_whyNotRemove 11 = .ok (.getfield 29, 3) := by decide +kernel
theorem dX7_whyNotRemove_14 : decode cX7_whyNotRemove 14 = .ok (.iload_n 1, 1) := by decide +kernel
theorem dX7_whyNotRemove_15 : decode cX7_whyNotRemove 15 = .ok (.invokevirtual 166, 3) := by decide +kernel
theorem dX7_whyNotRemove_18 : decode cX7_whyNotRemove 18 = .ok (.ifCond .ne 6, 3) := by decide +kernel
theorem dX7_whyNotRemove_21 : decode cX7_whyNotRemove 21 = .ok (.bipush (-2), 2) := by decide +kernel
theorem dX7_whyNotRemove_23 : decode cX7_whyNotRemove 23 = .ok (.ireturn, 1) := by decide +kernel
theorem dX7_whyNotRemove_24 : decode cX7_whyNotRemove 24 = .ok (.aload_n 0, 1) := by decide +kernel
theorem dX7_whyNotRemove_25 : decode cX7_whyNotRemove 25 = .ok (.getfield 52, 3) := by decide +kernel
theorem dX7_whyNotRemove_28 : decode cX7_whyNotRemove 28 = .ok (.iconst 2, 1) := by decide +kernel
theorem dX7_whyNotRemove_29 : decode cX7_whyNotRemove 29 = .ok (.aload_n 0, 1) := by decide +kernel
theorem dX7_whyNotRemove_30 : decode cX7_whyNotRemove 30 = .ok (.getfield 61, 3) := by decide +kernel
theorem dX7_whyNotRemove_33 : decode cX7_whyNotRemove 33 = .ok (.invokevirtual 115, 3) := by decide +kernel
theorem dX7_whyNotRemove_36 : decode cX7_whyNotRemove 36 = .ok (.invokevirtual 163, 3) := by decide +kernel
theorem dX7_whyNotRemove_39 : decode cX7_whyNotRemove 39 = .ok (.ifCond .ne 6, 3) := by decide +kernel
theorem dX7_whyNotRemove_42 : decode cX7_whyNotRemove 42 = .ok (.bipush (-3), 2) := by decide +kernel
theorem dX7_whyNotRemove_44 : decode cX7_whyNotRemove 44 = .ok (.ireturn, 1) := by decide +kernel
theorem dX7_whyNotRemove_45 : decode cX7_whyNotRemove 45 = .ok (.aload_n 0, 1) := by decide +kernel
theorem dX7_whyNotRemove_46 : decode cX7_whyNotRemove 46 = .ok (.getfield 45, 3) := by decide +kernel
theorem dX7_whyNotRemove_49 : decode cX7_whyNotRemove 49 = .ok (.iload_n 1, 1) := by decide +kernel
theorem dX7_whyNotRemove_50 : decode cX7_whyNotRemove 50 = .ok (.invokevirtual 185, 3) := by decide +kernel
theorem dX7_whyNotRemove_53 : decode cX7_whyNotRemove 53 = .ok (.ifCond .ne 25, 3) := by decide +kernel
theorem dX7_whyNotRemove_56 : decode cX7_whyNotRemove 56 = .ok (.iload_n 1, 1) := by decide +kernel
theorem dX7_whyNotRemove_57 : decode cX7_whyNotRemove 57 = .ok (.aload_n 0, 1) := by decide +kernel
theorem dX7_whyNotRemove_58 : decode cX7_whyNotRemove 58 = .ok (.getfield 52, 3) := by decide +kernel
theorem dX7_whyNotRemove_61 : decode cX7_whyNotRemove 61 = .ok (.getfield 188, 3) := by decide +kernel
theorem dX7_whyNotRemove_64 : decode cX7_whyNotRemove 64 = .ok (.if_icmp .eq 14, 3) := by decide +kernel
theorem dX7_whyNotRemove_67 : decode cX7_whyNotRemove 67 = .ok (.iload_n 1, 1) := by decide +kernel
theorem dX7_whyNotRemove_68 : decode cX7_whyNotRemove 68 = .ok (.aload_n 0, 1) := by decide +kernel
theorem dX7_whyNotRemove_69 : decode cX7_whyNotRemove 69 = .ok (.getfield 52, 3) := by decide +kernel
theorem dX7_whyNotRemove_72 : decode cX7_whyNotRemove 72 = .ok (.getfield 191, 3) := by decide +kernel
theorem dX7_whyNotRemove_75 : decode cX7_whyNotRemove 75 = .ok (.if_icmp .ne 6, 3) := by decide +kernel
theorem dX7_whyNotRemove_78 : decode cX7_whyNotRemove 78 = .ok (.bipush (-7), 2) := by decide +kernel
theorem dX7_whyNotRemove_80 : decode cX7_whyNotRemove 80 = .ok (.ireturn, 1) := by decide +kernel
theorem dX7_whyNotRemove_81 : decode cX7_whyNotRemove 81 = .ok (.aload_n 0, 1) := by decide +kernel
theorem dX7_whyNotRemove_82 : decode cX7_whyNotRemove 82 = .ok (.getfield 36, 3) := by decide +kernel
theorem dX7_whyNotRemove_85 : decode cX7_whyNotRemove 85 = .ok (.iload_n 1, 1) := by decide +kernel
theorem dX7_whyNotRemove_86 : decode cX7_whyNotRemove 86 = .ok (.invokevirtual 194, 3) := by decide +kernel
theorem dX7_whyNotRemove_89 : decode cX7_whyNotRemove 89 = .ok (.ifCond .ne 7, 3) := by decide +kernel
theorem dX7_whyNotRemove_92 : decode cX7_whyNotRemove 92 = .ok (.iconst 0, 1) := by decide +kernel
theorem dX7_whyNotRemove_93 : decode cX7_whyNotRemove 93 = .ok (.goto 5, 3) := by decide +kernel
theorem dX7_whyNotRemove_96 : decode cX7_whyNotRemove 96 = .ok (.bipush (-8), 2) := by decide +kernel
theorem dX7_whyNotRemove_98 : decode cX7_whyNotRemove 98 = .ok (.ireturn, 1) := by decide +kernel
theorem dX7_volume_0 : decode cX7_volume 0 = .ok (.aload_n 0, 1) := by decide +kernel
theorem dX7_volume_1 : decode cX7_volume 1 = .ok (.getfield 29, 3) := by decide +kernel
theorem dX7_volume_4 : decode cX7_volume 4 = .ok (.invokevirtual 108, 3) := by decide +kernel
theorem dX7_volume_7 : decode cX7_volume 7 = .ok (.istore_n 1, 1) := by decide +kernel
theorem dX7_volume_8 : decode cX7_volume 8 = .ok (.iload_n 1, 1) := by decide +kernel
theorem dX7_volume_9 : decode cX7_volume 9 = .ok (.iconst (-1), 1) := by decide +kernel
theorem dX7_volume_10 : decode cX7_volume 10 = .ok (.if_icmp .eq 13, 3) := by decide +kernel
theorem dX7_volume_13 : decode cX7_volume 13 = .ok (.aload_n 0, 1) := by decide +kernel
theorem dX7_volume_14 : decode cX7_volume 14 = .ok (.getfield 45, 3) := by decide +kernel
theorem dX7_volume_17 : decode cX7_volume 17 = .ok (.invokevirtual 197, 3) := by decide +kernel
theorem dX7_volume_20 : decode cX7_volume 20 = .ok (.ifCond .eq 6, 3) := by decide +kernel
theorem dX7_volume_23 : decode cX7_volume 23 = .ok (.bipush (-10), 2) := by decide +kernel
theorem dX7_volume_25 : decode cX7_volume 25 = .ok (.ireturn, 1) := by decide +kernel
theorem dX7_volume_26 : decode cX7_volume 26 = .ok (.aload_n 0, 1) := by decide +kernel
theorem dX7_volume_27 : decode cX7_volume 27 = .ok (.getfield 45, 3) := by decide +kernel
theorem dX7_volume_30 : decode cX7_volume 30 = .ok (.iload_n 1, 1) := by decide +kernel
theorem dX7_volume_31 : decode cX7_volume 31 = .ok (.invokevirtual 65, 3) := by decide +kernel
theorem dX7_volume_34 : decode cX7_volume 34 = .ok (.istore_n 2, 1) := by decide +kernel
theorem dX7_volume_35 : decode cX7_volume 35 = .ok (.aload_n 0, 1) := by decide +kernel
theorem dX7_volume_36 : decode cX7_volume 36 = .ok (.getfield 29, 3) := by decide +kernel
theorem dX7_volume_39 : decode cX7_volume 39 = .ok (.iload_n 1, 1) := by decide +kernel
theorem dX7_volume_40 : decode cX7_volume 40 = .ok (.iconst 1, 1) := by decide +kernel
theorem dX7_volume_41 : decode cX7_volume 41 = .ok (.bipush 15, 2) := by decide +kernel
theorem dX7_volume_43 : decode cX7_volume 43 = .ok (.iconst 0, 1) := by decide +kernel
theorem dX7_volume_44 : decode cX7_volume 44 = .ok (.iload_n 2, 1) := by decide +kernel
theorem dX7_volume_45 : decode cX7_volume 45 = .ok (.invokevirtual 69, 3) := by decide +kernel
theorem dX7_volume_48 : decode cX7_volume 48 = .ok (.iload_n 2, 1) := by decide +kernel
theorem dX7_volume_49 : decode cX7_volume 49 = .ok (.ireturn, 1) := by decide +kernel
theorem dX7_mount_0 : decode cX7_mount 0 = .ok (.aload_n 0, 1) := by decide +kernel
theorem dX7_mount_1 : decode cX7_mount 1 = .ok (.getfield 45, 3) := by decide +kernel
theorem dX7_mount_4 : decode cX7_mount 4 = .ok (.iload_n 1, 1) := by decide +kernel
theorem dX7_mount_5 : decode cX7_mount 5 = .ok (.invokevirtual 198, 3) := by decide +kernel
theorem dX7_mount_8 : decode cX7_mount 8 = .ok (.ifCond .ne 6, 3) := by decide +kernel
theorem dX7_mount_11 : decode cX7_mount 11 = .ok (.bipush (-11), 2) := by decide +kernel
theorem dX7_mount_13 : decode cX7_mount 13 = .ok (.ireturn, 1) := by decide +kernel
theorem dX7_mount_14 : decode cX7_mount 14 = .ok (.aload_n 0, 1) := by decide +kernel
theorem dX7_mount_15 : decode cX7_mount 15 = .ok (.getfield 52, 3) := by decide +kernel
theorem dX7_mount_18 : decode cX7_mount 18 = .ok (.getfield 118, 3) := by decide +kernel
theorem dX7_mount_21 : decode cX7_mount 21 = .ok (.ifCond .eq 6, 3) := by decide +kernel
theorem dX7_mount_24 : decode cX7_mount 24 = .ok (.bipush (-3), 2) := by decide +kernel
theorem dX7_mount_26 : decode cX7_mount 26 = .ok (.ireturn, 1) := by decide +kernel
theorem dX7_mount_27 : decode cX7_mount 27 = .ok (.aload_n 0, 1) := by decide +kernel
theorem dX7_mount_28 : decode cX7_mount 28 = .ok (.getfield 45, 3) := by decide +kernel
theorem dX7_mount_31 : decode cX7_mount 31 = .ok (.iload_n 1, 1) := by decide +kernel
theorem dX7_mount_32 : decode cX7_mount 32 = .ok (.invokevirtual 201, 3) := by decide +kernel
theorem dX7_mount_35 : decode cX7_mount 35 = .ok (.ifCond .eq 6, 3) := by decide +kernel
theorem dX7_mount_38 : decode cX7_mount 38 = .ok (.bipush (-7), 2) := by decide +kernel
theorem dX7_mount_40 : decode cX7_mount 40 = .ok (.ireturn, 1) := by decide +kernel
theorem dX7_mount_41 : decode cX7_mount 41 = .ok (.aload_n 0, 1) := by decide +kernel
theorem dX7_mount_42 : decode cX7_mount 42 = .ok (.getfield 61, 3) := by decide +kernel
theorem dX7_mount_45 : decode cX7_mount 45 = .ok (.aload_n 0, 1) := by decide +kernel
theorem dX7_mount_46 : decode cX7_mount 46 = .ok (.getfield 10, 3) := by decide +kernel
theorem dX7_mount_49 : decode cX7_mount 49 = .ok (.iconst 1, 1) := by decide +kernel
theorem dX7_mount_50 : decode cX7_mount 50 = .ok (.invokevirtual 96, 3) := by decide +kernel
theorem dX7_mount_53 : decode cX7_mount 53 = .ok (.istore_n 2, 1) := by decide +kernel
theorem dX7_mount_54 : decode cX7_mount 54 = .ok (.iload_n 2, 1) := by decide +kernel
theorem dX7_mount_55 : decode cX7_mount 55 = .ok (.ifCond .ge 5, 3) := by decide +kernel
theorem dX7_mount_58 : decode cX7_mount 58 = .ok (.iload_n 2, 1) := by decide +kernel
theorem dX7_mount_59 : decode cX7_mount 59 = .ok (.ireturn, 1) := by decide +kernel
theorem dX7_mount_60 : decode cX7_mount 60 = .ok (.aload_n 0, 1) := by decide +kernel
theorem dX7_mount_61 : decode cX7_mount 61 = .ok (.getfield 29, 3) := by decide +kernel
theorem dX7_mount_64 : decode cX7_mount 64 = .ok (.iload_n 2, 1) := by decide +kernel
theorem dX7_mount_65 : decode cX7_mount 65 = .ok (.invokevirtual 166, 3) := by decide +kernel
theorem dX7_mount_68 : decode cX7_mount 68 = .ok (.ifCond .ne 6, 3) := by decide +kernel
theorem dX7_mount_71 : decode cX7_mount 71 = .ok (.bipush (-2), 2) := by decide +kernel
theorem dX7_mount_73 : decode cX7_mount 73 = .ok (.ireturn, 1) := by decide +kernel
theorem dX7_mount_74 : decode cX7_mount 74 = .ok (.aload_n 0, 1) := by decide +kernel
theorem dX7_mount_75 : decode cX7_mount 75 = .ok (.aload_n 0, 1) := by decide +kernel
theorem dX7_mount_76 : decode cX7_mount 76 = .ok (.getfield 52, 3) := by decide +kernel
theorem dX7_mount_79 : decode cX7_mount 79 = .ok (.getfield 188, 3) := by decide +kernel
theorem dX7_mount_82 : decode cX7_mount 82 = .ok (.iload_n 2, 1) := by decide +kernel
theorem dX7_mount_83 : decode cX7_mount 83 = .ok (.invokevirtual 204, 3) := by decide +kernel
theorem dX7_mount_86 : decode cX7_mount 86 = .ok (.ifCond .ne 18, 3) := by decide +kernel
theorem dX7_mount_89 : decode cX7_mount 89 = .ok (.aload_n 0, 1) := by decide +kernel
theorem dX7_mount_90 : decode cX7_mount 90 = .ok (.aload_n 0, 1) := by decide +kernel
theorem dX7_mount_91 : decode cX7_mount 91 = .ok (.getfield 52, 3) := by decide +kernel
theorem dX7_mount_94 : decode cX7_mount 94 = .ok (.getfield 191, 3) := by decide +kernel
theorem dX7_mount_97 : decode cX7_mount 97 = .ok (.iload_n 2, 1) := by decide +kernel
theorem dX7_mount_98 : decode cX7_mount 98 = .ok (.invokevirtual 204, 3) := by decide +kernel
theorem dX7_mount_101 : decode cX7_mount 101 = .ok (.ifCond .eq 6, 3) := by decide +kernel
theorem dX7_mount_104 : decode cX7_mount 104 = .ok (.bipush (-7), 2) := by decide +kernel
theorem dX7_mount_106 : decode cX7_mount 106 = .ok (.ireturn, 1) := by decide +kernel
theorem dX7_mount_107 : decode cX7_mount 107 = .ok (.aload_n 0, 1) := by decide +kernel
theorem dX7_mount_108 : decode cX7_mount 108 = .ok (.getfield 45, 3) := by decide +kernel
theorem dX7_mount_111 : decode cX7_mount 111 = .ok (.iload_n 1, 1) := by decide +kernel
theorem dX7_mount_112 : decode cX7_mount 112 = .ok (.iload_n 2, 1) := by decide +kernel
theorem dX7_mount_113 : decode cX7_mount 113 = .ok (.invokevirtual 207, 3) := by decide +kernel
theorem dX7_mount_116 : decode cX7_mount 116 = .ok (.iload_n 2, 1) := by decide +kernel
theorem dX7_mount_117 : decode cX7_mount 117 = .ok (.ireturn, 1) := by decide +kernel
theorem dX7_isAtOrBelow_0 : decode cX7_isAtOrBelow 0 = .ok (.iload_n 1, 1) := by decide +kernel
theorem dX7_isAtOrBelow_1 : decode cX7_isAtOrBelow 1 = .ok (.istore_n 3, 1) := by decide +kernel
theorem dX7_isAtOrBelow_2 : decode cX7_isAtOrBelow 2 = .ok (.iconst 0, 1) := by decide +kernel
theorem dX7_isAtOrBelow_3 : decode cX7_isAtOrBelow 3 = .ok (.istore 4, 2) := by decide +kernel
theorem dX7_isAtOrBelow_5 : decode cX7_isAtOrBelow 5 = .ok (.iload 4, 2) := by decide +kernel
theorem dX7_isAtOrBelow_7 : decode cX7_isAtOrBelow 7 = .ok (.bipush 40, 2) := by decide +kernel
theorem dX7_isAtOrBelow_9 : decode cX7_isAtOrBelow 9 = .ok (.if_icmp .ge 28, 3) := by decide +kernel
theorem dX7_isAtOrBelow_12 : decode cX7_isAtOrBelow 12 = .ok (.iload_n 3, 1) := by decide +kernel
theorem dX7_isAtOrBelow_13 : decode cX7_isAtOrBelow 13 = .ok (.iload_n 2, 1) := by decide +kernel
theorem dX7_isAtOrBelow_14 : decode cX7_isAtOrBelow 14 = .ok (.if_icmp .eq 23, 3) := by decide +kernel
theorem dX7_isAtOrBelow_17 : decode cX7_isAtOrBelow 17 = .ok (.iload_n 3, 1) := by decide +kernel
theorem dX7_isAtOrBelow_18 : decode cX7_isAtOrBelow 18 = .ok (.ifCond .eq 19, 3) := by decide +kernel
theorem dX7_isAtOrBelow_21 : decode cX7_isAtOrBelow 21 = .ok (.aload_n 0, 1) := by decide +kernel
theorem dX7_isAtOrBelow_22 : decode cX7_isAtOrBelow 22 = .ok (.getfield 45, 3) := by decide +kernel
theorem dX7_isAtOrBelow_25 : decode cX7_isAtOrBelow 25 = .ok (.iload_n 3, 1) := by decide +kernel
theorem dX7_isAtOrBelow_26 : decode cX7_isAtOrBelow 26 = .ok (.iconst 0, 1) := by decide +kernel
theorem dX7_isAtOrBelow_27 : decode cX7_isAtOrBelow 27 = .ok (.invokevirtual 210, 3) := by decide +kernel
theorem dX7_isAtOrBelow_30 : decode cX7_isAtOrBelow 30 = .ok (.istore_n 3, 1) := by decide +kernel
theorem dX7_isAtOrBelow_31 : decode cX7_isAtOrBelow 31 = .ok (.iinc 4 1, 3) := by decide +kernel
theorem dX7_isAtOrBelow_34 : decode cX7_isAtOrBelow 34 = .ok (.goto (-29), 3) := by decide +kernel
theorem dX7_isAtOrBelow_37 : decode cX7_isAtOrBelow 37 = .ok (.iload_n 3, 1) := by decide +kernel
theorem dX7_isAtOrBelow_38 : decode cX7_isAtOrBelow 38 = .ok (.iload_n 2, 1) := by decide +kernel
theorem dX7_isAtOrBelow_39 : decode cX7_isAtOrBelow 39 = .ok (.if_icmp .ne 7, 3) := by decide +kernel
theorem dX7_isAtOrBelow_42 : decode cX7_isAtOrBelow 42 = .ok (.iconst 1, 1) := by decide +kernel
theorem dX7_isAtOrBelow_43 : decode cX7_isAtOrBelow 43 = .ok (.goto 4, 3) := by decide +kernel
theorem dX7_isAtOrBelow_46 : decode cX7_isAtOrBelow 46 = .ok (.iconst 0, 1) := by decide +kernel
theorem dX7_isAtOrBelow_47 : decode cX7_isAtOrBelow 47 = .ok (.ireturn, 1) := by decide +kernel
theorem dX7_unmount_0 : decode cX7_unmount 0 = .ok (.aload_n 0, 1) := by decide +kernel
theorem dX7_unmount_1 : decode cX7_unmount 1 = .ok (.getfield 52, 3) := by decide +kernel
theorem dX7_unmount_4 : decode cX7_unmount 4 = .ok (.getfield 118, 3) := by decide +kernel
theorem dX7_unmount_7 : decode cX7_unmount 7 = .ok (.ifCond .eq 6, 3) := by decide +kernel
theorem dX7_unmount_10 : decode cX7_unmount 10 = .ok (.bipush (-3), 2) := by decide +kernel
theorem dX7_unmount_12 : decode cX7_unmount 12 = .ok (.ireturn, 1) := by decide +kernel
theorem dX7_unmount_13 : decode cX7_unmount 13 = .ok (.aload_n 0, 1) := by decide +kernel
theorem dX7_unmount_14 : decode cX7_unmount 14 = .ok (.getfield 61, 3) := by decide +kernel
theorem dX7_unmount_17 : decode cX7_unmount 17 = .ok (.aload_n 0, 1) := by decide +kernel
theorem dX7_unmount_18 : decode cX7_unmount 18 = .ok (.getfield 10, 3) := by decide +kernel
theorem dX7_unmount_21 : decode cX7_unmount 21 = .ok (.iconst 1, 1) := by decide +kernel
theorem dX7_unmount_22 : decode cX7_unmount 22 = .ok (.invokevirtual 96, 3) := by decide +kernel
theorem dX7_unmount_25 : decode cX7_unmount 25 = .ok (.istore_n 1, 1) := by decide +kernel
theorem dX7_unmount_26 : decode cX7_unmount 26 = .ok (.iload_n 1, 1) := by decide +kernel
theorem dX7_unmount_27 : decode cX7_unmount 27 = .ok (.ifCond .ge 5, 3) := by decide +kernel
theorem dX7_unmount_30 : decode cX7_unmount 30 = .ok (.iload_n 1, 1) := by decide +kernel
theorem dX7_unmount_31 : decode cX7_unmount 31 = .ok (.ireturn, 1) := by decide +kernel
theorem dX7_unmount_32 : decode cX7_unmount 32 = .ok (.aload_n 0, 1) := by decide +kernel
theorem dX7_unmount_33 : decode cX7_unmount 33 = .ok (.getfield 45, 3) := by decide +kernel
theorem dX7_unmount_36 : decode cX7_unmount 36 = .ok (.iload_n 1, 1) := by decide +kernel
theorem dX7_unmount_37 : decode cX7_unmount 37 = .ok (.invokevirtual 214, 3) := by decide +kernel
theorem dX7_unmount_40 : decode cX7_unmount 40 = .ok (.istore_n 2, 1) := by decide +kernel
theorem dX7_unmount_41 : decode cX7_unmount 41 = .ok (.iload_n 2, 1) := by decide +kernel
theorem dX7_unmount_42 : decode cX7_unmount 42 = .ok (.iconst (-1), 1) := by decide +kernel
theorem dX7_unmount_43 : decode cX7_unmount 43 = .ok (.if_icmp .ne 6, 3) := by decide +kernel
theorem dX7_unmount_46 : decode cX7_unmount 46 = .ok (.bipush (-11), 2) := by decide +kernel
theorem dX7_unmount_48 : decode cX7_unmount 48 = .ok (.ireturn, 1) := by decide +kernel
theorem dX7_unmount_49 : decode cX7_unmount 49 = .ok (.aload_n 0, 1) := by decide +kernel
theorem dX7_unmount_50 : decode cX7_unmount 50 = .ok (.getfield 29, 3) := by decide +kernel
theorem dX7_unmount_53 : decode cX7_unmount 53 = .ok (.aload_n 0, 1) := by decide +kernel
theorem dX7_unmount_54 : decode cX7_unmount 54 = .ok (.getfield 52, 3) := by decide +kernel
theorem dX7_unmount_57 : decode cX7_unmount 57 = .ok (.getfield 188, 3) := by decide +kernel
theorem dX7_unmount_60 : decode cX7_unmount 60 = .ok (.invokevirtual 122, 3) := by decide +kernel
theorem dX7_unmount_63 : decode cX7_unmount 63 = .ok (.iload_n 2, 1) := by decide +kernel
theorem dX7_unmount_64 : decode cX7_unmount 64 = .ok (.if_icmp .eq 32, 3) := by decide +kernel
theorem dX7_unmount_67 : decode cX7_unmount 67 = .ok (.aload_n 0, 1) := by decide +kernel
theorem dX7_unmount_68 : decode cX7_unmount 68 = .ok (.getfield 29, 3) := by decide +kernel
theorem dX7_unmount_71 : decode cX7_unmount 71 = .ok (.aload_n 0, 1) := by decide +kernel
theorem dX7_unmount_72 : decode cX7_unmount 72 = .ok (.getfield 52, 3) := by decide +kernel
theorem dX7_unmount_75 : decode cX7_unmount 75 = .ok (.getfield 191, 3) := by decide +kernel
theorem dX7_unmount_78 : decode cX7_unmount 78 = .ok (.invokevirtual 122, 3) := by decide +kernel
theorem dX7_unmount_81 : decode cX7_unmount 81 = .ok (.iload_n 2, 1) := by decide +kernel
theorem dX7_unmount_82 : decode cX7_unmount 82 = .ok (.if_icmp .eq 14, 3) := by decide +kernel
theorem dX7_unmount_85 : decode cX7_unmount 85 = .ok (.aload_n 0, 1) := by decide +kernel
theorem dX7_unmount_86 : decode cX7_unmount 86 = .ok (.getfield 45, 3) := by decide +kernel
theorem dX7_unmount_89 : decode cX7_unmount 89 = .ok (.iload_n 2, 1) := by decide +kernel
theorem dX7_unmount_90 : decode cX7_unmount 90 = .ok (.invokevirtual 217, 3) := by decide +kernel
theorem dX7_unmount_93 : decode cX7_unmount 93 = .ok (.ifCond .eq 6, 3) := by decide +kernel
theorem dX7_unmount_96 : decode cX7_unmount 96 = .ok (.bipush (-7), 2) := by decide +kernel
theorem dX7_unmount_98 : decode cX7_unmount 98 = .ok (.ireturn, 1) := by decide +kernel
theorem dX7_unmount_99 : decode cX7_unmount 99 = .ok (.aload_n 0, 1) := by decide +kernel
theorem dX7_unmount_100 : decode cX7_unmount 100 = .ok (.getfield 45, 3) := by decide +kernel
theorem dX7_unmount_103 : decode cX7_unmount 103 = .ok (.iload_n 2, 1) := by decide +kernel
theorem dX7_unmount_104 : decode cX7_unmount 104 = .ok (.invokevirtual 220, 3) := by decide +kernel
theorem dX7_unmount_107 : decode cX7_unmount 107 = .ok (.iload_n 2, 1) := by decide +kernel
theorem dX7_unmount_108 : decode cX7_unmount 108 = .ok (.ireturn, 1) := by decide +kernel
theorem dX7_enter_0 : decode cX7_enter 0 = .ok (.aload_n 0, 1) := by decide +kernel
theorem dX7_enter_1 : decode cX7_enter 1 = .ok (.getfield 61, 3) := by decide +kernel
theorem dX7_enter_4 : decode cX7_enter 4 = .ok (.aload_n 0, 1) := by decide +kernel
theorem dX7_enter_5 : decode cX7_enter 5 = .ok (.getfield 10, 3) := by decide +kernel
theorem dX7_enter_8 : decode cX7_enter 8 = .ok (.iconst 1, 1) := by decide +kernel
theorem dX7_enter_9 : decode cX7_enter 9 = .ok (.invokevirtual 96, 3) := by decide +kernel
theorem dX7_enter_12 : decode cX7_enter 12 = .ok (.istore_n 2, 1) := by decide +kernel
theorem dX7_enter_13 : decode cX7_enter 13 = .ok (.iload_n 2, 1) := by decide +kernel
theorem dX7_enter_14 : decode cX7_enter 14 = .ok (.ifCond .ge 5, 3) := by decide +kernel
theorem dX7_enter_17 : decode cX7_enter 17 = .ok (.iload_n 2, 1) := by decide +kernel
theorem dX7_enter_18 : decode cX7_enter 18 = .ok (.ireturn, 1) := by decide +kernel
theorem dX7_enter_19 : decode cX7_enter 19 = .ok (.aload_n 0, 1) := by decide +kernel
theorem dX7_enter_20 : decode cX7_enter 20 = .ok (.getfield 29, 3) := by decide +kernel
theorem dX7_enter_23 : decode cX7_enter 23 = .ok (.iload_n 2, 1) := by decide +kernel
theorem dX7_enter_24 : decode cX7_enter 24 = .ok (.invokevirtual 166, 3) := by decide +kernel
theorem dX7_enter_27 : decode cX7_enter 27 = .ok (.ifCond .ne 6, 3) := by decide +kernel
theorem dX7_enter_30 : decode cX7_enter 30 = .ok (.bipush (-2), 2) := by decide +kernel
theorem dX7_enter_32 : decode cX7_enter 32 = .ok (.ireturn, 1) := by decide +kernel
theorem dX7_enter_33 : decode cX7_enter 33 = .ok (.aload_n 0, 1) := by decide +kernel
theorem dX7_enter_34 : decode cX7_enter 34 = .ok (.getfield 52, 3) := by decide +kernel
theorem dX7_enter_37 : decode cX7_enter 37 = .ok (.iconst 1, 1) := by decide +kernel
theorem dX7_enter_38 : decode cX7_enter 38 = .ok (.iload_n 2, 1) := by decide +kernel
theorem dX7_enter_39 : decode cX7_enter 39 = .ok (.invokevirtual 163, 3) := by decide +kernel
theorem dX7_enter_42 : decode cX7_enter 42 = .ok (.ifCond .ne 6, 3) := by decide +kernel
theorem dX7_enter_45 : decode cX7_enter 45 = .ok (.bipush (-3), 2) := by decide +kernel
theorem dX7_enter_47 : decode cX7_enter 47 = .ok (.ireturn, 1) := by decide +kernel
theorem dX7_enter_48 : decode cX7_enter 48 = .ok (.aload_n 0, 1) := by decide +kernel
theorem dX7_enter_49 : decode cX7_enter 49 = .ok (.getfield 52, 3) := by decide +kernel
theorem dX7_enter_52 : decode cX7_enter 52 = .ok (.iload_n 2, 1) := by decide +kernel
theorem dX7_enter_53 : decode cX7_enter 53 = .ok (.putfield 191, 3) := by decide +kernel
theorem dX7_enter_56 : decode cX7_enter 56 = .ok (.iload_n 1, 1) := by decide +kernel
theorem dX7_enter_57 : decode cX7_enter 57 = .ok (.ifCond .eq 11, 3) := by decide +kernel
theorem dX7_enter_60 : decode cX7_enter 60 = .ok (.aload_n 0, 1) := by decide +kernel
theorem dX7_enter_61 : decode cX7_enter 61 = .ok (.getfield 52, 3) := by decide +kernel
theorem dX7_enter_64 : decode cX7_enter 64 = .ok (.iload_n 2, 1) := by decide +kernel
theorem dX7_enter_65 : decode cX7_enter 65 = .ok (.putfield 188, 3) := by decide +kernel
theorem dX7_enter_68 : decode cX7_enter 68 = .ok (.iload_n 2, 1) := by decide +kernel
theorem dX7_enter_69 : decode cX7_enter 69 = .ok (.ireturn, 1) := by decide +kernel
theorem dX7_user_0 : decode cX7_user 0 = .ok (.iload_n 1, 1) := by decide +kernel
theorem dX7_user_1 : decode cX7_user 1 = .ok (.ifCond .lt 8, 3) := by decide +kernel
theorem dX7_user_4 : decode cX7_user 4 = .ok (.iload_n 1, 1) := by decide +kernel
theorem dX7_user_5 : decode cX7_user 5 = .ok (.iconst 4, 1) := by decide +kernel
theorem dX7_user_6 : decode cX7_user 6 = .ok (.if_icmp .lt 5, 3) := by decide +kernel
theorem dX7_user_9 : decode cX7_user 9 = .ok (.iconst 0, 1) := by decide +kernel
theorem dX7_user_10 : decode cX7_user 10 = .ok (.ireturn, 1) := by decide +kernel
theorem dX7_user_11 : decode cX7_user 11 = .ok (.aload_n 0, 1) := by decide +kernel
theorem dX7_user_12 : decode cX7_user 12 = .ok (.getfield 52, 3) := by decide +kernel
theorem dX7_user_15 : decode cX7_user 15 = .ok (.iload_n 1, 1) := by decide +kernel
theorem dX7_user_16 : decode cX7_user 16 = .ok (.putfield 118, 3) := by decide +kernel
theorem dX7_user_19 : decode cX7_user 19 = .ok (.iconst 1, 1) := by decide +kernel
theorem dX7_user_20 : decode cX7_user 20 = .ok (.ireturn, 1) := by decide +kernel
theorem dX7_change_0 : decode cX7_change 0 = .ok (.iload_n 1, 1) := by decide +kernel
theorem dX7_change_1 : decode cX7_change 1 = .ok (.invokestatic 143, 3) := by decide +kernel
theorem dX7_change_4 : decode cX7_change 4 = .ok (.ifCond .ne 6, 3) := by decide +kernel
theorem dX7_change_7 : decode cX7_change 7 = .ok (.bipush (-11), 2) := by decide +kernel
theorem dX7_change_9 : decode cX7_change 9 = .ok (.ireturn, 1) := by decide +kernel
theorem dX7_change_10 : decode cX7_change 10 = .ok (.aload_n 0, 1) := by decide +kernel
theorem dX7_change_11 : decode cX7_change 11 = .ok (.getfield 61, 3) := by decide +kernel
theorem dX7_change_14 : decode cX7_change 14 = .ok (.aload_n 0, 1) := by decide +kernel
theorem dX7_change_15 : decode cX7_change 15 = .ok (.getfield 10, 3) := by decide +kernel
theorem dX7_change_18 : decode cX7_change 18 = .ok (.iconst 1, 1) := by decide +kernel
theorem dX7_change_19 : decode cX7_change 19 = .ok (.invokevirtual 96, 3) := by decide +kernel
theorem dX7_change_22 : decode cX7_change 22 = .ok (.istore_n 2, 1) := by decide +kernel
theorem dX7_change_23 : decode cX7_change 23 = .ok (.iload_n 2, 1) := by decide +kernel
theorem dX7_change_24 : decode cX7_change 24 = .ok (.ifCond .ge 5, 3) := by decide +kernel
theorem dX7_change_27 : decode cX7_change 27 = .ok (.iload_n 2, 1) := by decide +kernel
theorem dX7_change_28 : decode cX7_change 28 = .ok (.ireturn, 1) := by decide +kernel
theorem dX7_change_29 : decode cX7_change 29 = .ok (.aload_n 0, 1) := by decide +kernel
theorem dX7_change_30 : decode cX7_change 30 = .ok (.getfield 52, 3) := by decide +kernel
theorem dX7_change_33 : decode cX7_change 33 = .ok (.getfield 118, 3) := by decide +kernel
theorem dX7_change_36 : decode cX7_change 36 = .ok (.ifCond .eq 24, 3) := by decide +kernel
theorem dX7_change_39 : decode cX7_change 39 = .ok (.aload_n 0, 1) := by decide +kernel
theorem dX7_change_40 : decode cX7_change 40 = .ok (.getfield 52, 3) := by decide +kernel
theorem dX7_change_43 : decode cX7_change 43 = .ok (.getfield 118, 3) := by decide +kernel
theorem dX7_change_46 : decode cX7_change 46 = .ok (.aload_n 0, 1) := by decide +kernel
theorem dX7_change_47 : decode cX7_change 47 = .ok (.getfield 29, 3) := by decide +kernel
theorem dX7_change_50 : decode cX7_change 50 = .ok (.iload_n 2, 1) := by decide +kernel
theorem dX7_change_51 : decode cX7_change 51 = .ok (.invokevirtual 223, 3) := by decide +kernel
theorem dX7_change_54 : decode cX7_change 54 = .ok (.if_icmp .eq 6, 3) := by decide +kernel
theorem dX7_change_57 : decode cX7_change 57 = .ok (.bipush (-3), 2) := by decide +kernel
theorem dX7_change_59 : decode cX7_change 59 = .ok (.ireturn, 1) := by decide +kernel
theorem dX7_change_60 : decode cX7_change 60 = .ok (.aload_n 0, 1) := by decide +kernel
theorem dX7_change_61 : decode cX7_change 61 = .ok (.getfield 29, 3) := by decide +kernel
theorem dX7_change_64 : decode cX7_change 64 = .ok (.iload_n 2, 1) := by decide +kernel
theorem dX7_change_65 : decode cX7_change 65 = .ok (.invokevirtual 226, 3) := by decide +kernel
theorem dX7_change_68 : decode cX7_change 68 = .ok (.istore_n 3, 1) := by decide +kernel
theorem dX7_change_69 : decode cX7_change 69 = .ok (.aload_n 0, 1) := by decide +kernel
theorem dX7_change_70 : decode cX7_change 70 = .ok (.getfield 29, 3) := by decide +kernel
theorem dX7_change_73 : decode cX7_change 73 = .ok (.iload_n 2, 1) := by decide +kernel
theorem dX7_change_74 : decode cX7_change 74 = .ok (.iload_n 1, 1) := by decide +kernel
theorem dX7_change_75 : decode cX7_change 75 = .ok (.invokevirtual 229, 3) := by decide +kernel
theorem dX7_change_78 : decode cX7_change 78 = .ok (.iload_n 3, 1) := by decide +kernel
theorem dX7_change_79 : decode cX7_change 79 = .ok (.ireturn, 1) := by decide +kernel
theorem dX7_path_0 : decode cX7_path 0 = .ok (.aload_n 0, 1) := by decide +kernel
theorem dX7_path_1 : decode cX7_path 1 = .ok (.getfield 22, 3) := by decide +kernel
theorem dX7_path_4 : decode cX7_path 4 = .ok (.invokevirtual 232, 3) := by decide +kernel
theorem dX7_path_7 : decode cX7_path 7 = .ok (.aload_n 0, 1) := by decide +kernel
theorem dX7_path_8 : decode cX7_path 8 = .ok (.getfield 52, 3) := by decide +kernel
theorem dX7_path_11 : decode cX7_path 11 = .ok (.getfield 191, 3) := by decide +kernel
theorem dX7_path_14 : decode cX7_path 14 = .ok (.istore_n 1, 1) := by decide +kernel
theorem dX7_path_15 : decode cX7_path 15 = .ok (.iconst 0, 1) := by decide +kernel
theorem dX7_path_16 : decode cX7_path 16 = .ok (.istore_n 2, 1) := by decide +kernel
theorem dX7_path_17 : decode cX7_path 17 = .ok (.iload_n 2, 1) := by decide +kernel
theorem dX7_path_18 : decode cX7_path 18 = .ok (.bipush 40, 2) := by decide +kernel
theorem dX7_path_20 : decode cX7_path 20 = .ok (.if_icmp .ge 73, 3) := by decide +kernel
theorem dX7_path_23 : decode cX7_path 23 = .ok (.iload_n 1, 1) := by decide +kernel
theorem dX7_path_24 : decode cX7_path 24 = .ok (.aload_n 0, 1) := by decide +kernel
theorem dX7_path_25 : decode cX7_path 25 = .ok (.getfield 52, 3) := by decide +kernel
theorem dX7_path_28 : decode cX7_path 28 = .ok (.getfield 188, 3) := by decide +kernel
theorem dX7_path_31 : decode cX7_path 31 = .ok (.if_icmp .eq 62, 3) := by decide +kernel
theorem dX7_path_34 : decode cX7_path 34 = .ok (.aload_n 0, 1) := by decide +kernel
theorem dX7_path_35 : decode cX7_path 35 = .ok (.getfield 22, 3) := by decide +kernel
theorem dX7_path_38 : decode cX7_path 38 = .ok (.aload_n 0, 1) := by decide +kernel
theorem dX7_path_39 : decode cX7_path 39 = .ok (.getfield 36, 3) := by decide +kernel
theorem dX7_path_42 : decode cX7_path 42 = .ok (.aload_n 0, 1) := by decide +kernel
theorem dX7_path_43 : decode cX7_path 43 = .ok (.getfield 45, 3) := by decide +kernel
theorem dX7_path_46 : decode cX7_path 46 = .ok (.iload_n 1, 1) := by decide +kernel
theorem dX7_path_47 : decode cX7_path 47 = .ok (.invokevirtual 233, 3) := by decide +kernel
theorem dX7_path_50 : decode cX7_path 50 = .ok (.invokevirtual 236, 3) := by decide +kernel
theorem dX7_path_53 : decode cX7_path 53 = .ok (.invokevirtual 240, 3) := by decide +kernel
theorem dX7_path_56 : decode cX7_path 56 = .ok (.aload_n 0, 1) := by decide +kernel
theorem dX7_path_57 : decode cX7_path 57 = .ok (.getfield 22, 3) := by decide +kernel
theorem dX7_path_60 : decode cX7_path 60 = .ok (.invokevirtual 244, 3) := by decide +kernel
theorem dX7_path_63 : decode cX7_path 63 = .ok (.bipush 40, 2) := by decide +kernel
theorem dX7_path_65 : decode cX7_path 65 = .ok (.if_icmp .le 6, 3) := by decide +kernel
theorem dX7_path_68 : decode cX7_path 68 = .ok (.bipush (-5), 2) := by decide +kernel
theorem dX7_path_70 : decode cX7_path 70 = .ok (.ireturn, 1) := by decide +kernel
theorem dX7_path_71 : decode cX7_path 71 = .ok (.aload_n 0, 1) := by decide +kernel
theorem dX7_path_72 : decode cX7_path 72 = .ok (.getfield 45, 3) := by decide +kernel
theorem dX7_path_75 : decode cX7_path 75 = .ok (.iload_n 1, 1) := by decide +kernel
theorem dX7_path_76 : decode cX7_path 76 = .ok (.aload_n 0, 1) := by decide +kernel
theorem dX7_path_77 : decode cX7_path 77 = .ok (.getfield 52, 3) := by decide +kernel
theorem dX7_path_80 : decode cX7_path 80 = .ok (.getfield 188, 3) := by decide +kernel
theorem dX7_path_83 : decode cX7_path 83 = .ok (.invokevirtual 210, 3) := by decide +kernel
theorem dX7_path_86 : decode cX7_path 86 = .ok (.istore_n 1, 1) := by decide +kernel
theorem dX7_path_87 : decode cX7_path 87 = .ok (.iinc 2 1, 3) := by decide +kernel
theorem dX7_path_90 : decode cX7_path 90 = .ok (.goto (-73), 3) := by decide +kernel
theorem dX7_path_93 : decode cX7_path 93 = .ok (.aload_n 0, 1) := by decide +kernel
theorem dX7_path_94 : decode cX7_path 94 = .ok (.getfield 22, 3) := by decide +kernel
theorem dX7_path_97 : decode cX7_path 97 = .ok (.invokevirtual 245, 3) := by decide +kernel
theorem dX7_path_100 : decode cX7_path 100 = .ok (.ifCond .eq 12, 3) := by decide +kernel
theorem dX7_path_103 : decode cX7_path 103 = .ok (.aload_n 0, 1) := by decide +kernel
theorem dX7_path_104 : decode cX7_path 104 = .ok (.getfield 22, 3) := by decide +kernel
theorem dX7_path_107 : decode cX7_path 107 = .ok (.bipush 47, 2) := by decide +kernel
theorem dX7_path_109 : decode cX7_path 109 = .ok (.invokevirtual 246, 3) := by decide +kernel
theorem dX7_path_112 : decode cX7_path 112 = .ok (.aload_n 0, 1) := by decide +kernel
theorem dX7_path_113 : decode cX7_path 113 = .ok (.getfield 10, 3) := by decide +kernel
theorem dX7_path_116 : decode cX7_path 116 = .ok (.invokevirtual 81, 3) := by decide +kernel
theorem dX7_path_119 : decode cX7_path 119 = .ok (.iconst 0, 1) := by decide +kernel
theorem dX7_path_120 : decode cX7_path 120 = .ok (.istore_n 2, 1) := by decide +kernel
theorem dX7_path_121 : decode cX7_path 121 = .ok (.iload_n 2, 1) := by decide +kernel
theorem dX7_path_122 : decode cX7_path 122 = .ok (.bipush 40, 2) := by decide +kernel
theorem dX7_path_124 : decode cX7_path 124 = .ok (.if_icmp .ge 33, 3) := by decide +kernel
theorem dX7_path_127 : decode cX7_path 127 = .ok (.aload_n 0, 1) := by decide +kernel
theorem dX7_path_128 : decode cX7_path 128 = .ok (.getfield 22, 3) := by decide +kernel
theorem dX7_path_131 : decode cX7_path 131 = .ok (.invokevirtual 245, 3) := by decide +kernel
theorem dX7_path_134 : decode cX7_path 134 = .ok (.ifCond .ne 23, 3) := by decide +kernel
theorem dX7_path_137 : decode cX7_path 137 = .ok (.aload_n 0, 1) := by decide +kernel
theorem dX7_path_138 : decode cX7_path 138 = .ok (.getfield 10, 3) := by decide +kernel
theorem dX7_path_141 : decode cX7_path 141 = .ok (.aload_n 0, 1) := by decide +kernel
theorem dX7_path_142 : decode cX7_path 142 = .ok (.getfield 22, 3) := by decide +kernel
theorem dX7_path_145 : decode cX7_path 145 = .ok (.invokevirtual 249, 3) := by decide +kernel
theorem dX7_path_148 : decode cX7_path 148 = .ok (.invokevirtual 77, 3) := by decide +kernel
theorem dX7_path_151 : decode cX7_path 151 = .ok (.iinc 2 1, 3) := by decide +kernel
theorem dX7_path_154 : decode cX7_path 154 = .ok (.goto (-33), 3) := by decide +kernel
theorem dX7_path_157 : decode cX7_path 157 = .ok (.aload_n 0, 1) := by decide +kernel
theorem dX7_path_158 : decode cX7_path 158 = .ok (.getfield 10, 3) := by decide +kernel
theorem dX7_path_161 : decode cX7_path 161 = .ok (.invokevirtual 88, 3) := by decide +kernel
theorem dX7_path_164 : decode cX7_path 164 = .ok (.ireturn, 1) := by decide +kernel
theorem dX7_kind_0 : decode cX7_kind 0 = .ok (.iload_n 1, 1) := by decide +kernel
theorem dX7_kind_1 : decode cX7_kind 1 = .ok (.ifCond .lt 20, 3) := by decide +kernel
theorem dX7_kind_4 : decode cX7_kind 4 = .ok (.iload_n 1, 1) := by decide +kernel
theorem dX7_kind_5 : decode cX7_kind 5 = .ok (.bipush 40, 2) := by decide +kernel
theorem dX7_kind_7 : decode cX7_kind 7 = .ok (.if_icmp .ge 14, 3) := by decide +kernel
theorem dX7_kind_10 : decode cX7_kind 10 = .ok (.aload_n 0, 1) := by decide +kernel
theorem dX7_kind_11 : decode cX7_kind 11 = .ok (.getfield 29, 3) := by decide +kernel
theorem dX7_kind_14 : decode cX7_kind 14 = .ok (.iload_n 1, 1) := by decide +kernel
theorem dX7_kind_15 : decode cX7_kind 15 = .ok (.invokevirtual 253, 3) := by decide +kernel
theorem dX7_kind_18 : decode cX7_kind 18 = .ok (.goto 4, 3) := by decide +kernel
theorem dX7_kind_21 : decode cX7_kind 21 = .ok (.iconst 0, 1) := by decide +kernel
theorem dX7_kind_22 : decode cX7_kind 22 = .ok (.ireturn, 1) := by decide +kernel
theorem dX7_about_0 : decode cX7_about 0 = .ok (.aload_n 0, 1) := by decide +kernel
theorem dX7_about_1 : decode cX7_about 1 = .ok (.iload_n 1, 1) := by decide +kernel
theorem dX7_about_2 : decode cX7_about 2 = .ok (.invokevirtual 256, 3) := by decide +kernel
theorem dX7_about_5 : decode cX7_about 5 = .ok (.ifCond .ne 6, 3) := by decide +kernel
theorem dX7_about_8 : decode cX7_about 8 = .ok (.bipush (-11), 2) := by decide +kernel
theorem dX7_about_10 : decode cX7_about 10 = .ok (.ireturn, 1) := by decide +kernel
theorem dX7_about_11 : decode cX7_about 11 = .ok (.iload_n 2, 1) := by decide +kernel
theorem dX7_about_12 : decode cX7_about 12 = .ok (.tableswitch 94 0 5 #[40, 49, 58, 67, 76, 85], 40) := by decide +kernel
theorem dX7_about_52 : decode cX7_about 52 = .ok (.aload_n 0, 1) := by decide +kernel
theorem dX7_about_53 : decode cX7_about 53 = .ok (.getfield 29, 3) := by decide +kernel
theorem dX7_about_56 : decode cX7_about 56 = .ok (.iload_n 1, 1) := by decide +kernel
theorem dX7_about_57 : decode cX7_about 57 = .ok (.invokevirtual 226, 3) := by decide +kernel
theorem dX7_about_60 : decode cX7_about 60 = .ok (.ireturn, 1) := by decide +kernel
theorem dX7_about_61 : decode cX7_about 61 = .ok (.aload_n 0, 1) := by decide +kernel
theorem dX7_about_62 : decode cX7_about 62 = .ok (.getfield 29, 3) := by decide +kernel
theorem dX7_about_65 : decode cX7_about 65 = .ok (.iload_n 1, 1) := by decide +kernel
theorem dX7_about_66 : decode cX7_about 66 = .ok (.invokevirtual 223, 3) := by decide +kernel
theorem dX7_about_69 : decode cX7_about 69 = .ok (.ireturn, 1) := by decide +kernel
theorem dX7_about_70 : decode cX7_about 70 = .ok (.aload_n 0, 1) := by decide +kernel
theorem dX7_about_71 : decode cX7_about 71 = .ok (.getfield 29, 3) := by decide +kernel
theorem dX7_about_74 : decode cX7_about 74 = .ok (.iload_n 1, 1) := by decide +kernel
theorem dX7_about_75 : decode cX7_about 75 = .ok (.invokevirtual 122, 3) := by decide +kernel
theorem dX7_about_78 : decode cX7_about 78 = .ok (.ireturn, 1) := by decide +kernel
theorem dX7_about_79 : decode cX7_about 79 = .ok (.aload_n 0, 1) := by decide +kernel
theorem dX7_about_80 : decode cX7_about 80 = .ok (.getfield 36, 3) := by decide +kernel
theorem dX7_about_83 : decode cX7_about 83 = .ok (.iload_n 1, 1) := by decide +kernel
theorem dX7_about_84 : decode cX7_about 84 = .ok (.invokevirtual 179, 3) := by decide +kernel
theorem dX7_about_87 : decode cX7_about 87 = .ok (.ireturn, 1) := by decide +kernel
theorem dX7_about_88 : decode cX7_about 88 = .ok (.aload_n 0, 1) := by decide +kernel
theorem dX7_about_89 : decode cX7_about 89 = .ok (.getfield 36, 3) := by decide +kernel
theorem dX7_about_92 : decode cX7_about 92 = .ok (.iload_n 1, 1) := by decide +kernel
theorem dX7_about_93 : decode cX7_about 93 = .ok (.invokevirtual 194, 3) := by decide +kernel
theorem dX7_about_96 : decode cX7_about 96 = .ok (.ireturn, 1) := by decide +kernel
theorem dX7_about_97 : decode cX7_about 97 = .ok (.aload_n 0, 1) := by decide +kernel
theorem dX7_about_98 : decode cX7_about 98 = .ok (.getfield 45, 3) := by decide +kernel
theorem dX7_about_101 : decode cX7_about 101 = .ok (.iload_n 1, 1) := by decide +kernel
theorem dX7_about_102 : decode cX7_about 102 = .ok (.invokevirtual 185, 3) := by decide +kernel
theorem dX7_about_105 : decode cX7_about 105 = .ok (.ireturn, 1) := by decide +kernel
theorem dX7_about_106 : decode cX7_about 106 = .ok (.bipush (-11), 2) := by decide +kernel
theorem dX7_about_108 : decode cX7_about 108 = .ok (.ireturn, 1) := by decide +kernel
theorem dX7_entry_0 : decode cX7_entry 0 = .ok (.aload_n 0, 1) := by decide +kernel
theorem dX7_entry_1 : decode cX7_entry 1 = .ok (.getfield 36, 3) := by decide +kernel
theorem dX7_entry_4 : decode cX7_entry 4 = .ok (.iload_n 1, 1) := by decide +kernel
theorem dX7_entry_5 : decode cX7_entry 5 = .ok (.iload_n 2, 1) := by decide +kernel
theorem dX7_entry_6 : decode cX7_entry 6 = .ok (.invokevirtual 259, 3) := by decide +kernel
theorem dX7_entry_9 : decode cX7_entry 9 = .ok (.istore_n 3, 1) := by decide +kernel
theorem dX7_entry_10 : decode cX7_entry 10 = .ok (.iload_n 3, 1) := by decide +kernel
theorem dX7_entry_11 : decode cX7_entry 11 = .ok (.iconst (-1), 1) := by decide +kernel
theorem dX7_entry_12 : decode cX7_entry 12 = .ok (.if_icmp .ne 7, 3) := by decide +kernel
theorem dX7_entry_15 : decode cX7_entry 15 = .ok (.iconst (-1), 1) := by decide +kernel
theorem dX7_entry_16 : decode cX7_entry 16 = .ok (.goto 11, 3) := by decide +kernel
theorem dX7_entry_19 : decode cX7_entry 19 = .ok (.aload_n 0, 1) := by decide +kernel
theorem dX7_entry_20 : decode cX7_entry 20 = .ok (.getfield 36, 3) := by decide +kernel
theorem dX7_entry_23 : decode cX7_entry 23 = .ok (.iload_n 3, 1) := by decide +kernel
theorem dX7_entry_24 : decode cX7_entry 24 = .ok (.invokevirtual 169, 3) := by decide +kernel
theorem dX7_entry_27 : decode cX7_entry 27 = .ok (.ireturn, 1) := by decide +kernel
theorem dX8_init_0 : decode cX8_init 0 = .ok (.aload_n 0, 1) := by decide +kernel
theorem dX8_init_1 : decode cX8_init 1 = .ok (.invokespecial 1, 3) := by decide +kernel
theorem dX8_init_4 : decode cX8_init 4 = .ok (.aload_n 0, 1) := by decide +kernel
theorem dX8_init_5 : decode cX8_init 5 = .ok (.bipush 40, 2) := by decide +kernel
theorem dX8_init_7 : decode cX8_init 7 = .ok (.newarray .int, 2) := by decide +kernel
theorem dX8_init_9 : decode cX8_init 9 = .ok (.putfield 7, 3) := by decide +kernel
theorem dX8_init_12 : decode cX8_init 12 = .ok (.aload_n 0, 1) := by decide +kernel
theorem dX8_init_13 : decode cX8_init 13 = .ok (.bipush 40, 2) := by decide +kernel
theorem dX8_init_15 : decode cX8_init 15 = .ok (.newarray .int, 2) := by decide +kernel
theorem dX8_init_17 : decode cX8_init 17 = .ok (.putfield 13, 3) := by decide +kernel
theorem dX8_init_20 : decode cX8_init 20 = .ok (.aload_n 0, 1) := by decide +kernel
theorem dX8_init_21 : decode cX8_init 21 = .ok (.bipush 40, 2) := by decide +kernel
theorem dX8_init_23 : decode cX8_init 23 = .ok (.newarray .int, 2) := by decide +kernel
theorem dX8_init_25 : decode cX8_init 25 = .ok (.putfield 16, 3) := by decide +kernel
theorem dX8_init_28 : decode cX8_init 28 = .ok (.aload_n 0, 1) := by decide +kernel
theorem dX8_init_29 : decode cX8_init 29 = .ok (.bipush 40, 2) := by decide +kernel
theorem dX8_init_31 : decode cX8_init 31 = .ok (.newarray .int, 2) := by decide +kernel
theorem dX8_init_33 : decode cX8_init 33 = .ok (.putfield 19, 3) := by decide +kernel
theorem dX8_init_36 : decode cX8_init 36 = .ok (.aload_n 0, 1) := by decide +kernel
theorem dX8_init_37 : decode cX8_init 37 = .ok (.bipush 40, 2) := by decide +kernel
theorem dX8_init_39 : decode cX8_init 39 = .ok (.newarray .int, 2) := by decide +kernel
theorem dX8_init_41 : decode cX8_init 41 = .ok (.putfield 22, 3) := by decide +kernel
theorem dX8_init_44 : decode cX8_init 44 = .ok (.aload_n 0, 1) := by decide +kernel
theorem dX8_init_45 : decode cX8_init 45 = .ok (.sipush 1600, 3) := by decide +kernel
theorem dX8_init_48 : decode cX8_init 48 = .ok (.newarray .int, 2) := by decide +kernel
theorem dX8_init_50 : decode cX8_init 50 = .ok (.putfield 25, 3) := by decide +kernel
theorem dX8_init_53 : decode cX8_init 53 = .ok (.aload_n 0, 1) := by decide +kernel
theorem dX8_init_54 : decode cX8_init 54 = .ok (.bipush 40, 2) := by decide +kernel
theorem dX8_init_56 : decode cX8_init 56 = .ok (.newarray .int, 2) := by decide +kernel
theorem dX8_init_58 : decode cX8_init 58 = .ok (.putfield 28, 3) := by decide +kernel
theorem dX8_init_61 : decode cX8_init 61 = .ok (.aload_n 0, 1) := by decide +kernel
theorem dX8_init_62 : decode cX8_init 62 = .ok (.bipush 80, 2) := by decide +kernel
theorem dX8_init_64 : decode cX8_init 64 = .ok (.newarray .int, 2) := by decide +kernel
theorem dX8_init_66 : decode cX8_init 66 = .ok (.putfield 31, 3) := by decide +kernel
theorem dX8_init_69 : decode cX8_init 69 = .ok (.aload_n 0, 1) := by decide +kernel
theorem dX8_init_70 : decode cX8_init 70 = .ok (.bipush 80, 2) := by decide +kernel
theorem dX8_init_72 : decode cX8_init 72 = .ok (.newarray .long, 2) := by decide +kernel
theorem dX8_init_74 : decode cX8_init 74 = .ok (.putfield 34, 3) := by decide +kernel
theorem dX8_init_77 : decode cX8_init 77 = .ok (.aload_n 0, 1) := by decide +kernel
theorem dX8_init_78 : decode cX8_init 78 = .ok (.bipush 80, 2) := by decide +kernel
theorem dX8_init_80 : decode cX8_init 80 = .ok (.newarray .int, 2) := by decide +kernel
theorem dX8_init_82 : decode cX8_init 82 = .ok (.putfield 38, 3) := by decide +kernel
theorem dX8_init_85 : decode cX8_init 85 = .ok (.aload_n 0, 1) := by decide +kernel
theorem dX8_init_86 : decode cX8_init 86 = .ok (.iconst 1, 1) := by decide +kernel
theorem dX8_init_87 : decode cX8_init 87 = .ok (.putfield 41, 3) := by decide +kernel
theorem dX8_init_90 : decode cX8_init 90 = .ok (.aload_n 0, 1) := by decide +kernel
theorem dX8_init_91 : decode cX8_init 91 = .ok (.iconst 4, 1) := by decide +kernel
theorem dX8_init_92 : decode cX8_init 92 = .ok (.newarray .int, 2) := by decide +kernel
theorem dX8_init_94 : decode cX8_init 94 = .ok (.putfield 45, 3) := by decide +kernel
theorem dX8_init_97 : decode cX8_init 97 = .ok (.aload_n 0, 1) := by decide +kernel
theorem dX8_init_98 : decode cX8_init 98 = .ok (.iconst 4, 1) := by decide +kernel
theorem dX8_init_99 : decode cX8_init 99 = .ok (.newarray .int, 2) := by decide +kernel
theorem dX8_init_101 : decode cX8_init 101 = .ok (.putfield 48, 3) := by decide +kernel
theorem dX8_init_104 : decode cX8_init 104 = .ok (.aload_n 0, 1) := by decide +kernel
theorem dX8_init_105 : decode cX8_init 105 = .ok (.bipush 40, 2) := by decide +kernel
theorem dX8_init_107 : decode cX8_init 107 = .ok (.newarray .int, 2) := by decide +kernel
theorem dX8_init_109 : decode cX8_init 109 = .ok (.putfield 51, 3) := by decide +kernel
theorem dX8_init_112 : decode cX8_init 112 = .ok (.aload_n 0, 1) := by decide +kernel
theorem dX8_init_113 : decode cX8_init 113 = .ok (.bipush 40, 2) := by decide +kernel
theorem dX8_init_115 : decode cX8_init 115 = .ok (.newarray .int, 2) := by decide +kernel
theorem dX8_init_117 : decode cX8_init 117 = .ok (.putfield 54, 3) := by decide +kernel
theorem dX8_init_120 : decode cX8_init 120 = .ok (.aload_n 0, 1) := by decide +kernel
theorem dX8_init_121 : decode cX8_init 121 = .ok (.bipush 100, 2) := by decide +kernel
theorem dX8_init_123 : decode cX8_init 123 = .ok (.newarray .int, 2) := by decide +kernel
theorem dX8_init_125 : decode cX8_init 125 = .ok (.putfield 57, 3) := by decide +kernel
theorem dX8_init_128 : decode cX8_init 128 = .ok (.aload_n 0, 1) := by decide +kernel
theorem dX8_init_129 : decode cX8_init 129 = .ok (.getfield 7, 3) := by decide +kernel
theorem dX8_init_132 : decode cX8_init 132 = .ok (.iconst 0, 1) := by decide +kernel
theorem dX8_init_133 : decode cX8_init 133 = .ok (.iconst 1, 1) := by decide +kernel
theorem dX8_init_134 : decode cX8_init 134 = .ok (.iastore, 1) := by decide +kernel
theorem dX8_init_135 : decode cX8_init 135 = .ok (.aload_n 0, 1) := by decide +kernel
theorem dX8_init_136 : decode cX8_init 136 = .ok (.getfield 13, 3) := by decide +kernel
theorem dX8_init_139 : decode cX8_init 139 = .ok (.iconst 0, 1) := by decide +kernel
theorem dX8_init_140 : decode cX8_init 140 = .ok (.bipush 15, 2) := by decide +kernel
theorem dX8_init_142 : decode cX8_init 142 = .ok (.iastore, 1) := by decide +kernel
theorem dX8_init_143 : decode cX8_init 143 = .ok (.iconst 0, 1) := by decide +kernel
theorem dX8_init_144 : decode cX8_init 144 = .ok (.istore_n 1, 1) := by decide +kernel
theorem dX8_init_145 : decode cX8_init 145 = .ok (.iload_n 1, 1) := by decide +kernel
theorem dX8_init_146 : decode cX8_init 146 = .ok (.iconst 4, 1) := by decide +kernel
theorem dX8_init_147 : decode cX8_init 147 = .ok (.if_icmp .ge 16, 3) := by decide +kernel
theorem dX8_init_150 : decode cX8_init 150 = .ok (.aload_n 0, 1) := by decide +kernel
theorem dX8_init_151 : decode cX8_init 151 = .ok (.getfield 48, 3) := by decide +kernel
theorem dX8_init_154 : decode cX8_init 154 = .ok (.iload_n 1, 1) := by decide +kernel
theorem dX8_init_155 : decode cX8_init 155 = .ok (.iconst (-1), 1) := by decide +kernel
theorem dX8_init_156 : decode cX8_init 156 = .ok (.iastore, 1) := by decide +kernel
theorem dX8_init_157 : decode cX8_init 157 = .ok (.iinc 1 1, 3) := by decide +kernel
theorem dX8_init_160 : decode cX8_init 160 = .ok (.goto (-15), 3) := by decide +kernel
theorem dX8_init_163 : decode cX8_init 163 = .ok (.return_, 1) := by decide +kernel
theorem dX8_type_0 : decode cX8_type 0 = .ok (.iconst 0, 1) := by decide +kernel
theorem dX8_type_1 : decode cX8_type 1 = .ok (.istore_n 2, 1) := by decide +kernel
theorem dX8_type_2 : decode cX8_type 2 = .ok (.iconst 3, 1) := by decide +kernel
theorem dX8_type_3 : decode cX8_type 3 = .ok (.istore_n 3, 1) := by decide +kernel
theorem dX8_type_4 : decode cX8_type 4 = .ok (.iload_n 3, 1) := by decide +kernel
theorem dX8_type_5 : decode cX8_type 5 = .ok (.ifCond .lt 55, 3) := by decide +kernel
theorem dX8_type_8 : decode cX8_type 8 = .ok (.iload_n 1, 1) := by decide +kernel
theorem dX8_type_9 : decode cX8_type 9 = .ok (.bipush 8, 2) := by decide +kernel
theorem dX8_type_11 : decode cX8_type 11 = .ok (.iload_n 3, 1) := by decide +kernel
theorem dX8_type_12 : decode cX8_type 12 = .ok (.imul, 1) := by decide +kernel
theorem dX8_type_13 : decode cX8_type 13 = .ok (.ishr, 1) := by decide +kernel
theorem dX8_type_14 : decode cX8_type 14 = .ok (.sipush 255, 3) := by decide +kernel
theorem dX8_type_17 : decode cX8_type 17 = .ok (.iand, 1) := by decide +kernel
theorem dX8_type_18 : decode cX8_type 18 = .ok (.istore 4, 2) := by decide +kernel
theorem dX8_type_20 : decode cX8_type 20 = .ok (.iload 4, 2) := by decide +kernel
theorem dX8_type_22 : decode cX8_type 22 = .ok (.ifCond .eq 19, 3) := by decide +kernel
theorem dX8_type_25 : decode cX8_type 25 = .ok (.iload 4, 2) := by decide +kernel
theorem dX8_type_27 : decode cX8_type 27 = .ok (.bipush 33, 2) := by decide +kernel
theorem dX8_type_29 : decode cX8_type 29 = .ok (.if_icmp .lt 10, 3) := by decide +kernel
theorem dX8_type_32 : decode cX8_type 32 = .ok (.iload 4, 2) := by decide +kernel
theorem dX8_type_34 : decode cX8_type 34 = .ok (.bipush 126, 2) := by decide +kernel
theorem dX8_type_36 : decode cX8_type 36 = .ok (.if_icmp .le 5, 3) := by decide +kernel
theorem dX8_type_39 : decode cX8_type 39 = .ok (.iconst 0, 1) := by decide +kernel
theorem dX8_type_40 : decode cX8_type 40 = .ok (.ireturn, 1) := by decide +kernel
theorem dX8_type_41 : decode cX8_type 41 = .ok (.iload 4, 2) := by decide +kernel
theorem dX8_type_43 : decode cX8_type 43 = .ok (.ifCond .eq 9, 3) := by decide +kernel
theorem dX8_type_46 : decode cX8_type 46 = .ok (.iload_n 2, 1) := by decide +kernel
theorem dX8_type_47 : decode cX8_type 47 = .ok (.iconst 1, 1) := by decide +kernel
theorem dX8_type_48 : decode cX8_type 48 = .ok (.iadd, 1) := by decide +kernel
theorem dX8_type_49 : decode cX8_type 49 = .ok (.goto 4, 3) := by decide +kernel
theorem dX8_type_52 : decode cX8_type 52 = .ok (.iload_n 2, 1) := by decide +kernel
theorem dX8_type_53 : decode cX8_type 53 = .ok (.istore_n 2, 1) := by decide +kernel
theorem dX8_type_54 : decode cX8_type 54 = .ok (.iinc 3 (-1), 3) := by decide +kernel
theorem dX8_type_57 : decode cX8_type 57 = .ok (.goto (-53), 3) := by decide +kernel
theorem dX8_type_60 : decode cX8_type 60 = .ok (.aload_n 0, 1) := by decide +kernel
theorem dX8_type_61 : decode cX8_type 61 = .ok (.getfield 60, 3) := by decide +kernel
theorem dX8_type_64 : decode cX8_type 64 = .ok (.iload_n 2, 1) := by decide +kernel
theorem dX8_type_65 : decode cX8_type 65 = .ok (.iadd, 1) := by decide +kernel
theorem dX8_type_66 : decode cX8_type 66 = .ok (.bipush 40, 2) := by decide +kernel
theorem dX8_type_68 : decode cX8_type 68 = .ok (.if_icmp .le 5, 3) := by decide +kernel
theorem dX8_type_71 : decode cX8_type 71 = .ok (.iconst 0, 1) := by decide +kernel
theorem dX8_type_72 : decode cX8_type 72 = .ok (.ireturn, 1) := by decide +kernel
theorem dX8_type_73 : decode cX8_type 73 = .ok (.iconst 3, 1) := by decide +kernel
theorem dX8_type_74 : decode cX8_type 74 = .ok (.istore_n 3, 1) := by decide +kernel
theorem dX8_type_75 : decode cX8_type 75 = .ok (.iload_n 3, 1) := by decide +kernel
theorem dX8_type_76 : decode cX8_type 76 = .ok (.ifCond .lt 47, 3) := by decide +kernel
theorem dX8_type_79 : decode cX8_type 79 = .ok (.iload_n 1, 1) := by decide +kernel
theorem dX8_type_80 : decode cX8_type 80 = .ok (.bipush 8, 2) := by decide +kernel
theorem dX8_type_82 : decode cX8_type 82 = .ok (.iload_n 3, 1) := by decide +kernel
theorem dX8_type_83 : decode cX8_type 83 = .ok (.imul, 1) := by decide +kernel
theorem dX8_type_84 : decode cX8_type 84 = .ok (.ishr, 1) := by decide +kernel
theorem dX8_type_85 : decode cX8_type 85 = .ok (.sipush 255, 3) := by decide +kernel
theorem dX8_type_88 : decode cX8_type 88 = .ok (.iand, 1) := by decide +kernel
theorem dX8_type_89 : decode cX8_type 89 = .ok (.istore 4, 2) := by decide +kernel
theorem dX8_type_91 : decode cX8_type 91 = .ok (.iload 4, 2) := by decide +kernel
theorem dX8_type_93 : decode cX8_type 93 = .ok (.ifCond .eq 24, 3) := by decide +kernel
theorem dX8_type_96 : decode cX8_type 96 = .ok (.aload_n 0, 1) := by decide +kernel
theorem dX8_type_97 : decode cX8_type 97 = .ok (.getfield 51, 3) := by decide +kernel
theorem dX8_type_100 : decode cX8_type 100 = .ok (.aload_n 0, 1) := by decide +kernel
theorem dX8_type_101 : decode cX8_type 101 = .ok (.getfield 60, 3) := by decide +kernel
theorem dX8_type_104 : decode cX8_type 104 = .ok (.iload 4, 2) := by decide +kernel
theorem dX8_type_106 : decode cX8_type 106 = .ok (.iastore, 1) := by decide +kernel
theorem dX8_type_107 : decode cX8_type 107 = .ok (.aload_n 0, 1) := by decide +kernel
theorem dX8_type_108 : decode cX8_type 108 = .ok (.aload_n 0, 1) := by decide +kernel
theorem dX8_type_109 : decode cX8_type 109 = .ok (.getfield 60, 3) := by decide +kernel
theorem dX8_type_112 : decode cX8_type 112 = .ok (.iconst 1, 1) := by decide +kernel
theorem dX8_type_113 : decode cX8_type 113 = .ok (.iadd, 1) := by decide +kernel
theorem dX8_type_114 : decode cX8_type 114 = .ok (.putfield 60, 3) := by decide +kernel
theorem dX8_type_117 : decode cX8_type 117 = .ok (.iinc 3 (-1), 3) := by decide +kernel
theorem dX8_type_120 : decode cX8_type 120 = .ok (.goto (-45), 3) := by decide +kernel
theorem dX8_type_123 : decode cX8_type 123 = .ok (.iconst 1, 1) := by decide +kernel
theorem dX8_type_124 : decode cX8_type 124 = .ok (.ireturn, 1) := by decide +kernel
theorem dX8_wipe_0 : decode cX8_wipe 0 = .ok (.aload_n 0, 1) := by decide +kernel
theorem dX8_wipe_1 : decode cX8_wipe 1 = .ok (.iconst 0, 1) := by decide +kernel
theorem dX8_wipe_2 : decode cX8_wipe 2 = .ok (.putfield 60, 3) := by decide +kernel
theorem dX8_wipe_5 : decode cX8_wipe 5 = .ok (.return_, 1) := by decide +kernel
theorem dX8_keep_0 : decode cX8_keep 0 = .ok (.aload_n 0, 1) := by decide +kernel
theorem dX8_keep_1 : decode cX8_keep 1 = .ok (.aload_n 0, 1) := by decide +kernel
theorem dX8_keep_2 : decode cX8_keep 2 = .ok (.getfield 60, 3) := by decide +kernel
theorem dX8_keep_5 : decode cX8_keep 5 = .ok (.putfield 63, 3) := by decide +kernel
theorem dX8_keep_8 : decode cX8_keep 8 = .ok (.iconst 0, 1) := by decide +kernel
theorem dX8_keep_9 : decode cX8_keep 9 = .ok (.istore_n 1, 1) := by decide +kernel
theorem dX8_keep_10 : decode cX8_keep 10 = .ok (.iload_n 1, 1) := by decide +kernel
theorem dX8_keep_11 : decode cX8_keep 11 = .ok (.aload_n 0, 1) := by decide +kernel
theorem dX8_keep_12 : decode cX8_keep 12 = .ok (.getfield 60, 3) := by decide +kernel
theorem dX8_keep_15 : decode cX8_keep 15 = .ok (.if_icmp .ge 21, 3) := by decide +kernel
theorem dX8_keep_18 : decode cX8_keep 18 = .ok (.aload_n 0, 1) := by decide +kernel
theorem dX8_keep_19 : decode cX8_keep 19 = .ok (.getfield 54, 3) := by decide +kernel
theorem dX8_keep_22 : decode cX8_keep 22 = .ok (.iload_n 1, 1) := by decide +kernel
theorem dX8_keep_23 : decode cX8_keep 23 = .ok (.aload_n 0, 1) := by decide +kernel
theorem dX8_keep_24 : decode cX8_keep 24 = .ok (.getfield 51, 3) := by decide +kernel
theorem dX8_keep_27 : decode cX8_keep 27 = .ok (.iload_n 1, 1) := by decide +kernel
theorem dX8_keep_28 : decode cX8_keep 28 = .ok (.iaload, 1) := by decide +kernel
theorem dX8_keep_29 : decode cX8_keep 29 = .ok (.iastore, 1) := by decide +kernel
theorem dX8_keep_30 : decode cX8_keep 30 = .ok (.iinc 1 1, 3) := by decide +kernel
theorem dX8_keep_33 : decode cX8_keep 33 = .ok (.goto (-23), 3) := by decide +kernel
theorem dX8_keep_36 : decode cX8_keep 36 = .ok (.return_, 1) := by decide +kernel
theorem dX8_length_0 : decode cX8_length 0 = .ok (.aload_n 0, 1) := by decide +kernel
theorem dX8_length_1 : decode cX8_length 1 = .ok (.getfield 60, 3) := by decide +kernel
theorem dX8_length_4 : decode cX8_length 4 = .ok (.ireturn, 1) := by decide +kernel
theorem dX8_at_0 : decode cX8_at 0 = .ok (.iload_n 1, 1) := by decide +kernel
theorem dX8_at_1 : decode cX8_at 1 = .ok (.ifCond .lt 11, 3) := by decide +kernel
theorem dX8_at_4 : decode cX8_at 4 = .ok (.iload_n 1, 1) := by decide +kernel
theorem dX8_at_5 : decode cX8_at 5 = .ok (.aload_n 0, 1) := by decide +kernel
theorem dX8_at_6 : decode cX8_at 6 = .ok (.getfield 60, 3) := by decide +kernel
theorem dX8_at_9 : decode cX8_at 9 = .ok (.if_icmp .lt 8, 3) := by decide +kernel
theorem dX8_at_12 : decode cX8_at 12 = .ok (.bipush (-11), 2) := by decide +kernel
theorem dX8_at_14 : decode cX8_at 14 = .ok (.goto 9, 3) := by decide +kernel
theorem dX8_at_17 : decode cX8_at 17 = .ok (.aload_n 0, 1) := by decide +kernel
theorem dX8_at_18 : decode cX8_at 18 = .ok (.getfield 51, 3) := by decide +kernel
theorem dX8_at_21 : decode cX8_at 21 = .ok (.iload_n 1, 1) := by decide +kernel
theorem dX8_at_22 : decode cX8_at 22 = .ok (.iaload, 1) := by decide +kernel
theorem dX8_at_23 : decode cX8_at 23 = .ok (.ireturn, 1) := by decide +kernel
theorem dX8_slashesAlone_0 : decode cX8_slashesAlone 0 = .ok (.aload_n 0, 1) := by decide +kernel
theorem dX8_slashesAlone_1 : decode cX8_slashesAlone 1 = .ok (.getfield 60, 3) := by decide +kernel
theorem dX8_slashesAlone_4 : decode cX8_slashesAlone 4 = .ok (.ifCond .le 7, 3) := by decide +kernel
theorem dX8_slashesAlone_7 : decode cX8_slashesAlone 7 = .ok (.iconst 1, 1) := by decide +kernel
theorem dX8_slashesAlone_8 : decode cX8_slashesAlone 8 = .ok (.goto 4, 3) := by decide +kernel
theorem dX8_slashesAlone_11 : decode cX8_slashesAlone 11 = .ok (.iconst 0, 1) := by decide +kernel
theorem dX8_slashesAlone_12 : decode cX8_slashesAlone 12 = .ok (.istore_n 1, 1) := by decide +kernel
theorem dX8_slashesAlone_13 : decode cX8_slashesAlone 13 = .ok (.iconst 0, 1) := by decide +kernel
theorem dX8_slashesAlone_14 : decode cX8_slashesAlone 14 = .ok (.istore_n 2, 1) := by decide +kernel
theorem dX8_slashesAlone_15 : decode cX8_slashesAlone 15 = .ok (.iload_n 2, 1) := by decide +kernel
theorem dX8_slashesAlone_16 : decode cX8_slashesAlone 16 = .ok (.aload_n 0, 1) := by decide +kernel
theorem dX8_slashesAlone_17 : decode cX8_slashesAlone 17 = .ok (.getfield 60, 3) := by decide +kernel
theorem dX8_slashesAlone_20 : decode cX8_slashesAlone 20 = .ok (.if_icmp .ge 30, 3) := by decide +kernel
theorem dX8_slashesAlone_23 : decode cX8_slashesAlone 23 = .ok (.iload_n 1, 1) := by decide +kernel
theorem dX8_slashesAlone_24 : decode cX8_slashesAlone 24 = .ok (.ifCond .eq 18, 3) := by decide +kernel
theorem dX8_slashesAlone_27 : decode cX8_slashesAlone 27 = .ok (.aload_n 0, 1) := by decide +kernel
theorem dX8_slashesAlone_28 : decode cX8_slashesAlone 28 = .ok (.getfield 51, 3) := by decide +kernel
theorem dX8_slashesAlone_31 : decode cX8_slashesAlone 31 = .ok (.iload_n 2, 1) := by decide +kernel
theorem dX8_slashesAlone_32 : decode cX8_slashesAlone 32 = .ok (.iaload, 1) := by decide +kernel
theorem dX8_slashesAlone_33 : decode cX8_slashesAlone 33 = .ok (.bipush 47, 2) := by decide +kernel
theorem dX8_slashesAlone_35 : decode cX8_slashesAlone 35 = .ok (.if_icmp .ne 7, 3) := by decide +kernel
theorem dX8_slashesAlone_38 : decode cX8_slashesAlone 38 = .ok (.iconst 1, 1) := by decide +kernel
theorem dX8_slashesAlone_39 : decode cX8_slashesAlone 39 = .ok (.goto 4, 3) := by decide +kernel
theorem dX8_slashesAlone_42 : decode cX8_slashesAlone 42 = .ok (.iconst 0, 1) := by decide +kernel
theorem dX8_slashesAlone_43 : decode cX8_slashesAlone 43 = .ok (.istore_n 1, 1) := by decide +kernel
theorem dX8_slashesAlone_44 : decode cX8_slashesAlone 44 = .ok (.iinc 2 1, 3) := by decide +kernel
theorem dX8_slashesAlone_47 : decode cX8_slashesAlone 47 = .ok (.goto (-32), 3) := by decide +kernel
theorem dX8_slashesAlone_50 : decode cX8_slashesAlone 50 = .ok (.iload_n 1, 1) := by decide +kernel
theorem dX8_slashesAlone_51 : decode cX8_slashesAlone 51 = .ok (.ireturn, 1) := by decide +kernel
theorem dX8_there_0 : decode cX8_there 0 = .ok (.iload_n 1, 1) := by decide +kernel
theorem dX8_there_1 : decode cX8_there 1 = .ok (.ifCond .lt 22, 3) := by decide +kernel
theorem dX8_there_4 : decode cX8_there 4 = .ok (.iload_n 1, 1) := by decide +kernel
theorem dX8_there_5 : decode cX8_there 5 = .ok (.bipush 40, 2) := by decide +kernel
theorem dX8_there_7 : decode cX8_there 7 = .ok (.if_icmp .ge 16, 3) := by decide +kernel
theorem dX8_there_10 : decode cX8_there 10 = .ok (.aload_n 0, 1) := by decide +kernel
theorem dX8_there_11 : decode cX8_there 11 = .ok (.getfield 7, 3) := by decide +kernel
theorem dX8_there_14 : decode cX8_there 14 = .ok (.iload_n 1, 1) := by decide +kernel
theorem dX8_there_15 : decode cX8_there 15 = .ok (.iaload, 1) := by decide +kernel
theorem dX8_there_16 : decode cX8_there 16 = .ok (.ifCond .eq 7, 3) := by decide +kernel
theorem dX8_there_19 : decode cX8_there 19 = .ok (.iconst 1, 1) := by decide +kernel
theorem dX8_there_20 : decode cX8_there 20 = .ok (.goto 4, 3) := by decide +kernel
theorem dX8_there_23 : decode cX8_there 23 = .ok (.iconst 0, 1) := by decide +kernel
theorem dX8_there_24 : decode cX8_there 24 = .ok (.ireturn, 1) := by decide +kernel
theorem dX8_freeObject_0 : decode cX8_freeObject 0 = .ok (.iconst 0, 1) := by decide +kernel
theorem dX8_freeObject_1 : decode cX8_freeObject 1 = .ok (.istore_n 1, 1) := by decide +kernel
theorem dX8_freeObject_2 : decode cX8_freeObject 2 = .ok (.iload_n 1, 1) := by decide +kernel
theorem dX8_freeObject_3 : decode cX8_freeObject 3 = .ok (.bipush 40, 2) := by decide +kernel
theorem dX8_freeObject_5 : decode cX8_freeObject 5 = .ok (.if_icmp .ge 18, 3) := by decide +kernel
theorem dX8_freeObject_8 : decode cX8_freeObject 8 = .ok (.aload_n 0, 1) := by decide +kernel
theorem dX8_freeObject_9 : decode cX8_freeObject 9 = .ok (.getfield 7, 3) := by decide +kernel
theorem dX8_freeObject_12 : decode cX8_freeObject 12 = .ok (.iload_n 1, 1) := by decide +kernel
theorem dX8_freeObject_13 : decode cX8_freeObject 13 = .ok (.iaload, 1) := by decide +kernel
theorem dX8_freeObject_14 : decode cX8_freeObject 14 = .ok (.ifCond .eq 9, 3) := by decide +kernel
theorem dX8_freeObject_17 : decode cX8_freeObject 17 = .ok (.iinc 1 1, 3) := by decide +kernel
theorem dX8_freeObject_20 : decode cX8_freeObject 20 = .ok (.goto (-18), 3) := by decide +kernel
theorem dX8_freeObject_23 : decode cX8_freeObject 23 = .ok (.iload_n 1, 1) := by decide +kernel
theorem dX8_freeObject_24 : decode cX8_freeObject 24 = .ok (.ireturn, 1) := by decide +kernel
theorem dX8_may_0 : decode cX8_may 0 = .ok (.aload_n 0, 1) := by decide +kernel
theorem dX8_may_1 : decode cX8_may 1 = .ok (.getfield 66, 3) := by decide +kernel
theorem dX8_may_4 : decode cX8_may 4 = .ok (.ifCond .ne 5, 3) := by decide +kernel
theorem dX8_may_7 : decode cX8_may 7 = .ok (.iconst 1, 1) := by decide +kernel
theorem dX8_may_8 : decode cX8_may 8 = .ok (.ireturn, 1) := by decide +kernel
theorem dX8_may_9 : decode cX8_may 9 = .ok (.aload_n 0, 1) := by decide +kernel
theorem dX8_may_10 : decode cX8_may 10 = .ok (.getfield 16, 3) := by decide +kernel
theorem dX8_may_13 : decode cX8_may 13 = .ok (.iload_n 1, 1) := by decide +kernel
theorem dX8_may_14 : decode cX8_may 14 = .ok (.iaload, 1) := by decide +kernel
theorem dX8_may_15 : decode cX8_may 15 = .ok (.aload_n 0, 1) := by decide +kernel
theorem dX8_may_16 : decode cX8_may 16 = .ok (.getfield 66, 3) := by decide +kernel
theorem dX8_may_19 : decode cX8_may 19 = .ok (.if_icmp .ne 14, 3) := by decide +kernel
theorem dX8_may_22 : decode cX8_may 22 = .ok (.aload_n 0, 1) := by decide +kernel
theorem dX8_may_23 : decode cX8_may 23 = .ok (.getfield 13, 3) := by decide +kernel
theorem dX8_may_26 : decode cX8_may 26 = .ok (.iload_n 1, 1) := by decide +kernel
theorem dX8_may_27 : decode cX8_may 27 = .ok (.iaload, 1) := by decide +kernel
theorem dX8_may_28 : decode cX8_may 28 = .ok (.iconst 4, 1) := by decide +kernel
theorem dX8_may_29 : decode cX8_may 29 = .ok (.idiv, 1) := by decide +kernel
theorem dX8_may_30 : decode cX8_may 30 = .ok (.goto 11, 3) := by decide +kernel
theorem dX8_may_33 : decode cX8_may 33 = .ok (.aload_n 0, 1) := by decide +kernel
theorem dX8_may_34 : decode cX8_may 34 = .ok (.getfield 13, 3) := by decide +kernel
theorem dX8_may_37 : decode cX8_may 37 = .ok (.iload_n 1, 1) := by decide +kernel
theorem dX8_may_38 : decode cX8_may 38 = .ok (.iaload, 1) := by decide +kernel
theorem dX8_may_39 : decode cX8_may 39 = .ok (.iconst 4, 1) := by decide +kernel
theorem dX8_may_40 : decode cX8_may 40 = .ok (.irem, 1) := by decide +kernel
theorem dX8_may_41 : decode cX8_may 41 = .ok (.istore_n 3, 1) := by decide +kernel
theorem dX8_may_42 : decode cX8_may 42 = .ok (.iload_n 3, 1) := by decide +kernel
theorem dX8_may_43 : decode cX8_may 43 = .ok (.iload_n 2, 1) := by decide +kernel
theorem dX8_may_44 : decode cX8_may 44 = .ok (.ishr, 1) := by decide +kernel
theorem dX8_may_45 : decode cX8_may 45 = .ok (.iconst 1, 1) := by decide +kernel
theorem dX8_may_46 : decode cX8_may 46 = .ok (.iand, 1) := by decide +kernel
theorem dX8_may_47 : decode cX8_may 47 = .ok (.iconst 1, 1) := by decide +kernel
theorem dX8_may_48 : decode cX8_may 48 = .ok (.if_icmp .ne 7, 3) := by decide +kernel
theorem dX8_may_51 : decode cX8_may 51 = .ok (.iconst 1, 1) := by decide +kernel
theorem dX8_may_52 : decode cX8_may 52 = .ok (.goto 4, 3) := by decide +kernel
theorem dX8_may_55 : decode cX8_may 55 = .ok (.iconst 0, 1) := by decide +kernel
theorem dX8_may_56 : decode cX8_may 56 = .ok (.ireturn, 1) := by decide +kernel
theorem dX8_coverOf_0 : decode cX8_coverOf 0 = .ok (.iconst 0, 1) := by decide +kernel
theorem dX8_coverOf_1 : decode cX8_coverOf 1 = .ok (.istore_n 2, 1) := by decide +kernel
theorem dX8_coverOf_2 : decode cX8_coverOf 2 = .ok (.iconst 1, 1) := by decide +kernel
theorem dX8_coverOf_3 : decode cX8_coverOf 3 = .ok (.istore_n 3, 1) := by decide +kernel
theorem dX8_coverOf_4 : decode cX8_coverOf 4 = .ok (.iload_n 3, 1) := by decide +kernel
theorem dX8_coverOf_5 : decode cX8_coverOf 5 = .ok (.aload_n 0, 1) := by decide +kernel
theorem dX8_coverOf_6 : decode cX8_coverOf 6 = .ok (.getfield 41, 3) := by decide +kernel
theorem dX8_coverOf_9 : decode cX8_coverOf 9 = .ok (.if_icmp .ge 25, 3) := by decide +kernel
theorem dX8_coverOf_12 : decode cX8_coverOf 12 = .ok (.aload_n 0, 1) := by decide +kernel
theorem dX8_coverOf_13 : decode cX8_coverOf 13 = .ok (.getfield 48, 3) := by decide +kernel
theorem dX8_coverOf_16 : decode cX8_coverOf 16 = .ok (.iload_n 3, 1) := by decide +kernel
theorem dX8_coverOf_17 : decode cX8_coverOf 17 = .ok (.iaload, 1) := by decide +kernel
theorem dX8_coverOf_18 : decode cX8_coverOf 18 = .ok (.iload_n 1, 1) := by decide +kernel
theorem dX8_coverOf_19 : decode cX8_coverOf 19 = .ok (.if_icmp .ne 7, 3) := by decide +kernel
theorem dX8_coverOf_22 : decode cX8_coverOf 22 = .ok (.iload_n 3, 1) := by decide +kernel
theorem dX8_coverOf_23 : decode cX8_coverOf 23 = .ok (.goto 4, 3) := by decide +kernel
theorem dX8_coverOf_26 : decode cX8_coverOf 26 = .ok (.iload_n 2, 1) := by decide +kernel
theorem dX8_coverOf_27 : decode cX8_coverOf 27 = .ok (.istore_n 2, 1) := by decide +kernel
theorem dX8_coverOf_28 : decode cX8_coverOf 28 = .ok (.iinc 3 1, 3) := by decide +kernel
theorem dX8_coverOf_31 : decode cX8_coverOf 31 = .ok (.goto (-27), 3) := by decide +kernel
theorem dX8_coverOf_34 : decode cX8_coverOf 34 = .ok (.iload_n 2, 1) := by decide +kernel
theorem dX8_coverOf_35 : decode cX8_coverOf 35 = .ok (.ireturn, 1) := by decide +kernel
theorem dX8_top_0 : decode cX8_top 0 = .ok (.iload_n 1, 1) := by decide +kernel
theorem dX8_top_1 : decode cX8_top 1 = .ok (.istore_n 2, 1) := by decide +kernel
theorem dX8_top_2 : decode cX8_top 2 = .ok (.iconst 0, 1) := by decide +kernel
theorem dX8_top_3 : decode cX8_top 3 = .ok (.istore_n 3, 1) := by decide +kernel
theorem dX8_top_4 : decode cX8_top 4 = .ok (.iload_n 3, 1) := by decide +kernel
theorem dX8_top_5 : decode cX8_top 5 = .ok (.iconst 5, 1) := by decide +kernel
theorem dX8_top_6 : decode cX8_top 6 = .ok (.if_icmp .ge 28, 3) := by decide +kernel
theorem dX8_top_9 : decode cX8_top 9 = .ok (.aload_n 0, 1) := by decide +kernel
theorem dX8_top_10 : decode cX8_top 10 = .ok (.iload_n 2, 1) := by decide +kernel
theorem dX8_top_11 : decode cX8_top 11 = .ok (.invokevirtual 69, 3) := by decide +kernel
theorem dX8_top_14 : decode cX8_top 14 = .ok (.ifCond .le 20, 3) := by decide +kernel
theorem dX8_top_17 : decode cX8_top 17 = .ok (.aload_n 0, 1) := by decide +kernel
theorem dX8_top_18 : decode cX8_top 18 = .ok (.getfield 45, 3) := by decide +kernel
theorem dX8_top_21 : decode cX8_top 21 = .ok (.aload_n 0, 1) := by decide +kernel
theorem dX8_top_22 : decode cX8_top 22 = .ok (.iload_n 2, 1) := by decide +kernel
theorem dX8_top_23 : decode cX8_top 23 = .ok (.invokevirtual 69, 3) := by decide +kernel
theorem dX8_top_26 : decode cX8_top 26 = .ok (.iaload, 1) := by decide +kernel
theorem dX8_top_27 : decode cX8_top 27 = .ok (.istore_n 2, 1) := by decide +kernel
theorem dX8_top_28 : decode cX8_top 28 = .ok (.iinc 3 1, 3) := by decide +kernel
theorem dX8_top_31 : decode cX8_top 31 = .ok (.goto (-27), 3) := by decide +kernel
theorem dX8_top_34 : decode cX8_top 34 = .ok (.iload_n 2, 1) := by decide +kernel
theorem dX8_top_35 : decode cX8_top 35 = .ok (.ireturn, 1) := by decide +kernel
theorem dX8_mountedAt_0 : decode cX8_mountedAt 0 = .ok (.iconst 0, 1) := by decide +kernel
theorem dX8_mountedAt_1 : decode cX8_mountedAt 1 = .ok (.istore_n 2, 1) := by decide +kernel
theorem dX8_mountedAt_2 : decode cX8_mountedAt 2 = .ok (.iconst 1, 1) := by decide +kernel
theorem dX8_mountedAt_3 : decode cX8_mountedAt 3 = .ok (.istore_n 3, 1) := by decide +kernel
theorem dX8_mountedAt_4 : decode cX8_mountedAt 4 = .ok (.iload_n 3, 1) := by decide +kernel
theorem dX8_mountedAt_5 : decode cX8_mountedAt 5 = .ok (.aload_n 0, 1) := by decide +kernel
theorem dX8_mountedAt_6 : decode cX8_mountedAt 6 = .ok (.getfield 41, 3) := by decide +kernel
theorem dX8_mountedAt_9 : decode cX8_mountedAt 9 = .ok (.if_icmp .ge 34, 3) := by decide +kernel
theorem dX8_mountedAt_12 : decode cX8_mountedAt 12 = .ok (.aload_n 0, 1) := by decide +kernel
theorem dX8_mountedAt_13 : decode cX8_mountedAt 13 = .ok (.getfield 45, 3) := by decide +kernel
theorem dX8_mountedAt_16 : decode cX8_mountedAt 16 = .ok (.iload_n 3, 1) := by decide +kernel
theorem dX8_mountedAt_17 : decode cX8_mountedAt 17 = .ok (.iaload, 1) := by decide +kernel
theorem dX8_mountedAt_18 : decode cX8_mountedAt 18 = .ok (.iload_n 1, 1) := by decide +kernel
theorem dX8_mountedAt_19 : decode cX8_mountedAt 19 = .ok (.if_icmp .ne 16, 3) := by decide +kernel
theorem dX8_mountedAt_22 : decode cX8_mountedAt 22 = .ok (.aload_n 0, 1) := by decide +kernel
theorem dX8_mountedAt_23 : decode cX8_mountedAt 23 = .ok (.getfield 48, 3) := by decide +kernel
theorem dX8_mountedAt_26 : decode cX8_mountedAt 26 = .ok (.iload_n 3, 1) := by decide +kernel
theorem dX8_mountedAt_27 : decode cX8_mountedAt 27 = .ok (.iaload, 1) := by decide +kernel
theorem dX8_mountedAt_28 : decode cX8_mountedAt 28 = .ok (.ifCond .lt 7, 3) := by decide +kernel
theorem dX8_mountedAt_31 : decode cX8_mountedAt 31 = .ok (.iload_n 3, 1) := by decide +kernel
theorem dX8_mountedAt_32 : decode cX8_mountedAt 32 = .ok (.goto 4, 3) := by decide +kernel
theorem dX8_mountedAt_35 : decode cX8_mountedAt 35 = .ok (.iload_n 2, 1) := by decide +kernel
theorem dX8_mountedAt_36 : decode cX8_mountedAt 36 = .ok (.istore_n 2, 1) := by decide +kernel
theorem dX8_mountedAt_37 : decode cX8_mountedAt 37 = .ok (.iinc 3 1, 3) := by decide +kernel
theorem dX8_mountedAt_40 : decode cX8_mountedAt 40 = .ok (.goto (-36), 3) := by decide +kernel
theorem dX8_mountedAt_43 : decode cX8_mountedAt 43 = .ok (.iload_n 2, 1) := by decide +kernel
theorem dX8_mountedAt_44 : decode cX8_mountedAt 44 = .ok (.ireturn, 1) := by decide +kernel
theorem dX8_seat_0 : decode cX8_seat 0 = .ok (.iload_n 1, 1) := by decide +kernel
theorem dX8_seat_1 : decode cX8_seat 1 = .ok (.istore_n 2, 1) := by decide +kernel
theorem dX8_seat_2 : decode cX8_seat 2 = .ok (.iconst 0, 1) := by decide +kernel
theorem dX8_seat_3 : decode cX8_seat 3 = .ok (.istore_n 3, 1) := by decide +kernel
theorem dX8_seat_4 : decode cX8_seat 4 = .ok (.iload_n 3, 1) := by decide +kernel
theorem dX8_seat_5 : decode cX8_seat 5 = .ok (.iconst 5, 1) := by decide +kernel
theorem dX8_seat_6 : decode cX8_seat 6 = .ok (.if_icmp .ge 28, 3) := by decide +kernel
theorem dX8_seat_9 : decode cX8_seat 9 = .ok (.aload_n 0, 1) := by decide +kernel
theorem dX8_seat_10 : decode cX8_seat 10 = .ok (.iload_n 2, 1) := by decide +kernel
theorem dX8_seat_11 : decode cX8_seat 11 = .ok (.invokevirtual 73, 3) := by decide +kernel
theorem dX8_seat_14 : decode cX8_seat 14 = .ok (.ifCond .le 20, 3) := by decide +kernel
theorem dX8_seat_17 : decode cX8_seat 17 = .ok (.aload_n 0, 1) := by decide +kernel
theorem dX8_seat_18 : decode cX8_seat 18 = .ok (.getfield 48, 3) := by decide +kernel
theorem dX8_seat_21 : decode cX8_seat 21 = .ok (.aload_n 0, 1) := by decide +kernel
theorem dX8_seat_22 : decode cX8_seat 22 = .ok (.iload_n 2, 1) := by decide +kernel
theorem dX8_seat_23 : decode cX8_seat 23 = .ok (.invokevirtual 73, 3) := by decide +kernel
theorem dX8_seat_26 : decode cX8_seat 26 = .ok (.iaload, 1) := by decide +kernel
theorem dX8_seat_27 : decode cX8_seat 27 = .ok (.istore_n 2, 1) := by decide +kernel
theorem dX8_seat_28 : decode cX8_seat 28 = .ok (.iinc 3 1, 3) := by decide +kernel
theorem dX8_seat_31 : decode cX8_seat 31 = .ok (.goto (-27), 3) := by decide +kernel
theorem dX8_seat_34 : decode cX8_seat 34 = .ok (.iload_n 2, 1) := by decide +kernel
theorem dX8_seat_35 : decode cX8_seat 35 = .ok (.ireturn, 1) := by decide +kernel
theorem dX8_above_0 : decode cX8_above 0 = .ok (.iload_n 1, 1) := by decide +kernel
theorem dX8_above_1 : decode cX8_above 1 = .ok (.iload_n 2, 1) := by decide +kernel
theorem dX8_above_2 : decode cX8_above 2 = .ok (.if_icmp .ne 7, 3) := by decide +kernel
theorem dX8_above_5 : decode cX8_above 5 = .ok (.iload_n 1, 1) := by decide +kernel
theorem dX8_above_6 : decode cX8_above 6 = .ok (.goto 17, 3) := by decide +kernel
theorem dX8_above_9 : decode cX8_above 9 = .ok (.aload_n 0, 1) := by decide +kernel
theorem dX8_above_10 : decode cX8_above 10 = .ok (.aload_n 0, 1) := by decide +kernel
theorem dX8_above_11 : decode cX8_above 11 = .ok (.getfield 22, 3) := by decide +kernel
theorem dX8_above_14 : decode cX8_above 14 = .ok (.aload_n 0, 1) := by decide +kernel
theorem dX8_above_15 : decode cX8_above 15 = .ok (.iload_n 1, 1) := by decide +kernel
theorem dX8_above_16 : decode cX8_above 16 = .ok (.invokevirtual 76, 3) := by decide +kernel
theorem dX8_above_19 : decode cX8_above 19 = .ok (.iaload, 1) := by decide +kernel
theorem dX8_above_20 : decode cX8_above 20 = .ok (.invokevirtual 79, 3) := by decide +kernel
theorem dX8_above_23 : decode cX8_above 23 = .ok (.ireturn, 1) := by decide +kernel
theorem dX8_find_0 : decode cX8_find 0 = .ok (.iconst 0, 1) := by decide +kernel
theorem dX8_find_1 : decode cX8_find 1 = .ok (.istore 4, 2) := by decide +kernel
theorem dX8_find_3 : decode cX8_find 3 = .ok (.iload 4, 2) := by decide +kernel
theorem dX8_find_5 : decode cX8_find 5 = .ok (.aload_n 0, 1) := by decide +kernel
theorem dX8_find_6 : decode cX8_find 6 = .ok (.getfield 82, 3) := by decide +kernel
theorem dX8_find_9 : decode cX8_find 9 = .ok (.if_icmp .ge 35, 3) := by decide +kernel
theorem dX8_find_12 : decode cX8_find 12 = .ok (.aload_n 0, 1) := by decide +kernel
theorem dX8_find_13 : decode cX8_find 13 = .ok (.getfield 31, 3) := by decide +kernel
theorem dX8_find_16 : decode cX8_find 16 = .ok (.iload 4, 2) := by decide +kernel
theorem dX8_find_18 : decode cX8_find 18 = .ok (.iaload, 1) := by decide +kernel
theorem dX8_find_19 : decode cX8_find 19 = .ok (.iload_n 1, 1) := by decide +kernel
theorem dX8_find_20 : decode cX8_find 20 = .ok (.if_icmp .ne 18, 3) := by decide +kernel
theorem dX8_find_23 : decode cX8_find 23 = .ok (.aload_n 0, 1) := by decide +kernel
theorem dX8_find_24 : decode cX8_find 24 = .ok (.getfield 34, 3) := by decide +kernel
theorem dX8_find_27 : decode cX8_find 27 = .ok (.iload 4, 2) := by decide +kernel
theorem dX8_find_29 : decode cX8_find 29 = .ok (.laload, 1) := by decide +kernel
theorem dX8_find_30 : decode cX8_find 30 = .ok (.lload_n 2, 1) := by decide +kernel
theorem dX8_find_31 : decode cX8_find 31 = .ok (.lcmp, 1) := by decide +kernel
theorem dX8_find_32 : decode cX8_find 32 = .ok (.ifCond .ne 6, 3) := by decide +kernel
theorem dX8_find_35 : decode cX8_find 35 = .ok (.iload 4, 2) := by decide +kernel
theorem dX8_find_37 : decode cX8_find 37 = .ok (.ireturn, 1) := by decide +kernel
theorem dX8_find_38 : decode cX8_find 38 = .ok (.iinc 4 1, 3) := by decide +kernel
theorem dX8_find_41 : decode cX8_find 41 = .ok (.goto (-38), 3) := by decide +kernel
theorem dX8_find_44 : decode cX8_find 44 = .ok (.iconst (-1), 1) := by decide +kernel
theorem dX8_find_45 : decode cX8_find 45 = .ok (.ireturn, 1) := by decide +kernel
theorem dX8_dropRest_0 : decode cX8_dropRest 0 = .ok (.aload_n 0, 1) := by decide +kernel
theorem dX8_dropRest_1 : decode cX8_dropRest 1 = .ok (.aload_n 0, 1) := by decide +kernel
theorem dX8_dropRest_2 : decode cX8_dropRest 2 = .ok (.getfield 85, 3) := by decide +kernel
theorem dX8_dropRest_5 : decode cX8_dropRest 5 = .ok (.iload_n 1, 1) := by decide +kernel
theorem dX8_dropRest_6 : decode cX8_dropRest 6 = .ok (.isub, 1) := by decide +kernel
theorem dX8_dropRest_7 : decode cX8_dropRest 7 = .ok (.putfield 85, 3) := by decide +kernel
theorem dX8_dropRest_10 : decode cX8_dropRest 10 = .ok (.iconst 0, 1) := by decide +kernel
theorem dX8_dropRest_11 : decode cX8_dropRest 11 = .ok (.istore_n 2, 1) := by decide +kernel
theorem dX8_dropRest_12 : decode cX8_dropRest 12 = .ok (.iload_n 2, 1) := by decide +kernel
theorem dX8_dropRest_13 : decode cX8_dropRest 13 = .ok (.aload_n 0, 1) := by decide +kernel
theorem dX8_dropRest_14 : decode cX8_dropRest 14 = .ok (.getfield 85, 3) := by decide +kernel
theorem dX8_dropRest_17 : decode cX8_dropRest 17 = .ok (.if_icmp .ge 23, 3) := by decide +kernel
theorem dX8_dropRest_20 : decode cX8_dropRest 20 = .ok (.aload_n 0, 1) := by decide +kernel
theorem dX8_dropRest_21 : decode cX8_dropRest 21 = .ok (.getfield 57, 3) := by decide +kernel
theorem dX8_dropRest_24 : decode cX8_dropRest 24 = .ok (.iload_n 2, 1) := by decide +kernel
theorem dX8_dropRest_25 : decode cX8_dropRest 25 = .ok (.aload_n 0, 1) := by decide +kernel
theorem dX8_dropRest_26 : decode cX8_dropRest 26 = .ok (.getfield 57, 3) := by decide +kernel
theorem dX8_dropRest_29 : decode cX8_dropRest 29 = .ok (.iload_n 2, 1) := by decide +kernel
theorem dX8_dropRest_30 : decode cX8_dropRest 30 = .ok (.iload_n 1, 1) := by decide +kernel
theorem dX8_dropRest_31 : decode cX8_dropRest 31 = .ok (.iadd, 1) := by decide +kernel
theorem dX8_dropRest_32 : decode cX8_dropRest 32 = .ok (.iaload, 1) := by decide +kernel
theorem dX8_dropRest_33 : decode cX8_dropRest 33 = .ok (.iastore, 1) := by decide +kernel
theorem dX8_dropRest_34 : decode cX8_dropRest 34 = .ok (.iinc 2 1, 3) := by decide +kernel
theorem dX8_dropRest_37 : decode cX8_dropRest 37 = .ok (.goto (-25), 3) := by decide +kernel
theorem dX8_dropRest_40 : decode cX8_dropRest 40 = .ok (.return_, 1) := by decide +kernel
theorem dX8_takeSlashes_0 : decode cX8_takeSlashes 0 = .ok (.iconst 0, 1) := by decide +kernel
theorem dX8_takeSlashes_1 : decode cX8_takeSlashes 1 = .ok (.istore_n 1, 1) := by decide +kernel
theorem dX8_takeSlashes_2 : decode cX8_takeSlashes 2 = .ok (.iload_n 1, 1) := by decide +kernel
theorem dX8_takeSlashes_3 : decode cX8_takeSlashes 3 = .ok (.aload_n 0, 1) := by decide +kernel
theorem dX8_takeSlashes_4 : decode cX8_takeSlashes 4 = .ok (.getfield 85, 3) := by decide +kernel
theorem dX8_takeSlashes_7 : decode cX8_takeSlashes 7 = .ok (.if_icmp .ge 20, 3) := by decide +kernel
theorem dX8_takeSlashes_10 : decode cX8_takeSlashes 10 = .ok (.aload_n 0, 1) := by decide +kernel
theorem dX8_takeSlashes_11 : decode cX8_takeSlashes 11 = .ok (.getfield 57, 3) := by decide +kernel
theorem dX8_takeSlashes_14 : decode cX8_takeSlashes 14 = .ok (.iload_n 1, 1) := by decide +kernel
theorem dX8_takeSlashes_15 : decode cX8_takeSlashes 15 = .ok (.iaload, 1) := by decide +kernel
theorem dX8_takeSlashes_16 : decode cX8_takeSlashes 16 = .ok (.bipush 47, 2) := by decide +kernel
theorem dX8_takeSlashes_18 : decode cX8_takeSlashes 18 = .ok (.if_icmp .ne 9, 3) := by decide +kernel
theorem dX8_takeSlashes_21 : decode cX8_takeSlashes 21 = .ok (.iinc 1 1, 3) := by decide +kernel
theorem dX8_takeSlashes_24 : decode cX8_takeSlashes 24 = .ok (.goto (-22), 3) := by decide +kernel
theorem dX8_takeSlashes_27 : decode cX8_takeSlashes 27 = .ok (.aload_n 0, 1) := by decide +kernel
theorem dX8_takeSlashes_28 : decode cX8_takeSlashes 28 = .ok (.iload_n 1, 1) := by decide +kernel
theorem dX8_takeSlashes_29 : decode cX8_takeSlashes 29 = .ok (.invokevirtual 88, 3) := by decide +kernel
theorem dX8_takeSlashes_32 : decode cX8_takeSlashes 32 = .ok (.return_, 1) := by decide +kernel
theorem dX8_takeName_0 : decode cX8_takeName 0 = .ok (.iconst 0, 1) := by decide +kernel
theorem dX8_takeName_1 : decode cX8_takeName 1 = .ok (.istore_n 1, 1) := by decide +kernel
theorem dX8_takeName_2 : decode cX8_takeName 2 = .ok (.aload_n 0, 1) := by decide +kernel
theorem dX8_takeName_3 : decode cX8_takeName 3 = .ok (.lconst 0, 1) := by decide +kernel
theorem dX8_takeName_4 : decode cX8_takeName 4 = .ok (.putfield 92, 3) := by decide +kernel
theorem dX8_takeName_7 : decode cX8_takeName 7 = .ok (.iload_n 1, 1) := by decide +kernel
theorem dX8_takeName_8 : decode cX8_takeName 8 = .ok (.aload_n 0, 1) := by decide +kernel
theorem dX8_takeName_9 : decode cX8_takeName 9 = .ok (.getfield 85, 3) := by decide +kernel
theorem dX8_takeName_12 : decode cX8_takeName 12 = .ok (.if_icmp .ge 53, 3) := by decide +kernel
theorem dX8_takeName_15 : decode cX8_takeName 15 = .ok (.aload_n 0, 1) := by decide +kernel
theorem dX8_takeName_16 : decode cX8_takeName 16 = .ok (.getfield 57, 3) := by decide +kernel
theorem dX8_takeName_19 : decode cX8_takeName 19 = .ok (.iload_n 1, 1) := by decide +kernel
theorem dX8_takeName_20 : decode cX8_takeName 20 = .ok (.iaload, 1) := by decide +kernel
theorem dX8_takeName_21 : decode cX8_takeName 21 = .ok (.bipush 47, 2) := by decide +kernel
theorem dX8_takeName_23 : decode cX8_takeName 23 = .ok (.if_icmp .eq 42, 3) := by decide +kernel
theorem dX8_takeName_26 : decode cX8_takeName 26 = .ok (.aload_n 0, 1) := by decide +kernel
theorem dX8_takeName_27 : decode cX8_takeName 27 = .ok (.iload_n 1, 1) := by decide +kernel
theorem dX8_takeName_28 : decode cX8_takeName 28 = .ok (.bipush 6, 2) := by decide +kernel
theorem dX8_takeName_30 : decode cX8_takeName 30 = .ok (.if_icmp .ge 22, 3) := by decide +kernel
theorem dX8_takeName_33 : decode cX8_takeName 33 = .ok (.aload_n 0, 1) := by decide +kernel
theorem dX8_takeName_34 : decode cX8_takeName 34 = .ok (.getfield 92, 3) := by decide +kernel
theorem dX8_takeName_37 : decode cX8_takeName 37 = .ok (.ldc2_w 96, 3) := by decide +kernel
theorem dX8_takeName_40 : decode cX8_takeName 40 = .ok (.lmul, 1) := by decide +kernel
theorem dX8_takeName_41 : decode cX8_takeName 41 = .ok (.aload_n 0, 1) := by decide +kernel
theorem dX8_takeName_42 : decode cX8_takeName 42 = .ok (.getfield 57, 3) := by decide +kernel
theorem dX8_takeName_45 : decode cX8_takeName 45 = .ok (.iload_n 1, 1) := by decide +kernel
theorem dX8_takeName_46 : decode cX8_takeName 46 = .ok (.iaload, 1) := by decide +kernel
theorem dX8_takeName_47 : decode cX8_takeName 47 = .ok (.i2l, 1) := by decide +kernel
theorem dX8_takeName_48 : decode cX8_takeName 48 = .ok (.ladd, 1) := by decide +kernel
theorem dX8_takeName_49 : decode cX8_takeName 49 = .ok (.goto 7, 3) := by decide +kernel
theorem dX8_takeName_52 : decode cX8_takeName 52 = .ok (.aload_n 0, 1) := by decide +kernel
theorem dX8_takeName_53 : decode cX8_takeName 53 = .ok (.getfield 92, 3) := by decide +kernel
theorem dX8_takeName_56 : decode cX8_takeName 56 = .ok (.putfield 92, 3) := by decide +kernel
theorem dX8_takeName_59 : decode cX8_takeName 59 = .ok (.iinc 1 1, 3) := by decide +kernel
theorem dX8_takeName_62 : decode cX8_takeName 62 = .ok (.goto (-55), 3) := by decide +kernel
theorem dX8_takeName_65 : decode cX8_takeName 65 = .ok (.aload_n 0, 1) := by decide +kernel
theorem dX8_takeName_66 : decode cX8_takeName 66 = .ok (.iload_n 1, 1) := by decide +kernel
theorem dX8_takeName_67 : decode cX8_takeName 67 = .ok (.putfield 98, 3) := by decide +kernel
theorem dX8_takeName_70 : decode cX8_takeName 70 = .ok (.aload_n 0, 1) := by decide +kernel
theorem dX8_takeName_71 : decode cX8_takeName 71 = .ok (.iload_n 1, 1) := by decide +kernel
theorem dX8_takeName_72 : decode cX8_takeName 72 = .ok (.invokevirtual 88, 3) := by decide +kernel
theorem dX8_takeName_75 : decode cX8_takeName 75 = .ok (.aload_n 0, 1) := by decide +kernel
theorem dX8_takeName_76 : decode cX8_takeName 76 = .ok (.aload_n 0, 1) := by decide +kernel
theorem dX8_takeName_77 : decode cX8_takeName 77 = .ok (.getfield 85, 3) := by decide +kernel
theorem dX8_takeName_80 : decode cX8_takeName 80 = .ok (.ifCond .le 7, 3) := by decide +kernel
theorem dX8_takeName_83 : decode cX8_takeName 83 = .ok (.iconst 1, 1) := by decide +kernel
theorem dX8_takeName_84 : decode cX8_takeName 84 = .ok (.goto 4, 3) := by decide +kernel
theorem dX8_takeName_87 : decode cX8_takeName 87 = .ok (.iconst 0, 1) := by decide +kernel
theorem dX8_takeName_88 : decode cX8_takeName 88 = .ok (.putfield 101, 3) := by decide +kernel
theorem dX8_takeName_91 : decode cX8_takeName 91 = .ok (.aload_n 0, 1) := by decide +kernel
theorem dX8_takeName_92 : decode cX8_takeName 92 = .ok (.iconst 1, 1) := by decide +kernel
theorem dX8_takeName_93 : decode cX8_takeName 93 = .ok (.putfield 105, 3) := by decide +kernel
theorem dX8_takeName_96 : decode cX8_takeName 96 = .ok (.iconst 0, 1) := by decide +kernel
theorem dX8_takeName_97 : decode cX8_takeName 97 = .ok (.istore_n 2, 1) := by decide +kernel
theorem dX8_takeName_98 : decode cX8_takeName 98 = .ok (.iload_n 2, 1) := by decide +kernel
theorem dX8_takeName_99 : decode cX8_takeName 99 = .ok (.aload_n 0, 1) := by decide +kernel
theorem dX8_takeName_100 : decode cX8_takeName 100 = .ok (.getfield 85, 3) := by decide +kernel
theorem dX8_takeName_103 : decode cX8_takeName 103 = .ok (.if_icmp .ge 36, 3) := by decide +kernel
theorem dX8_takeName_106 : decode cX8_takeName 106 = .ok (.aload_n 0, 1) := by decide +kernel
theorem dX8_takeName_107 : decode cX8_takeName 107 = .ok (.aload_n 0, 1) := by decide +kernel
theorem dX8_takeName_108 : decode cX8_takeName 108 = .ok (.getfield 105, 3) := by decide +kernel
theorem dX8_takeName_111 : decode cX8_takeName 111 = .ok (.ifCond .eq 18, 3) := by decide +kernel
theorem dX8_takeName_114 : decode cX8_takeName 114 = .ok (.aload_n 0, 1) := by decide +kernel
theorem dX8_takeName_115 : decode cX8_takeName 115 = .ok (.getfield 57, 3) := by decide +kernel
theorem dX8_takeName_118 : decode cX8_takeName 118 = .ok (.iload_n 2, 1) := by decide +kernel
theorem dX8_takeName_119 : decode cX8_takeName 119 = .ok (.iaload, 1) := by decide +kernel
theorem dX8_takeName_120 : decode cX8_takeName 120 = .ok (.bipush 47, 2) := by decide +kernel
theorem dX8_takeName_122 : decode cX8_takeName 122 = .ok (.if_icmp .ne 7, 3) := by decide +kernel
theorem dX8_takeName_125 : decode cX8_takeName 125 = .ok (.iconst 1, 1) := by decide +kernel
theorem dX8_takeName_126 : decode cX8_takeName 126 = .ok (.goto 4, 3) := by decide +kernel
theorem dX8_takeName_129 : decode cX8_takeName 129 = .ok (.iconst 0, 1) := by decide +kernel
theorem dX8_takeName_130 : decode cX8_takeName 130 = .ok (.putfield 105, 3) := by decide +kernel
theorem dX8_takeName_133 : decode cX8_takeName 133 = .ok (.iinc 2 1, 3) := by decide +kernel
theorem dX8_takeName_136 : decode cX8_takeName 136 = .ok (.goto (-38), 3) := by decide +kernel
theorem dX8_takeName_139 : decode cX8_takeName 139 = .ok (.return_, 1) := by decide +kernel
theorem dX8_putBefore_0 : decode cX8_putBefore 0 = .ok (.aload_n 0, 1) := by decide +kernel
theorem dX8_putBefore_1 : decode cX8_putBefore 1 = .ok (.getfield 28, 3) := by decide +kernel
theorem dX8_putBefore_4 : decode cX8_putBefore 4 = .ok (.iload_n 1, 1) := by decide +kernel
theorem dX8_putBefore_5 : decode cX8_putBefore 5 = .ok (.iaload, 1) := by decide +kernel
theorem dX8_putBefore_6 : decode cX8_putBefore 6 = .ok (.istore_n 2, 1) := by decide +kernel
theorem dX8_putBefore_7 : decode cX8_putBefore 7 = .ok (.aload_n 0, 1) := by decide +kernel
theorem dX8_putBefore_8 : decode cX8_putBefore 8 = .ok (.getfield 85, 3) := by decide +kernel
theorem dX8_putBefore_11 : decode cX8_putBefore 11 = .ok (.iconst 1, 1) := by decide +kernel
theorem dX8_putBefore_12 : decode cX8_putBefore 12 = .ok (.isub, 1) := by decide +kernel
theorem dX8_putBefore_13 : decode cX8_putBefore 13 = .ok (.istore_n 3, 1) := by decide +kernel
theorem dX8_putBefore_14 : decode cX8_putBefore 14 = .ok (.iload_n 3, 1) := by decide +kernel
theorem dX8_putBefore_15 : decode cX8_putBefore 15 = .ok (.ifCond .lt 23, 3) := by decide +kernel
theorem dX8_putBefore_18 : decode cX8_putBefore 18 = .ok (.aload_n 0, 1) := by decide +kernel
theorem dX8_putBefore_19 : decode cX8_putBefore 19 = .ok (.getfield 57, 3) := by decide +kernel
theorem dX8_putBefore_22 : decode cX8_putBefore 22 = .ok (.iload_n 3, 1) := by decide +kernel
theorem dX8_putBefore_23 : decode cX8_putBefore 23 = .ok (.iload_n 2, 1) := by decide +kernel
theorem dX8_putBefore_24 : decode cX8_putBefore 24 = .ok (.iadd, 1) := by decide +kernel
theorem dX8_putBefore_25 : decode cX8_putBefore 25 = .ok (.aload_n 0, 1) := by decide +kernel
theorem dX8_putBefore_26 : decode cX8_putBefore 26 = .ok (.getfield 57, 3) := by decide +kernel
theorem dX8_putBefore_29 : decode cX8_putBefore 29 = .ok (.iload_n 3, 1) := by decide +kernel
theorem dX8_putBefore_30 : decode cX8_putBefore 30 = .ok (.iaload, 1) := by decide +kernel
theorem dX8_putBefore_31 : decode cX8_putBefore 31 = .ok (.iastore, 1) := by decide +kernel
theorem dX8_putBefore_32 : decode cX8_putBefore 32 = .ok (.iinc 3 (-1), 3) := by decide +kernel
theorem dX8_putBefore_35 : decode cX8_putBefore 35 = .ok (.goto (-21), 3) := by decide +kernel
theorem dX8_putBefore_38 : decode cX8_putBefore 38 = .ok (.iconst 0, 1) := by decide +kernel
theorem dX8_putBefore_39 : decode cX8_putBefore 39 = .ok (.istore_n 3, 1) := by decide +kernel
theorem dX8_putBefore_40 : decode cX8_putBefore 40 = .ok (.iload_n 3, 1) := by decide +kernel
theorem dX8_putBefore_41 : decode cX8_putBefore 41 = .ok (.iload_n 2, 1) := by decide +kernel
theorem dX8_putBefore_42 : decode cX8_putBefore 42 = .ok (.if_icmp .ge 26, 3) := by decide +kernel
theorem dX8_putBefore_45 : decode cX8_putBefore 45 = .ok (.aload_n 0, 1) := by decide +kernel
theorem dX8_putBefore_46 : decode cX8_putBefore 46 = .ok (.getfield 57, 3) := by decide +kernel
theorem dX8_putBefore_49 : decode cX8_putBefore 49 = .ok (.iload_n 3, 1) := by decide +kernel
theorem dX8_putBefore_50 : decode cX8_putBefore 50 = .ok (.aload_n 0, 1) := by decide +kernel
theorem dX8_putBefore_51 : decode cX8_putBefore 51 = .ok (.getfield 25, 3) := by decide +kernel
theorem dX8_putBefore_54 : decode cX8_putBefore 54 = .ok (.bipush 40, 2) := by decide +kernel
theorem dX8_putBefore_56 : decode cX8_putBefore 56 = .ok (.iload_n 1, 1) := by decide +kernel
theorem dX8_putBefore_57 : decode cX8_putBefore 57 = .ok (.imul, 1) := by decide +kernel
theorem dX8_putBefore_58 : decode cX8_putBefore 58 = .ok (.iload_n 3, 1) := by decide +kernel
theorem dX8_putBefore_59 : decode cX8_putBefore 59 = .ok (.iadd, 1) := by decide +kernel
theorem dX8_putBefore_60 : decode cX8_putBefore 60 = .ok (.iaload, 1) := by decide +kernel
theorem dX8_putBefore_61 : decode cX8_putBefore 61 = .ok (.iastore, 1) := by decide +kernel
theorem dX8_putBefore_62 : decode cX8_putBefore 62 = .ok (.iinc 3 1, 3) := by decide +kernel
theorem dX8_putBefore_65 : decode cX8_putBefore 65 = .ok (.goto (-25), 3) := by decide +kernel
theorem dX8_putBefore_68 : decode cX8_putBefore 68 = .ok (.aload_n 0, 1) := by decide +kernel
theorem dX8_putBefore_69 : decode cX8_putBefore 69 = .ok (.aload_n 0, 1) := by decide +kernel
theorem dX8_putBefore_70 : decode cX8_putBefore 70 = .ok (.getfield 85, 3) := by decide +kernel
theorem dX8_putBefore_73 : decode cX8_putBefore 73 = .ok (.iload_n 2, 1) := by decide +kernel
theorem dX8_putBefore_74 : decode cX8_putBefore 74 = .ok (.iadd, 1) := by decide +kernel
theorem dX8_putBefore_75 : decode cX8_putBefore 75 = .ok (.putfield 85, 3) := by decide +kernel
theorem dX8_putBefore_78 : decode cX8_putBefore 78 = .ok (.return_, 1) := by decide +kernel
theorem dX8_begin_0 : decode cX8_begin 0 = .ok (.aload_n 0, 1) := by decide +kernel
theorem dX8_begin_1 : decode cX8_begin 1 = .ok (.iload_n 1, 1) := by decide +kernel
theorem dX8_begin_2 : decode cX8_begin 2 = .ok (.ifCond .eq 10, 3) := by decide +kernel
theorem dX8_begin_5 : decode cX8_begin 5 = .ok (.aload_n 0, 1) := by decide +kernel
theorem dX8_begin_6 : decode cX8_begin 6 = .ok (.getfield 63, 3) := by decide +kernel
theorem dX8_begin_9 : decode cX8_begin 9 = .ok (.goto 7, 3) := by decide +kernel
theorem dX8_begin_12 : decode cX8_begin 12 = .ok (.aload_n 0, 1) := by decide +kernel
theorem dX8_begin_13 : decode cX8_begin 13 = .ok (.getfield 60, 3) := by decide +kernel
theorem dX8_begin_16 : decode cX8_begin 16 = .ok (.putfield 85, 3) := by decide +kernel
theorem dX8_begin_19 : decode cX8_begin 19 = .ok (.iconst 0, 1) := by decide +kernel
theorem dX8_begin_20 : decode cX8_begin 20 = .ok (.istore_n 2, 1) := by decide +kernel
theorem dX8_begin_21 : decode cX8_begin 21 = .ok (.iload_n 2, 1) := by decide +kernel
theorem dX8_begin_22 : decode cX8_begin 22 = .ok (.aload_n 0, 1) := by decide +kernel
theorem dX8_begin_23 : decode cX8_begin 23 = .ok (.getfield 85, 3) := by decide +kernel
theorem dX8_begin_26 : decode cX8_begin 26 = .ok (.if_icmp .ge 34, 3) := by decide +kernel
theorem dX8_begin_29 : decode cX8_begin 29 = .ok (.aload_n 0, 1) := by decide +kernel
theorem dX8_begin_30 : decode cX8_begin 30 = .ok (.getfield 57, 3) := by decide +kernel
theorem dX8_begin_33 : decode cX8_begin 33 = .ok (.iload_n 2, 1) := by decide +kernel
theorem dX8_begin_34 : decode cX8_begin 34 = .ok (.iload_n 1, 1) := by decide +kernel
theorem dX8_begin_35 : decode cX8_begin 35 = .ok (.ifCond .eq 12, 3) := by decide +kernel
theorem dX8_begin_38 : decode cX8_begin 38 = .ok (.aload_n 0, 1) := by decide +kernel
theorem dX8_begin_39 : decode cX8_begin 39 = .ok (.getfield 54, 3) := by decide +kernel
theorem dX8_begin_42 : decode cX8_begin 42 = .ok (.iload_n 2, 1) := by decide +kernel
theorem dX8_begin_43 : decode cX8_begin 43 = .ok (.iaload, 1) := by decide +kernel
theorem dX8_begin_44 : decode cX8_begin 44 = .ok (.goto 9, 3) := by decide +kernel
theorem dX8_begin_47 : decode cX8_begin 47 = .ok (.aload_n 0, 1) := by decide +kernel
theorem dX8_begin_48 : decode cX8_begin 48 = .ok (.getfield 51, 3) := by decide +kernel
theorem dX8_begin_51 : decode cX8_begin 51 = .ok (.iload_n 2, 1) := by decide +kernel
theorem dX8_begin_52 : decode cX8_begin 52 = .ok (.iaload, 1) := by decide +kernel
theorem dX8_begin_53 : decode cX8_begin 53 = .ok (.iastore, 1) := by decide +kernel
theorem dX8_begin_54 : decode cX8_begin 54 = .ok (.iinc 2 1, 3) := by decide +kernel
theorem dX8_begin_57 : decode cX8_begin 57 = .ok (.goto (-36), 3) := by decide +kernel
theorem dX8_begin_60 : decode cX8_begin 60 = .ok (.aload_n 0, 1) := by decide +kernel
theorem dX8_begin_61 : decode cX8_begin 61 = .ok (.aload_n 0, 1) := by decide +kernel
theorem dX8_begin_62 : decode cX8_begin 62 = .ok (.getfield 85, 3) := by decide +kernel
theorem dX8_begin_65 : decode cX8_begin 65 = .ok (.ifCond .le 21, 3) := by decide +kernel
theorem dX8_begin_68 : decode cX8_begin 68 = .ok (.aload_n 0, 1) := by decide +kernel
theorem dX8_begin_69 : decode cX8_begin 69 = .ok (.getfield 57, 3) := by decide +kernel
theorem dX8_begin_72 : decode cX8_begin 72 = .ok (.iconst 0, 1) := by decide +kernel
theorem dX8_begin_73 : decode cX8_begin 73 = .ok (.iaload, 1) := by decide +kernel
theorem dX8_begin_74 : decode cX8_begin 74 = .ok (.bipush 47, 2) := by decide +kernel
theorem dX8_begin_76 : decode cX8_begin 76 = .ok (.if_icmp .ne 10, 3) := by decide +kernel
theorem dX8_begin_79 : decode cX8_begin 79 = .ok (.aload_n 0, 1) := by decide +kernel
theorem dX8_begin_80 : decode cX8_begin 80 = .ok (.getfield 108, 3) := by decide +kernel
theorem dX8_begin_83 : decode cX8_begin 83 = .ok (.goto 7, 3) := by decide +kernel
theorem dX8_begin_86 : decode cX8_begin 86 = .ok (.aload_n 0, 1) := by decide +kernel
theorem dX8_begin_87 : decode cX8_begin 87 = .ok (.getfield 111, 3) := by decide +kernel
theorem dX8_begin_90 : decode cX8_begin 90 = .ok (.putfield 114, 3) := by decide +kernel
theorem dX8_begin_93 : decode cX8_begin 93 = .ok (.aload_n 0, 1) := by decide +kernel
theorem dX8_begin_94 : decode cX8_begin 94 = .ok (.iconst 0, 1) := by decide +kernel
theorem dX8_begin_95 : decode cX8_begin 95 = .ok (.putfield 117, 3) := by decide +kernel
theorem dX8_begin_98 : decode cX8_begin 98 = .ok (.return_, 1) := by decide +kernel
theorem dX8_against_0 : decode cX8_against 0 = .ok (.aload_n 0, 1) := by decide +kernel
theorem dX8_against_1 : decode cX8_against 1 = .ok (.getfield 7, 3) := by decide +kernel
theorem dX8_against_4 : decode cX8_against 4 = .ok (.aload_n 0, 1) := by decide +kernel
theorem dX8_against_5 : decode cX8_against 5 = .ok (.getfield 114, 3) := by decide +kernel
theorem dX8_against_8 : decode cX8_against 8 = .ok (.iaload, 1) := by decide +kernel
theorem dX8_against_9 : decode cX8_against 9 = .ok (.iconst 1, 1) := by decide +kernel
theorem dX8_against_10 : decode cX8_against 10 = .ok (.if_icmp .eq 6, 3) := by decide +kernel
theorem dX8_against_13 : decode cX8_against 13 = .ok (.bipush (-2), 2) := by decide +kernel
theorem dX8_against_15 : decode cX8_against 15 = .ok (.ireturn, 1) := by decide +kernel
theorem dX8_against_16 : decode cX8_against 16 = .ok (.aload_n 0, 1) := by decide +kernel
theorem dX8_against_17 : decode cX8_against 17 = .ok (.aload_n 0, 1) := by decide +kernel
theorem dX8_against_18 : decode cX8_against 18 = .ok (.getfield 114, 3) := by decide +kernel
theorem dX8_against_21 : decode cX8_against 21 = .ok (.iconst 0, 1) := by decide +kernel
theorem dX8_against_22 : decode cX8_against 22 = .ok (.invokevirtual 120, 3) := by decide +kernel
theorem dX8_against_25 : decode cX8_against 25 = .ok (.ifCond .ne 6, 3) := by decide +kernel
theorem dX8_against_28 : decode cX8_against 28 = .ok (.bipush (-3), 2) := by decide +kernel
theorem dX8_against_30 : decode cX8_against 30 = .ok (.ireturn, 1) := by decide +kernel
theorem dX8_against_31 : decode cX8_against 31 = .ok (.aload_n 0, 1) := by decide +kernel
theorem dX8_against_32 : decode cX8_against 32 = .ok (.getfield 98, 3) := by decide +kernel
theorem dX8_against_35 : decode cX8_against 35 = .ok (.bipush 6, 2) := by decide +kernel
theorem dX8_against_37 : decode cX8_against 37 = .ok (.if_icmp .le 8, 3) := by decide +kernel
theorem dX8_against_40 : decode cX8_against 40 = .ok (.bipush (-5), 2) := by decide +kernel
theorem dX8_against_42 : decode cX8_against 42 = .ok (.goto 4, 3) := by decide +kernel
theorem dX8_against_45 : decode cX8_against 45 = .ok (.iconst 0, 1) := by decide +kernel
theorem dX8_against_46 : decode cX8_against 46 = .ok (.ireturn, 1) := by decide +kernel
theorem dX8_step_0 : decode cX8_step 0 = .ok (.aload_n 0, 1) := by decide +kernel
theorem dX8_step_1 : decode cX8_step 1 = .ok (.getfield 114, 3) := by decide +kernel
theorem dX8_step_4 : decode cX8_step 4 = .ok (.istore_n 2, 1) := by decide +kernel
theorem dX8_step_5 : decode cX8_step 5 = .ok (.aload_n 0, 1) := by decide +kernel
theorem dX8_step_6 : decode cX8_step 6 = .ok (.getfield 92, 3) := by decide +kernel
theorem dX8_step_9 : decode cX8_step 9 = .ok (.ldc2_w 124, 3) := by decide +kernel
theorem dX8_step_12 : decode cX8_step 12 = .ok (.lcmp, 1) := by decide +kernel
theorem dX8_step_13 : decode cX8_step 13 = .ok (.ifCond .ne 19, 3) := by decide +kernel
theorem dX8_step_16 : decode cX8_step 16 = .ok (.aload_n 0, 1) := by decide +kernel
theorem dX8_step_17 : decode cX8_step 17 = .ok (.aload_n 0, 1) := by decide +kernel
theorem dX8_step_18 : decode cX8_step 18 = .ok (.getfield 114, 3) := by decide +kernel
theorem dX8_step_21 : decode cX8_step 21 = .ok (.aload_n 0, 1) := by decide +kernel
theorem dX8_step_22 : decode cX8_step 22 = .ok (.getfield 108, 3) := by decide +kernel
theorem dX8_step_25 : decode cX8_step 25 = .ok (.invokevirtual 126, 3) := by decide +kernel
theorem dX8_step_28 : decode cX8_step 28 = .ok (.istore_n 2, 1) := by decide +kernel
theorem dX8_step_29 : decode cX8_step 29 = .ok (.goto 44, 3) := by decide +kernel
theorem dX8_step_32 : decode cX8_step 32 = .ok (.aload_n 0, 1) := by decide +kernel
theorem dX8_step_33 : decode cX8_step 33 = .ok (.getfield 92, 3) := by decide +kernel
theorem dX8_step_36 : decode cX8_step 36 = .ok (.ldc2_w 130, 3) := by decide +kernel
theorem dX8_step_39 : decode cX8_step 39 = .ok (.lcmp, 1) := by decide +kernel
theorem dX8_step_40 : decode cX8_step 40 = .ok (.ifCond .eq 33, 3) := by decide +kernel
theorem dX8_step_43 : decode cX8_step 43 = .ok (.aload_n 0, 1) := by decide +kernel
theorem dX8_step_44 : decode cX8_step 44 = .ok (.aload_n 0, 1) := by decide +kernel
theorem dX8_step_45 : decode cX8_step 45 = .ok (.getfield 114, 3) := by decide +kernel
theorem dX8_step_48 : decode cX8_step 48 = .ok (.aload_n 0, 1) := by decide +kernel
theorem dX8_step_49 : decode cX8_step 49 = .ok (.getfield 92, 3) := by decide +kernel
theorem dX8_step_52 : decode cX8_step 52 = .ok (.invokevirtual 132, 3) := by decide +kernel
theorem dX8_step_55 : decode cX8_step 55 = .ok (.istore_n 3, 1) := by decide +kernel
theorem dX8_step_56 : decode cX8_step 56 = .ok (.iload_n 3, 1) := by decide +kernel
theorem dX8_step_57 : decode cX8_step 57 = .ok (.ifCond .ge 5, 3) := by decide +kernel
theorem dX8_step_60 : decode cX8_step 60 = .ok (.iconst (-1), 1) := by decide +kernel
theorem dX8_step_61 : decode cX8_step 61 = .ok (.ireturn, 1) := by decide +kernel
theorem dX8_step_62 : decode cX8_step 62 = .ok (.aload_n 0, 1) := by decide +kernel
theorem dX8_step_63 : decode cX8_step 63 = .ok (.aload_n 0, 1) := by decide +kernel
theorem dX8_step_64 : decode cX8_step 64 = .ok (.getfield 38, 3) := by decide +kernel
theorem dX8_step_67 : decode cX8_step 67 = .ok (.iload_n 3, 1) := by decide +kernel
theorem dX8_step_68 : decode cX8_step 68 = .ok (.iaload, 1) := by decide +kernel
theorem dX8_step_69 : decode cX8_step 69 = .ok (.invokevirtual 79, 3) := by decide +kernel
theorem dX8_step_72 : decode cX8_step 72 = .ok (.istore_n 2, 1) := by decide +kernel
theorem dX8_step_73 : decode cX8_step 73 = .ok (.aload_n 0, 1) := by decide +kernel
theorem dX8_step_74 : decode cX8_step 74 = .ok (.getfield 7, 3) := by decide +kernel
theorem dX8_step_77 : decode cX8_step 77 = .ok (.iload_n 2, 1) := by decide +kernel
theorem dX8_step_78 : decode cX8_step 78 = .ok (.iaload, 1) := by decide +kernel
theorem dX8_step_79 : decode cX8_step 79 = .ok (.iconst 3, 1) := by decide +kernel
theorem dX8_step_80 : decode cX8_step 80 = .ok (.if_icmp .ne 91, 3) := by decide +kernel
theorem dX8_step_83 : decode cX8_step 83 = .ok (.aload_n 0, 1) := by decide +kernel
theorem dX8_step_84 : decode cX8_step 84 = .ok (.getfield 105, 3) := by decide +kernel
theorem dX8_step_87 : decode cX8_step 87 = .ok (.ifCond .eq 14, 3) := by decide +kernel
theorem dX8_step_90 : decode cX8_step 90 = .ok (.aload_n 0, 1) := by decide +kernel
theorem dX8_step_91 : decode cX8_step 91 = .ok (.getfield 101, 3) := by decide +kernel
theorem dX8_step_94 : decode cX8_step 94 = .ok (.ifCond .ne 7, 3) := by decide +kernel
theorem dX8_step_97 : decode cX8_step 97 = .ok (.iload_n 1, 1) := by decide +kernel
theorem dX8_step_98 : decode cX8_step 98 = .ok (.ifCond .eq 73, 3) := by decide +kernel
theorem dX8_step_101 : decode cX8_step 101 = .ok (.aload_n 0, 1) := by decide +kernel
theorem dX8_step_102 : decode cX8_step 102 = .ok (.aload_n 0, 1) := by decide +kernel
theorem dX8_step_103 : decode cX8_step 103 = .ok (.getfield 117, 3) := by decide +kernel
theorem dX8_step_106 : decode cX8_step 106 = .ok (.iconst 1, 1) := by decide +kernel
theorem dX8_step_107 : decode cX8_step 107 = .ok (.iadd, 1) := by decide +kernel
theorem dX8_step_108 : decode cX8_step 108 = .ok (.putfield 117, 3) := by decide +kernel
theorem dX8_step_111 : decode cX8_step 111 = .ok (.aload_n 0, 1) := by decide +kernel
theorem dX8_step_112 : decode cX8_step 112 = .ok (.getfield 117, 3) := by decide +kernel
theorem dX8_step_115 : decode cX8_step 115 = .ok (.bipush 8, 2) := by decide +kernel
theorem dX8_step_117 : decode cX8_step 117 = .ok (.if_icmp .le 6, 3) := by decide +kernel
theorem dX8_step_120 : decode cX8_step 120 = .ok (.bipush (-4), 2) := by decide +kernel
theorem dX8_step_122 : decode cX8_step 122 = .ok (.ireturn, 1) := by decide +kernel
theorem dX8_step_123 : decode cX8_step 123 = .ok (.aload_n 0, 1) := by decide +kernel
theorem dX8_step_124 : decode cX8_step 124 = .ok (.iload_n 2, 1) := by decide +kernel
theorem dX8_step_125 : decode cX8_step 125 = .ok (.invokevirtual 136, 3) := by decide +kernel
theorem dX8_step_128 : decode cX8_step 128 = .ok (.aload_n 0, 1) := by decide +kernel
theorem dX8_step_129 : decode cX8_step 129 = .ok (.getfield 85, 3) := by decide +kernel
theorem dX8_step_132 : decode cX8_step 132 = .ok (.bipush 60, 2) := by decide +kernel
theorem dX8_step_134 : decode cX8_step 134 = .ok (.if_icmp .le 6, 3) := by decide +kernel
theorem dX8_step_137 : decode cX8_step 137 = .ok (.bipush (-5), 2) := by decide +kernel
theorem dX8_step_139 : decode cX8_step 139 = .ok (.ireturn, 1) := by decide +kernel
theorem dX8_step_140 : decode cX8_step 140 = .ok (.aload_n 0, 1) := by decide +kernel
theorem dX8_step_141 : decode cX8_step 141 = .ok (.aload_n 0, 1) := by decide +kernel
theorem dX8_step_142 : decode cX8_step 142 = .ok (.getfield 25, 3) := by decide +kernel
theorem dX8_step_145 : decode cX8_step 145 = .ok (.bipush 40, 2) := by decide +kernel
theorem dX8_step_147 : decode cX8_step 147 = .ok (.iload_n 2, 1) := by decide +kernel
theorem dX8_step_148 : decode cX8_step 148 = .ok (.imul, 1) := by decide +kernel
theorem dX8_step_149 : decode cX8_step 149 = .ok (.iaload, 1) := by decide +kernel
theorem dX8_step_150 : decode cX8_step 150 = .ok (.bipush 47, 2) := by decide +kernel
theorem dX8_step_152 : decode cX8_step 152 = .ok (.if_icmp .ne 10, 3) := by decide +kernel
theorem dX8_step_155 : decode cX8_step 155 = .ok (.aload_n 0, 1) := by decide +kernel
theorem dX8_step_156 : decode cX8_step 156 = .ok (.getfield 108, 3) := by decide +kernel
theorem dX8_step_159 : decode cX8_step 159 = .ok (.goto 7, 3) := by decide +kernel
theorem dX8_step_162 : decode cX8_step 162 = .ok (.aload_n 0, 1) := by decide +kernel
theorem dX8_step_163 : decode cX8_step 163 = .ok (.getfield 114, 3) := by decide +kernel
theorem dX8_step_166 : decode cX8_step 166 = .ok (.putfield 114, 3) := by decide +kernel
theorem dX8_step_169 : decode cX8_step 169 = .ok (.iconst 0, 1) := by decide +kernel
theorem dX8_step_170 : decode cX8_step 170 = .ok (.ireturn, 1) := by decide +kernel
theorem dX8_step_171 : decode cX8_step 171 = .ok (.aload_n 0, 1) := by decide +kernel
theorem dX8_step_172 : decode cX8_step 172 = .ok (.iload_n 2, 1) := by decide +kernel
theorem dX8_step_173 : decode cX8_step 173 = .ok (.putfield 114, 3) := by decide +kernel
theorem dX8_step_176 : decode cX8_step 176 = .ok (.aload_n 0, 1) := by decide +kernel
theorem dX8_step_177 : decode cX8_step 177 = .ok (.getfield 101, 3) := by decide +kernel
theorem dX8_step_180 : decode cX8_step 180 = .ok (.ifCond .eq 18, 3) := by decide +kernel
theorem dX8_step_183 : decode cX8_step 183 = .ok (.aload_n 0, 1) := by decide +kernel
theorem dX8_step_184 : decode cX8_step 184 = .ok (.getfield 7, 3) := by decide +kernel
theorem dX8_step_187 : decode cX8_step 187 = .ok (.iload_n 2, 1) := by decide +kernel
theorem dX8_step_188 : decode cX8_step 188 = .ok (.iaload, 1) := by decide +kernel
theorem dX8_step_189 : decode cX8_step 189 = .ok (.iconst 1, 1) := by decide +kernel
theorem dX8_step_190 : decode cX8_step 190 = .ok (.if_icmp .eq 8, 3) := by decide +kernel
theorem dX8_step_193 : decode cX8_step 193 = .ok (.bipush (-2), 2) := by decide +kernel
theorem dX8_step_195 : decode cX8_step 195 = .ok (.goto 4, 3) := by decide +kernel
theorem dX8_step_198 : decode cX8_step 198 = .ok (.iconst 0, 1) := by decide +kernel
theorem dX8_step_199 : decode cX8_step 199 = .ok (.ireturn, 1) := by decide +kernel
