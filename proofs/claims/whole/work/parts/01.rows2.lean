theorem dX4_leastFree_0 : decode cX4_leastFree 0 = .ok (.iconst 0, 1) := by decide +kernel
theorem dX4_leastFree_1 : decode cX4_leastFree 1 = .ok (.istore_n 1, 1) := by decide +kernel
theorem dX4_leastFree_2 : decode cX4_leastFree 2 = .ok (.iload_n 1, 1) := by decide +kernel
theorem dX4_leastFree_3 : decode cX4_leastFree 3 = .ok (.bipush 40, 2) := by decide +kernel
theorem dX4_leastFree_5 : decode cX4_leastFree 5 = .ok (.if_icmp .ge 20, 3) := by decide +kernel
theorem dX4_leastFree_8 : decode cX4_leastFree 8 = .ok (.aload_n 0, 1) := by decide +kernel
theorem dX4_leastFree_9 : decode cX4_leastFree 9 = .ok (.getfield 9, 3) := by decide +kernel
theorem dX4_leastFree_12 : decode cX4_leastFree 12 = .ok (.iload_n 1, 1) := by decide +kernel
theorem dX4_leastFree_13 : decode cX4_leastFree 13 = .ok (.iaload, 1) := by decide +kernel
theorem dX4_leastFree_14 : decode cX4_leastFree 14 = .ok (.ifCond .ne 5, 3) := by decide +kernel
theorem dX4_leastFree_17 : decode cX4_leastFree 17 = .ok (.iload_n 1, 1) := by decide +kernel
theorem dX4_leastFree_18 : decode cX4_leastFree 18 = .ok (.ireturn, 1) := by decide +kernel
theorem dX4_leastFree_19 : decode cX4_leastFree 19 = .ok (.iinc 1 1, 3) := by decide +kernel
theorem dX4_leastFree_22 : decode cX4_leastFree 22 = .ok (.goto (-20), 3) := by decide +kernel
theorem dX4_leastFree_25 : decode cX4_leastFree 25 = .ok (.iconst (-1), 1) := by decide +kernel
theorem dX4_leastFree_26 : decode cX4_leastFree 26 = .ok (.ireturn, 1) := by decide +kernel
theorem dX4_put_0 : decode cX4_put 0 = .ok (.aload_n 0, 1) := by decide +kernel
theorem dX4_put_1 : decode cX4_put 1 = .ok (.getfield 9, 3) := by decide +kernel
theorem dX4_put_4 : decode cX4_put 4 = .ok (.iload_n 1, 1) := by decide +kernel
theorem dX4_put_5 : decode cX4_put 5 = .ok (.iload_n 2, 1) := by decide +kernel
theorem dX4_put_6 : decode cX4_put 6 = .ok (.iastore, 1) := by decide +kernel
theorem dX4_put_7 : decode cX4_put 7 = .ok (.aload_n 0, 1) := by decide +kernel
theorem dX4_put_8 : decode cX4_put 8 = .ok (.getfield 15, 3) := by decide +kernel
theorem dX4_put_11 : decode cX4_put 11 = .ok (.iload_n 1, 1) := by decide +kernel
theorem dX4_put_12 : decode cX4_put 12 = .ok (.iload_n 3, 1) := by decide +kernel
theorem dX4_put_13 : decode cX4_put 13 = .ok (.iastore, 1) := by decide +kernel
theorem dX4_put_14 : decode cX4_put 14 = .ok (.aload_n 0, 1) := by decide +kernel
theorem dX4_put_15 : decode cX4_put 15 = .ok (.getfield 18, 3) := by decide +kernel
theorem dX4_put_18 : decode cX4_put 18 = .ok (.iload_n 1, 1) := by decide +kernel
theorem dX4_put_19 : decode cX4_put 19 = .ok (.iload 4, 2) := by decide +kernel
theorem dX4_put_21 : decode cX4_put 21 = .ok (.iastore, 1) := by decide +kernel
theorem dX4_put_22 : decode cX4_put 22 = .ok (.aload_n 0, 1) := by decide +kernel
theorem dX4_put_23 : decode cX4_put 23 = .ok (.getfield 21, 3) := by decide +kernel
theorem dX4_put_26 : decode cX4_put 26 = .ok (.iload_n 1, 1) := by decide +kernel
theorem dX4_put_27 : decode cX4_put 27 = .ok (.iload 5, 2) := by decide +kernel
theorem dX4_put_29 : decode cX4_put 29 = .ok (.iastore, 1) := by decide +kernel
theorem dX4_put_30 : decode cX4_put 30 = .ok (.aload_n 0, 1) := by decide +kernel
theorem dX4_put_31 : decode cX4_put 31 = .ok (.getfield 24, 3) := by decide +kernel
theorem dX4_put_34 : decode cX4_put 34 = .ok (.iload_n 1, 1) := by decide +kernel
theorem dX4_put_35 : decode cX4_put 35 = .ok (.iload_n 1, 1) := by decide +kernel
theorem dX4_put_36 : decode cX4_put 36 = .ok (.iastore, 1) := by decide +kernel
theorem dX4_put_37 : decode cX4_put 37 = .ok (.return_, 1) := by decide +kernel
theorem dX4_free_0 : decode cX4_free 0 = .ok (.aload_n 0, 1) := by decide +kernel
theorem dX4_free_1 : decode cX4_free 1 = .ok (.getfield 9, 3) := by decide +kernel
theorem dX4_free_4 : decode cX4_free 4 = .ok (.iload_n 1, 1) := by decide +kernel
theorem dX4_free_5 : decode cX4_free 5 = .ok (.iconst 0, 1) := by decide +kernel
theorem dX4_free_6 : decode cX4_free 6 = .ok (.iastore, 1) := by decide +kernel
theorem dX4_free_7 : decode cX4_free 7 = .ok (.return_, 1) := by decide +kernel
theorem dX4_sort_0 : decode cX4_sort 0 = .ok (.aload_n 0, 1) := by decide +kernel
theorem dX4_sort_1 : decode cX4_sort 1 = .ok (.getfield 9, 3) := by decide +kernel
theorem dX4_sort_4 : decode cX4_sort 4 = .ok (.iload_n 1, 1) := by decide +kernel
theorem dX4_sort_5 : decode cX4_sort 5 = .ok (.iaload, 1) := by decide +kernel
theorem dX4_sort_6 : decode cX4_sort 6 = .ok (.ireturn, 1) := by decide +kernel
theorem dX4_isDirectory_0 : decode cX4_isDirectory 0 = .ok (.aload_n 0, 1) := by decide +kernel
theorem dX4_isDirectory_1 : decode cX4_isDirectory 1 = .ok (.getfield 9, 3) := by decide +kernel
theorem dX4_isDirectory_4 : decode cX4_isDirectory 4 = .ok (.iload_n 1, 1) := by decide +kernel
theorem dX4_isDirectory_5 : decode cX4_isDirectory 5 = .ok (.iaload, 1) := by decide +kernel
theorem dX4_isDirectory_6 : decode cX4_isDirectory 6 = .ok (.iconst 1, 1) := by decide +kernel
theorem dX4_isDirectory_7 : decode cX4_isDirectory 7 = .ok (.if_icmp .ne 7, 3) := by decide +kernel
theorem dX4_isDirectory_10 : decode cX4_isDirectory 10 = .ok (.iconst 1, 1) := by decide +kernel
theorem dX4_isDirectory_11 : decode cX4_isDirectory 11 = .ok (.goto 4, 3) := by decide +kernel
theorem dX4_isDirectory_14 : decode cX4_isDirectory 14 = .ok (.iconst 0, 1) := by decide +kernel
theorem dX4_isDirectory_15 : decode cX4_isDirectory 15 = .ok (.ireturn, 1) := by decide +kernel
theorem dX4_isLink_0 : decode cX4_isLink 0 = .ok (.aload_n 0, 1) := by decide +kernel
theorem dX4_isLink_1 : decode cX4_isLink 1 = .ok (.getfield 9, 3) := by decide +kernel
theorem dX4_isLink_4 : decode cX4_isLink 4 = .ok (.iload_n 1, 1) := by decide +kernel
theorem dX4_isLink_5 : decode cX4_isLink 5 = .ok (.iaload, 1) := by decide +kernel
theorem dX4_isLink_6 : decode cX4_isLink 6 = .ok (.iconst 3, 1) := by decide +kernel
theorem dX4_isLink_7 : decode cX4_isLink 7 = .ok (.if_icmp .ne 7, 3) := by decide +kernel
theorem dX4_isLink_10 : decode cX4_isLink 10 = .ok (.iconst 1, 1) := by decide +kernel
theorem dX4_isLink_11 : decode cX4_isLink 11 = .ok (.goto 4, 3) := by decide +kernel
theorem dX4_isLink_14 : decode cX4_isLink 14 = .ok (.iconst 0, 1) := by decide +kernel
theorem dX4_isLink_15 : decode cX4_isLink 15 = .ok (.ireturn, 1) := by decide +kernel
theorem dX4_mode_0 : decode cX4_mode 0 = .ok (.aload_n 0, 1) := by decide +kernel
theorem dX4_mode_1 : decode cX4_mode 1 = .ok (.getfield 15, 3) := by decide +kernel
theorem dX4_mode_4 : decode cX4_mode 4 = .ok (.iload_n 1, 1) := by decide +kernel
theorem dX4_mode_5 : decode cX4_mode 5 = .ok (.iaload, 1) := by decide +kernel
theorem dX4_mode_6 : decode cX4_mode 6 = .ok (.ireturn, 1) := by decide +kernel
theorem dX4_setMode_0 : decode cX4_setMode 0 = .ok (.aload_n 0, 1) := by decide +kernel
theorem dX4_setMode_1 : decode cX4_setMode 1 = .ok (.getfield 15, 3) := by decide +kernel
theorem dX4_setMode_4 : decode cX4_setMode 4 = .ok (.iload_n 1, 1) := by decide +kernel
theorem dX4_setMode_5 : decode cX4_setMode 5 = .ok (.iload_n 2, 1) := by decide +kernel
theorem dX4_setMode_6 : decode cX4_setMode 6 = .ok (.iastore, 1) := by decide +kernel
theorem dX4_setMode_7 : decode cX4_setMode 7 = .ok (.return_, 1) := by decide +kernel
theorem dX4_owner_0 : decode cX4_owner 0 = .ok (.aload_n 0, 1) := by decide +kernel
theorem dX4_owner_1 : decode cX4_owner 1 = .ok (.getfield 18, 3) := by decide +kernel
theorem dX4_owner_4 : decode cX4_owner 4 = .ok (.iload_n 1, 1) := by decide +kernel
theorem dX4_owner_5 : decode cX4_owner 5 = .ok (.iaload, 1) := by decide +kernel
theorem dX4_owner_6 : decode cX4_owner 6 = .ok (.ireturn, 1) := by decide +kernel
theorem dX4_volumeOf_0 : decode cX4_volumeOf 0 = .ok (.aload_n 0, 1) := by decide +kernel
theorem dX4_volumeOf_1 : decode cX4_volumeOf 1 = .ok (.getfield 21, 3) := by decide +kernel
theorem dX4_volumeOf_4 : decode cX4_volumeOf 4 = .ok (.iload_n 1, 1) := by decide +kernel
theorem dX4_volumeOf_5 : decode cX4_volumeOf 5 = .ok (.iaload, 1) := by decide +kernel
theorem dX4_volumeOf_6 : decode cX4_volumeOf 6 = .ok (.ireturn, 1) := by decide +kernel
theorem dX4_parent_0 : decode cX4_parent 0 = .ok (.aload_n 0, 1) := by decide +kernel
theorem dX4_parent_1 : decode cX4_parent 1 = .ok (.getfield 24, 3) := by decide +kernel
theorem dX4_parent_4 : decode cX4_parent 4 = .ok (.iload_n 1, 1) := by decide +kernel
theorem dX4_parent_5 : decode cX4_parent 5 = .ok (.iaload, 1) := by decide +kernel
theorem dX4_parent_6 : decode cX4_parent 6 = .ok (.ireturn, 1) := by decide +kernel
theorem dX4_setParent_0 : decode cX4_setParent 0 = .ok (.aload_n 0, 1) := by decide +kernel
theorem dX4_setParent_1 : decode cX4_setParent 1 = .ok (.getfield 24, 3) := by decide +kernel
theorem dX4_setParent_4 : decode cX4_setParent 4 = .ok (.iload_n 1, 1) := by decide +kernel
theorem dX4_setParent_5 : decode cX4_setParent 5 = .ok (.iload_n 2, 1) := by decide +kernel
theorem dX4_setParent_6 : decode cX4_setParent 6 = .ok (.iastore, 1) := by decide +kernel
theorem dX4_setParent_7 : decode cX4_setParent 7 = .ok (.return_, 1) := by decide +kernel
theorem dX4_target_0 : decode cX4_target 0 = .ok (.aload_n 0, 1) := by decide +kernel
theorem dX4_target_1 : decode cX4_target 1 = .ok (.getfield 29, 3) := by decide +kernel
theorem dX4_target_4 : decode cX4_target 4 = .ok (.iload_n 1, 1) := by decide +kernel
theorem dX4_target_5 : decode cX4_target 5 = .ok (.aaload, 1) := by decide +kernel
theorem dX4_target_6 : decode cX4_target 6 = .ok (.areturn, 1) := by decide +kernel
theorem dX4_setTarget_0 : decode cX4_setTarget 0 = .ok (.aload_n 0, 1) := by decide +kernel
theorem dX4_setTarget_1 : decode cX4_setTarget 1 = .ok (.getfield 29, 3) := by decide +kernel
theorem dX4_setTarget_4 : decode cX4_setTarget 4 = .ok (.iload_n 1, 1) := by decide +kernel
theorem dX4_setTarget_5 : decode cX4_setTarget 5 = .ok (.aaload, 1) := by decide +kernel
theorem dX4_setTarget_6 : decode cX4_setTarget 6 = .ok (.ifnonnull 16, 3) := by decide +kernel
theorem dX4_setTarget_9 : decode cX4_setTarget 9 = .ok (.aload_n 0, 1) := by decide +kernel
theorem dX4_setTarget_10 : decode cX4_setTarget 10 = .ok (.getfield 29, 3) := by decide +kernel
theorem dX4_setTarget_13 : decode cX4_setTarget 13 = .ok (.iload_n 1, 1) := by decide +kernel
theorem dX4_setTarget_14 : decode cX4_setTarget 14 = .ok (.new 27, 3) := by decide +kernel
theorem dX4_setTarget_17 : decode cX4_setTarget 17 = .ok (.dup, 1) := by decide +kernel
theorem dX4_setTarget_18 : decode cX4_setTarget 18 = .ok (.invokespecial 33, 3) := by decide +kernel
theorem dX4_setTarget_21 : decode cX4_setTarget 21 = .ok (.aastore, 1) := by decide +kernel
theorem dX4_setTarget_22 : decode cX4_setTarget 22 = .ok (.aload_n 0, 1) := by decide +kernel
theorem dX4_setTarget_23 : decode cX4_setTarget 23 = .ok (.getfield 29, 3) := by decide +kernel
theorem dX4_setTarget_26 : decode cX4_setTarget 26 = .ok (.iload_n 1, 1) := by decide +kernel
theorem dX4_setTarget_27 : decode cX4_setTarget 27 = .ok (.aaload, 1) := by decide +kernel
theorem dX4_setTarget_28 : decode cX4_setTarget 28 = .ok (.aload_n 2, 1) := by decide +kernel
theorem dX4_setTarget_29 : decode cX4_setTarget 29 = .ok (.invokevirtual 34, 3) := by decide +kernel
theorem dX4_setTarget_32 : decode cX4_setTarget 32 = .ok (.return_, 1) := by decide +kernel
theorem dX5_init_0 : decode cX5_init 0 = .ok (.aload_n 0, 1) := by decide +kernel
theorem dX5_init_1 : decode cX5_init 1 = .ok (.invokespecial 3, 3) := by decide +kernel
theorem dX5_init_4 : decode cX5_init 4 = .ok (.aload_n 0, 1) := by decide +kernel
theorem dX5_init_5 : decode cX5_init 5 = .ok (.iconst 4, 1) := by decide +kernel
theorem dX5_init_6 : decode cX5_init 6 = .ok (.newarray .int, 2) := by decide +kernel
theorem dX5_init_8 : decode cX5_init 8 = .ok (.putfield 9, 3) := by decide +kernel
theorem dX5_init_11 : decode cX5_init 11 = .ok (.aload_n 0, 1) := by decide +kernel
theorem dX5_init_12 : decode cX5_init 12 = .ok (.iconst 4, 1) := by decide +kernel
theorem dX5_init_13 : decode cX5_init 13 = .ok (.newarray .int, 2) := by decide +kernel
theorem dX5_init_15 : decode cX5_init 15 = .ok (.putfield 15, 3) := by decide +kernel
theorem dX5_init_18 : decode cX5_init 18 = .ok (.aload_n 0, 1) := by decide +kernel
theorem dX5_init_19 : decode cX5_init 19 = .ok (.aload_n 1, 1) := by decide +kernel
theorem dX5_init_20 : decode cX5_init 20 = .ok (.putfield 18, 3) := by decide +kernel
theorem dX5_init_23 : decode cX5_init 23 = .ok (.aload_n 0, 1) := by decide +kernel
theorem dX5_init_24 : decode cX5_init 24 = .ok (.getfield 15, 3) := by decide +kernel
theorem dX5_init_27 : decode cX5_init 27 = .ok (.iconst (-1), 1) := by decide +kernel
theorem dX5_init_28 : decode cX5_init 28 = .ok (.invokestatic 22, 3) := by decide +kernel
theorem dX5_init_31 : decode cX5_init 31 = .ok (.return_, 1) := by decide +kernel
theorem dX5_isFull_0 : decode cX5_isFull 0 = .ok (.aload_n 0, 1) := by decide +kernel
theorem dX5_isFull_1 : decode cX5_isFull 1 = .ok (.getfield 28, 3) := by decide +kernel
theorem dX5_isFull_4 : decode cX5_isFull 4 = .ok (.iconst 4, 1) := by decide +kernel
theorem dX5_isFull_5 : decode cX5_isFull 5 = .ok (.if_icmp .lt 7, 3) := by decide +kernel
theorem dX5_isFull_8 : decode cX5_isFull 8 = .ok (.iconst 1, 1) := by decide +kernel
theorem dX5_isFull_9 : decode cX5_isFull 9 = .ok (.goto 4, 3) := by decide +kernel
theorem dX5_isFull_12 : decode cX5_isFull 12 = .ok (.iconst 0, 1) := by decide +kernel
theorem dX5_isFull_13 : decode cX5_isFull 13 = .ok (.ireturn, 1) := by decide +kernel
theorem dX5_add_0 : decode cX5_add 0 = .ok (.aload_n 0, 1) := by decide +kernel
theorem dX5_add_1 : decode cX5_add 1 = .ok (.getfield 28, 3) := by decide +kernel
theorem dX5_add_4 : decode cX5_add 4 = .ok (.iconst 4, 1) := by decide +kernel
theorem dX5_add_5 : decode cX5_add 5 = .ok (.if_icmp .lt 5, 3) := by decide +kernel
theorem dX5_add_8 : decode cX5_add 8 = .ok (.iconst (-1), 1) := by decide +kernel
theorem dX5_add_9 : decode cX5_add 9 = .ok (.ireturn, 1) := by decide +kernel
theorem dX5_add_10 : decode cX5_add 10 = .ok (.aload_n 0, 1) := by decide +kernel
theorem dX5_add_11 : decode cX5_add 11 = .ok (.getfield 9, 3) := by decide +kernel
theorem dX5_add_14 : decode cX5_add 14 = .ok (.aload_n 0, 1) := by decide +kernel
theorem dX5_add_15 : decode cX5_add 15 = .ok (.getfield 28, 3) := by decide +kernel
theorem dX5_add_18 : decode cX5_add 18 = .ok (.iload_n 1, 1) := by decide +kernel
theorem dX5_add_19 : decode cX5_add 19 = .ok (.iastore, 1) := by decide +kernel
theorem dX5_add_20 : decode cX5_add 20 = .ok (.aload_n 0, 1) := by decide +kernel
theorem dX5_add_21 : decode cX5_add 21 = .ok (.dup, 1) := by decide +kernel
theorem dX5_add_22 : decode cX5_add 22 = .ok (.getfield 28, 3) := by decide +kernel
theorem dX5_add_25 : decode cX5_add 25 = .ok (.iconst 1, 1) := by decide +kernel
theorem dX5_add_26 : decode cX5_add 26 = .ok (.iadd, 1) := by decide +kernel
theorem dX5_add_27 : decode cX5_add 27 = .ok (.putfield 28, 3) := by decide +kernel
theorem dX5_add_30 : decode cX5_add 30 = .ok (.aload_n 0, 1) := by decide +kernel
theorem dX5_add_31 : decode cX5_add 31 = .ok (.getfield 28, 3) := by decide +kernel
theorem dX5_add_34 : decode cX5_add 34 = .ok (.iconst 1, 1) := by decide +kernel
theorem dX5_add_35 : decode cX5_add 35 = .ok (.isub, 1) := by decide +kernel
theorem dX5_add_36 : decode cX5_add 36 = .ok (.ireturn, 1) := by decide +kernel
theorem dX5_mayBeMounted_0 : decode cX5_mayBeMounted 0 = .ok (.iload_n 1, 1) := by decide +kernel
theorem dX5_mayBeMounted_1 : decode cX5_mayBeMounted 1 = .ok (.ifCond .le 15, 3) := by decide +kernel
theorem dX5_mayBeMounted_4 : decode cX5_mayBeMounted 4 = .ok (.iload_n 1, 1) := by decide +kernel
theorem dX5_mayBeMounted_5 : decode cX5_mayBeMounted 5 = .ok (.aload_n 0, 1) := by decide +kernel
theorem dX5_mayBeMounted_6 : decode cX5_mayBeMounted 6 = .ok (.getfield 28, 3) := by decide +kernel
theorem dX5_mayBeMounted_9 : decode cX5_mayBeMounted 9 = .ok (.if_icmp .ge 7, 3) := by decide +kernel
theorem dX5_mayBeMounted_12 : decode cX5_mayBeMounted 12 = .ok (.iconst 1, 1) := by decide +kernel
theorem dX5_mayBeMounted_13 : decode cX5_mayBeMounted 13 = .ok (.goto 4, 3) := by decide +kernel
theorem dX5_mayBeMounted_16 : decode cX5_mayBeMounted 16 = .ok (.iconst 0, 1) := by decide +kernel
theorem dX5_mayBeMounted_17 : decode cX5_mayBeMounted 17 = .ok (.ireturn, 1) := by decide +kernel
theorem dX5_isMounted_0 : decode cX5_isMounted 0 = .ok (.aload_n 0, 1) := by decide +kernel
theorem dX5_isMounted_1 : decode cX5_isMounted 1 = .ok (.getfield 15, 3) := by decide +kernel
theorem dX5_isMounted_4 : decode cX5_isMounted 4 = .ok (.iload_n 1, 1) := by decide +kernel
theorem dX5_isMounted_5 : decode cX5_isMounted 5 = .ok (.iaload, 1) := by decide +kernel
theorem dX5_isMounted_6 : decode cX5_isMounted 6 = .ok (.iconst (-1), 1) := by decide +kernel
theorem dX5_isMounted_7 : decode cX5_isMounted 7 = .ok (.if_icmp .eq 7, 3) := by decide +kernel
theorem dX5_isMounted_10 : decode cX5_isMounted 10 = .ok (.iconst 1, 1) := by decide +kernel
theorem dX5_isMounted_11 : decode cX5_isMounted 11 = .ok (.goto 4, 3) := by decide +kernel
theorem dX5_isMounted_14 : decode cX5_isMounted 14 = .ok (.iconst 0, 1) := by decide +kernel
theorem dX5_isMounted_15 : decode cX5_isMounted 15 = .ok (.ireturn, 1) := by decide +kernel
theorem dX5_cover_0 : decode cX5_cover 0 = .ok (.aload_n 0, 1) := by decide +kernel
theorem dX5_cover_1 : decode cX5_cover 1 = .ok (.getfield 15, 3) := by decide +kernel
theorem dX5_cover_4 : decode cX5_cover 4 = .ok (.iload_n 1, 1) := by decide +kernel
theorem dX5_cover_5 : decode cX5_cover 5 = .ok (.iload_n 2, 1) := by decide +kernel
theorem dX5_cover_6 : decode cX5_cover 6 = .ok (.iastore, 1) := by decide +kernel
theorem dX5_cover_7 : decode cX5_cover 7 = .ok (.return_, 1) := by decide +kernel
theorem dX5_uncover_0 : decode cX5_uncover 0 = .ok (.aload_n 0, 1) := by decide +kernel
theorem dX5_uncover_1 : decode cX5_uncover 1 = .ok (.getfield 15, 3) := by decide +kernel
theorem dX5_uncover_4 : decode cX5_uncover 4 = .ok (.iload_n 1, 1) := by decide +kernel
theorem dX5_uncover_5 : decode cX5_uncover 5 = .ok (.iconst (-1), 1) := by decide +kernel
theorem dX5_uncover_6 : decode cX5_uncover 6 = .ok (.iastore, 1) := by decide +kernel
theorem dX5_uncover_7 : decode cX5_uncover 7 = .ok (.return_, 1) := by decide +kernel
theorem dX5_covering_0 : decode cX5_covering 0 = .ok (.iconst 1, 1) := by decide +kernel
theorem dX5_covering_1 : decode cX5_covering 1 = .ok (.istore_n 2, 1) := by decide +kernel
theorem dX5_covering_2 : decode cX5_covering 2 = .ok (.iload_n 2, 1) := by decide +kernel
theorem dX5_covering_3 : decode cX5_covering 3 = .ok (.aload_n 0, 1) := by decide +kernel
theorem dX5_covering_4 : decode cX5_covering 4 = .ok (.getfield 28, 3) := by decide +kernel
theorem dX5_covering_7 : decode cX5_covering 7 = .ok (.if_icmp .ge 21, 3) := by decide +kernel
theorem dX5_covering_10 : decode cX5_covering 10 = .ok (.aload_n 0, 1) := by decide +kernel
theorem dX5_covering_11 : decode cX5_covering 11 = .ok (.getfield 15, 3) := by decide +kernel
theorem dX5_covering_14 : decode cX5_covering 14 = .ok (.iload_n 2, 1) := by decide +kernel
theorem dX5_covering_15 : decode cX5_covering 15 = .ok (.iaload, 1) := by decide +kernel
theorem dX5_covering_16 : decode cX5_covering 16 = .ok (.iload_n 1, 1) := by decide +kernel
theorem dX5_covering_17 : decode cX5_covering 17 = .ok (.if_icmp .ne 5, 3) := by decide +kernel
theorem dX5_covering_20 : decode cX5_covering 20 = .ok (.iload_n 2, 1) := by decide +kernel
theorem dX5_covering_21 : decode cX5_covering 21 = .ok (.ireturn, 1) := by decide +kernel
theorem dX5_covering_22 : decode cX5_covering 22 = .ok (.iinc 2 1, 3) := by decide +kernel
theorem dX5_covering_25 : decode cX5_covering 25 = .ok (.goto (-23), 3) := by decide +kernel
theorem dX5_covering_28 : decode cX5_covering 28 = .ok (.iconst 0, 1) := by decide +kernel
theorem dX5_covering_29 : decode cX5_covering 29 = .ok (.ireturn, 1) := by decide +kernel
theorem dX5_mountedWithRoot_0 : decode cX5_mountedWithRoot 0 = .ok (.iconst 1, 1) := by decide +kernel
theorem dX5_mountedWithRoot_1 : decode cX5_mountedWithRoot 1 = .ok (.istore_n 2, 1) := by decide +kernel
theorem dX5_mountedWithRoot_2 : decode cX5_mountedWithRoot 2 = .ok (.iload_n 2, 1) := by decide +kernel
theorem dX5_mountedWithRoot_3 : decode cX5_mountedWithRoot 3 = .ok (.aload_n 0, 1) := by decide +kernel
theorem dX5_mountedWithRoot_4 : decode cX5_mountedWithRoot 4 = .ok (.getfield 28, 3) := by decide +kernel
theorem dX5_mountedWithRoot_7 : decode cX5_mountedWithRoot 7 = .ok (.if_icmp .ge 31, 3) := by decide +kernel
theorem dX5_mountedWithRoot_10 : decode cX5_mountedWithRoot 10 = .ok (.aload_n 0, 1) := by decide +kernel
theorem dX5_mountedWithRoot_11 : decode cX5_mountedWithRoot 11 = .ok (.getfield 9, 3) := by decide +kernel
theorem dX5_mountedWithRoot_14 : decode cX5_mountedWithRoot 14 = .ok (.iload_n 2, 1) := by decide +kernel
theorem dX5_mountedWithRoot_15 : decode cX5_mountedWithRoot 15 = .ok (.iaload, 1) := by decide +kernel
theorem dX5_mountedWithRoot_16 : decode cX5_mountedWithRoot 16 = .ok (.iload_n 1, 1) := by decide +kernel
theorem dX5_mountedWithRoot_17 : decode cX5_mountedWithRoot 17 = .ok (.if_icmp .ne 15, 3) := by decide +kernel
theorem dX5_mountedWithRoot_20 : decode cX5_mountedWithRoot 20 = .ok (.aload_n 0, 1) := by decide +kernel
theorem dX5_mountedWithRoot_21 : decode cX5_mountedWithRoot 21 = .ok (.getfield 15, 3) := by decide +kernel
theorem dX5_mountedWithRoot_24 : decode cX5_mountedWithRoot 24 = .ok (.iload_n 2, 1) := by decide +kernel
theorem dX5_mountedWithRoot_25 : decode cX5_mountedWithRoot 25 = .ok (.iaload, 1) := by decide +kernel
theorem dX5_mountedWithRoot_26 : decode cX5_mountedWithRoot 26 = .ok (.iconst (-1), 1) := by decide +kernel
theorem dX5_mountedWithRoot_27 : decode cX5_mountedWithRoot 27 = .ok (.if_icmp .eq 5, 3) := by decide +kernel
theorem dX5_mountedWithRoot_30 : decode cX5_mountedWithRoot 30 = .ok (.iload_n 2, 1) := by decide +kernel
theorem dX5_mountedWithRoot_31 : decode cX5_mountedWithRoot 31 = .ok (.ireturn, 1) := by decide +kernel
theorem dX5_mountedWithRoot_32 : decode cX5_mountedWithRoot 32 = .ok (.iinc 2 1, 3) := by decide +kernel
theorem dX5_mountedWithRoot_35 : decode cX5_mountedWithRoot 35 = .ok (.goto (-33), 3) := by decide +kernel
theorem dX5_mountedWithRoot_38 : decode cX5_mountedWithRoot 38 = .ok (.iconst (-1), 1) := by decide +kernel
theorem dX5_mountedWithRoot_39 : decode cX5_mountedWithRoot 39 = .ok (.ireturn, 1) := by decide +kernel
theorem dX5_hasCovered_0 : decode cX5_hasCovered 0 = .ok (.iconst 1, 1) := by decide +kernel
theorem dX5_hasCovered_1 : decode cX5_hasCovered 1 = .ok (.istore_n 2, 1) := by decide +kernel
theorem dX5_hasCovered_2 : decode cX5_hasCovered 2 = .ok (.iload_n 2, 1) := by decide +kernel
theorem dX5_hasCovered_3 : decode cX5_hasCovered 3 = .ok (.aload_n 0, 1) := by decide +kernel
theorem dX5_hasCovered_4 : decode cX5_hasCovered 4 = .ok (.getfield 28, 3) := by decide +kernel
theorem dX5_hasCovered_7 : decode cX5_hasCovered 7 = .ok (.if_icmp .ge 38, 3) := by decide +kernel
theorem dX5_hasCovered_10 : decode cX5_hasCovered 10 = .ok (.aload_n 0, 1) := by decide +kernel
theorem dX5_hasCovered_11 : decode cX5_hasCovered 11 = .ok (.getfield 15, 3) := by decide +kernel
theorem dX5_hasCovered_14 : decode cX5_hasCovered 14 = .ok (.iload_n 2, 1) := by decide +kernel
theorem dX5_hasCovered_15 : decode cX5_hasCovered 15 = .ok (.iaload, 1) := by decide +kernel
theorem dX5_hasCovered_16 : decode cX5_hasCovered 16 = .ok (.iconst (-1), 1) := by decide +kernel
theorem dX5_hasCovered_17 : decode cX5_hasCovered 17 = .ok (.if_icmp .eq 22, 3) := by decide +kernel
theorem dX5_hasCovered_20 : decode cX5_hasCovered 20 = .ok (.aload_n 0, 1) := by decide +kernel
theorem dX5_hasCovered_21 : decode cX5_hasCovered 21 = .ok (.getfield 18, 3) := by decide +kernel
theorem dX5_hasCovered_24 : decode cX5_hasCovered 24 = .ok (.aload_n 0, 1) := by decide +kernel
theorem dX5_hasCovered_25 : decode cX5_hasCovered 25 = .ok (.getfield 15, 3) := by decide +kernel
theorem dX5_hasCovered_28 : decode cX5_hasCovered 28 = .ok (.iload_n 2, 1) := by decide +kernel
theorem dX5_hasCovered_29 : decode cX5_hasCovered 29 = .ok (.iaload, 1) := by decide +kernel
theorem dX5_hasCovered_30 : decode cX5_hasCovered 30 = .ok (.invokevirtual 32, 3) := by decide +kernel
theorem dX5_hasCovered_33 : decode cX5_hasCovered 33 = .ok (.iload_n 1, 1) := by decide +kernel
theorem dX5_hasCovered_34 : decode cX5_hasCovered 34 = .ok (.if_icmp .ne 5, 3) := by decide +kernel
theorem dX5_hasCovered_37 : decode cX5_hasCovered 37 = .ok (.iconst 1, 1) := by decide +kernel
theorem dX5_hasCovered_38 : decode cX5_hasCovered 38 = .ok (.ireturn, 1) := by decide +kernel
theorem dX5_hasCovered_39 : decode cX5_hasCovered 39 = .ok (.iinc 2 1, 3) := by decide +kernel
theorem dX5_hasCovered_42 : decode cX5_hasCovered 42 = .ok (.goto (-40), 3) := by decide +kernel
theorem dX5_hasCovered_45 : decode cX5_hasCovered 45 = .ok (.iconst 0, 1) := by decide +kernel
theorem dX5_hasCovered_46 : decode cX5_hasCovered 46 = .ok (.ireturn, 1) := by decide +kernel
theorem dX5_top_0 : decode cX5_top 0 = .ok (.iload_n 1, 1) := by decide +kernel
theorem dX5_top_1 : decode cX5_top 1 = .ok (.istore_n 2, 1) := by decide +kernel
theorem dX5_top_2 : decode cX5_top 2 = .ok (.iconst 0, 1) := by decide +kernel
theorem dX5_top_3 : decode cX5_top 3 = .ok (.istore_n 3, 1) := by decide +kernel
theorem dX5_top_4 : decode cX5_top 4 = .ok (.iload_n 3, 1) := by decide +kernel
theorem dX5_top_5 : decode cX5_top 5 = .ok (.iconst 4, 1) := by decide +kernel
theorem dX5_top_6 : decode cX5_top 6 = .ok (.if_icmp .ge 31, 3) := by decide +kernel
theorem dX5_top_9 : decode cX5_top 9 = .ok (.aload_n 0, 1) := by decide +kernel
theorem dX5_top_10 : decode cX5_top 10 = .ok (.iload_n 2, 1) := by decide +kernel
theorem dX5_top_11 : decode cX5_top 11 = .ok (.invokevirtual 38, 3) := by decide +kernel
theorem dX5_top_14 : decode cX5_top 14 = .ok (.istore 4, 2) := by decide +kernel
theorem dX5_top_16 : decode cX5_top 16 = .ok (.iload 4, 2) := by decide +kernel
theorem dX5_top_18 : decode cX5_top 18 = .ok (.ifCond .ne 5, 3) := by decide +kernel
theorem dX5_top_21 : decode cX5_top 21 = .ok (.iload_n 2, 1) := by decide +kernel
theorem dX5_top_22 : decode cX5_top 22 = .ok (.ireturn, 1) := by decide +kernel
theorem dX5_top_23 : decode cX5_top 23 = .ok (.aload_n 0, 1) := by decide +kernel
theorem dX5_top_24 : decode cX5_top 24 = .ok (.getfield 9, 3) := by decide +kernel
theorem dX5_top_27 : decode cX5_top 27 = .ok (.iload 4, 2) := by decide +kernel
theorem dX5_top_29 : decode cX5_top 29 = .ok (.iaload, 1) := by decide +kernel
theorem dX5_top_30 : decode cX5_top 30 = .ok (.istore_n 2, 1) := by decide +kernel
theorem dX5_top_31 : decode cX5_top 31 = .ok (.iinc 3 1, 3) := by decide +kernel
theorem dX5_top_34 : decode cX5_top 34 = .ok (.goto (-30), 3) := by decide +kernel
theorem dX5_top_37 : decode cX5_top 37 = .ok (.iload_n 2, 1) := by decide +kernel
theorem dX5_top_38 : decode cX5_top 38 = .ok (.ireturn, 1) := by decide +kernel
theorem dX5_ground_0 : decode cX5_ground 0 = .ok (.iload_n 1, 1) := by decide +kernel
theorem dX5_ground_1 : decode cX5_ground 1 = .ok (.istore_n 2, 1) := by decide +kernel
theorem dX5_ground_2 : decode cX5_ground 2 = .ok (.iconst 0, 1) := by decide +kernel
theorem dX5_ground_3 : decode cX5_ground 3 = .ok (.istore_n 3, 1) := by decide +kernel
theorem dX5_ground_4 : decode cX5_ground 4 = .ok (.iload_n 3, 1) := by decide +kernel
theorem dX5_ground_5 : decode cX5_ground 5 = .ok (.iconst 4, 1) := by decide +kernel
theorem dX5_ground_6 : decode cX5_ground 6 = .ok (.if_icmp .ge 32, 3) := by decide +kernel
theorem dX5_ground_9 : decode cX5_ground 9 = .ok (.aload_n 0, 1) := by decide +kernel
theorem dX5_ground_10 : decode cX5_ground 10 = .ok (.iload_n 2, 1) := by decide +kernel
theorem dX5_ground_11 : decode cX5_ground 11 = .ok (.invokevirtual 41, 3) := by decide +kernel
theorem dX5_ground_14 : decode cX5_ground 14 = .ok (.istore 4, 2) := by decide +kernel
theorem dX5_ground_16 : decode cX5_ground 16 = .ok (.iload 4, 2) := by decide +kernel
theorem dX5_ground_18 : decode cX5_ground 18 = .ok (.iconst (-1), 1) := by decide +kernel
theorem dX5_ground_19 : decode cX5_ground 19 = .ok (.if_icmp .ne 5, 3) := by decide +kernel
theorem dX5_ground_22 : decode cX5_ground 22 = .ok (.iload_n 2, 1) := by decide +kernel
theorem dX5_ground_23 : decode cX5_ground 23 = .ok (.ireturn, 1) := by decide +kernel
theorem dX5_ground_24 : decode cX5_ground 24 = .ok (.aload_n 0, 1) := by decide +kernel
theorem dX5_ground_25 : decode cX5_ground 25 = .ok (.getfield 15, 3) := by decide +kernel
theorem dX5_ground_28 : decode cX5_ground 28 = .ok (.iload 4, 2) := by decide +kernel
theorem dX5_ground_30 : decode cX5_ground 30 = .ok (.iaload, 1) := by decide +kernel
theorem dX5_ground_31 : decode cX5_ground 31 = .ok (.istore_n 2, 1) := by decide +kernel
theorem dX5_ground_32 : decode cX5_ground 32 = .ok (.iinc 3 1, 3) := by decide +kernel
theorem dX5_ground_35 : decode cX5_ground 35 = .ok (.goto (-31), 3) := by decide +kernel
theorem dX5_ground_38 : decode cX5_ground 38 = .ok (.iload_n 2, 1) := by decide +kernel
theorem dX5_ground_39 : decode cX5_ground 39 = .ok (.ireturn, 1) := by decide +kernel
theorem dX5_above_0 : decode cX5_above 0 = .ok (.iload_n 1, 1) := by decide +kernel
theorem dX5_above_1 : decode cX5_above 1 = .ok (.iload_n 2, 1) := by decide +kernel
theorem dX5_above_2 : decode cX5_above 2 = .ok (.if_icmp .ne 7, 3) := by decide +kernel
theorem dX5_above_5 : decode cX5_above 5 = .ok (.iload_n 2, 1) := by decide +kernel
theorem dX5_above_6 : decode cX5_above 6 = .ok (.goto 19, 3) := by decide +kernel
theorem dX5_above_9 : decode cX5_above 9 = .ok (.aload_n 0, 1) := by decide +kernel
theorem dX5_above_10 : decode cX5_above 10 = .ok (.aload_n 0, 1) := by decide +kernel
theorem dX5_above_11 : decode cX5_above 11 = .ok (.getfield 18, 3) := by decide +kernel
theorem dX5_above_14 : decode cX5_above 14 = .ok (.aload_n 0, 1) := by decide +kernel
theorem dX5_above_15 : decode cX5_above 15 = .ok (.iload_n 1, 1) := by decide +kernel
theorem dX5_above_16 : decode cX5_above 16 = .ok (.invokevirtual 44, 3) := by decide +kernel
theorem dX5_above_19 : decode cX5_above 19 = .ok (.invokevirtual 47, 3) := by decide +kernel
theorem dX5_above_22 : decode cX5_above 22 = .ok (.invokevirtual 50, 3) := by decide +kernel
theorem dX5_above_25 : decode cX5_above 25 = .ok (.ireturn, 1) := by decide +kernel
theorem dX6_init_0 : decode cX6_init 0 = .ok (.aload_n 0, 1) := by decide +kernel
theorem dX6_init_1 : decode cX6_init 1 = .ok (.invokespecial 3, 3) := by decide +kernel
theorem dX6_init_4 : decode cX6_init 4 = .ok (.aload_n 0, 1) := by decide +kernel
theorem dX6_init_5 : decode cX6_init 5 = .ok (.new 9, 3) := by decide +kernel
theorem dX6_init_8 : decode cX6_init 8 = .ok (.dup, 1) := by decide +kernel
theorem dX6_init_9 : decode cX6_init 9 = .ok (.invokespecial 11, 3) := by decide +kernel
theorem dX6_init_12 : decode cX6_init 12 = .ok (.putfield 12, 3) := by decide +kernel
theorem dX6_init_15 : decode cX6_init 15 = .ok (.aload_n 0, 1) := by decide +kernel
theorem dX6_init_16 : decode cX6_init 16 = .ok (.aload_n 1, 1) := by decide +kernel
theorem dX6_init_17 : decode cX6_init 17 = .ok (.putfield 18, 3) := by decide +kernel
theorem dX6_init_20 : decode cX6_init 20 = .ok (.aload_n 0, 1) := by decide +kernel
theorem dX6_init_21 : decode cX6_init 21 = .ok (.aload_n 2, 1) := by decide +kernel
theorem dX6_init_22 : decode cX6_init 22 = .ok (.putfield 22, 3) := by decide +kernel
theorem dX6_init_25 : decode cX6_init 25 = .ok (.aload_n 0, 1) := by decide +kernel
theorem dX6_init_26 : decode cX6_init 26 = .ok (.aload_n 3, 1) := by decide +kernel
theorem dX6_init_27 : decode cX6_init 27 = .ok (.putfield 26, 3) := by decide +kernel
theorem dX6_init_30 : decode cX6_init 30 = .ok (.aload_n 0, 1) := by decide +kernel
theorem dX6_init_31 : decode cX6_init 31 = .ok (.aload 4, 2) := by decide +kernel
theorem dX6_init_33 : decode cX6_init 33 = .ok (.putfield 30, 3) := by decide +kernel
theorem dX6_init_36 : decode cX6_init 36 = .ok (.return_, 1) := by decide +kernel
theorem dX6_place_0 : decode cX6_place 0 = .ok (.aload_n 0, 1) := by decide +kernel
theorem dX6_place_1 : decode cX6_place 1 = .ok (.getfield 34, 3) := by decide +kernel
theorem dX6_place_4 : decode cX6_place 4 = .ok (.ireturn, 1) := by decide +kernel
theorem dX6_name_0 : decode cX6_name 0 = .ok (.aload_n 0, 1) := by decide +kernel
theorem dX6_name_1 : decode cX6_name 1 = .ok (.getfield 38, 3) := by decide +kernel
theorem dX6_name_4 : decode cX6_name 4 = .ok (.lreturn, 1) := by decide +kernel
theorem dX6_isSlashed_0 : decode cX6_isSlashed 0 = .ok (.aload_n 0, 1) := by decide +kernel
theorem dX6_isSlashed_1 : decode cX6_isSlashed 1 = .ok (.getfield 42, 3) := by decide +kernel
theorem dX6_isSlashed_4 : decode cX6_isSlashed 4 = .ok (.ireturn, 1) := by decide +kernel
theorem dX6_isOnDots_0 : decode cX6_isOnDots 0 = .ok (.aload_n 0, 1) := by decide +kernel
theorem dX6_isOnDots_1 : decode cX6_isOnDots 1 = .ok (.getfield 38, 3) := by decide +kernel
theorem dX6_isOnDots_4 : decode cX6_isOnDots 4 = .ok (.ldc2_w 46, 3) := by decide +kernel
theorem dX6_isOnDots_7 : decode cX6_isOnDots 7 = .ok (.lcmp, 1) := by decide +kernel
theorem dX6_isOnDots_8 : decode cX6_isOnDots 8 = .ok (.ifCond .eq 14, 3) := by decide +kernel
theorem dX6_isOnDots_11 : decode cX6_isOnDots 11 = .ok (.aload_n 0, 1) := by decide +kernel
theorem dX6_isOnDots_12 : decode cX6_isOnDots 12 = .ok (.getfield 38, 3) := by decide +kernel
theorem dX6_isOnDots_15 : decode cX6_isOnDots 15 = .ok (.ldc2_w 48, 3) := by decide +kernel
theorem dX6_isOnDots_18 : decode cX6_isOnDots 18 = .ok (.lcmp, 1) := by decide +kernel
theorem dX6_isOnDots_19 : decode cX6_isOnDots 19 = .ok (.ifCond .ne 7, 3) := by decide +kernel
theorem dX6_isOnDots_22 : decode cX6_isOnDots 22 = .ok (.iconst 1, 1) := by decide +kernel
theorem dX6_isOnDots_23 : decode cX6_isOnDots 23 = .ok (.goto 4, 3) := by decide +kernel
theorem dX6_isOnDots_26 : decode cX6_isOnDots 26 = .ok (.iconst 0, 1) := by decide +kernel
theorem dX6_isOnDots_27 : decode cX6_isOnDots 27 = .ok (.ireturn, 1) := by decide +kernel
theorem dX6_through_0 : decode cX6_through 0 = .ok (.aload_n 1, 1) := by decide +kernel
theorem dX6_through_1 : decode cX6_through 1 = .ok (.invokevirtual 50, 3) := by decide +kernel
theorem dX6_through_4 : decode cX6_through 4 = .ok (.ifCond .eq 5, 3) := by decide +kernel
theorem dX6_through_7 : decode cX6_through 7 = .ok (.iconst (-1), 1) := by decide +kernel
theorem dX6_through_8 : decode cX6_through 8 = .ok (.ireturn, 1) := by decide +kernel
theorem dX6_through_9 : decode cX6_through 9 = .ok (.aload_n 0, 1) := by decide +kernel
theorem dX6_through_10 : decode cX6_through 10 = .ok (.aload_n 1, 1) := by decide +kernel
theorem dX6_through_11 : decode cX6_through 11 = .ok (.invokevirtual 56, 3) := by decide +kernel
theorem dX6_through_14 : decode cX6_through 14 = .ok (.iconst 0, 1) := by decide +kernel
theorem dX6_through_15 : decode cX6_through 15 = .ok (.istore_n 3, 1) := by decide +kernel
theorem dX6_through_16 : decode cX6_through 16 = .ok (.iload_n 3, 1) := by decide +kernel
theorem dX6_through_17 : decode cX6_through 17 = .ok (.sipush 1000, 3) := by decide +kernel
theorem dX6_through_20 : decode cX6_through 20 = .ok (.if_icmp .ge 42, 3) := by decide +kernel
theorem dX6_through_23 : decode cX6_through 23 = .ok (.aload_n 0, 1) := by decide +kernel
theorem dX6_through_24 : decode cX6_through 24 = .ok (.invokevirtual 60, 3) := by decide +kernel
theorem dX6_through_27 : decode cX6_through 27 = .ok (.ifCond .eq 35, 3) := by decide +kernel
theorem dX6_through_30 : decode cX6_through 30 = .ok (.aload_n 0, 1) := by decide +kernel
theorem dX6_through_31 : decode cX6_through 31 = .ok (.invokevirtual 63, 3) := by decide +kernel
theorem dX6_through_34 : decode cX6_through 34 = .ok (.istore 4, 2) := by decide +kernel
theorem dX6_through_36 : decode cX6_through 36 = .ok (.iload 4, 2) := by decide +kernel
theorem dX6_through_38 : decode cX6_through 38 = .ok (.ifCond .ne 10, 3) := by decide +kernel
theorem dX6_through_41 : decode cX6_through 41 = .ok (.aload_n 0, 1) := by decide +kernel
theorem dX6_through_42 : decode cX6_through 42 = .ok (.iload_n 2, 1) := by decide +kernel
theorem dX6_through_43 : decode cX6_through 43 = .ok (.invokevirtual 67, 3) := by decide +kernel
theorem dX6_through_46 : decode cX6_through 46 = .ok (.istore 4, 2) := by decide +kernel
theorem dX6_through_48 : decode cX6_through 48 = .ok (.iload 4, 2) := by decide +kernel
theorem dX6_through_50 : decode cX6_through 50 = .ok (.ifCond .eq 6, 3) := by decide +kernel
theorem dX6_through_53 : decode cX6_through 53 = .ok (.iload 4, 2) := by decide +kernel
theorem dX6_through_55 : decode cX6_through 55 = .ok (.ireturn, 1) := by decide +kernel
theorem dX6_through_56 : decode cX6_through 56 = .ok (.iinc 3 1, 3) := by decide +kernel
theorem dX6_through_59 : decode cX6_through 59 = .ok (.goto (-43), 3) := by decide +kernel
theorem dX6_through_62 : decode cX6_through 62 = .ok (.aload_n 0, 1) := by decide +kernel
theorem dX6_through_63 : decode cX6_through 63 = .ok (.getfield 34, 3) := by decide +kernel
theorem dX6_through_66 : decode cX6_through 66 = .ok (.ireturn, 1) := by decide +kernel
theorem dX6_toLastName_0 : decode cX6_toLastName 0 = .ok (.aload_n 0, 1) := by decide +kernel
theorem dX6_toLastName_1 : decode cX6_toLastName 1 = .ok (.aload_n 1, 1) := by decide +kernel
theorem dX6_toLastName_2 : decode cX6_toLastName 2 = .ok (.invokevirtual 56, 3) := by decide +kernel
theorem dX6_toLastName_5 : decode cX6_toLastName 5 = .ok (.iconst 0, 1) := by decide +kernel
theorem dX6_toLastName_6 : decode cX6_toLastName 6 = .ok (.istore_n 2, 1) := by decide +kernel
theorem dX6_toLastName_7 : decode cX6_toLastName 7 = .ok (.iload_n 2, 1) := by decide +kernel
theorem dX6_toLastName_8 : decode cX6_toLastName 8 = .ok (.sipush 1000, 3) := by decide +kernel
theorem dX6_toLastName_11 : decode cX6_toLastName 11 = .ok (.if_icmp .ge 46, 3) := by decide +kernel
theorem dX6_toLastName_14 : decode cX6_toLastName 14 = .ok (.aload_n 0, 1) := by decide +kernel
theorem dX6_toLastName_15 : decode cX6_toLastName 15 = .ok (.invokevirtual 60, 3) := by decide +kernel
theorem dX6_toLastName_18 : decode cX6_toLastName 18 = .ok (.ifCond .eq 39, 3) := by decide +kernel
theorem dX6_toLastName_21 : decode cX6_toLastName 21 = .ok (.aload_n 0, 1) := by decide +kernel
theorem dX6_toLastName_22 : decode cX6_toLastName 22 = .ok (.invokevirtual 63, 3) := by decide +kernel
theorem dX6_toLastName_25 : decode cX6_toLastName 25 = .ok (.istore_n 3, 1) := by decide +kernel
theorem dX6_toLastName_26 : decode cX6_toLastName 26 = .ok (.iload_n 3, 1) := by decide +kernel
theorem dX6_toLastName_27 : decode cX6_toLastName 27 = .ok (.ifCond .ne 10, 3) := by decide +kernel
theorem dX6_toLastName_30 : decode cX6_toLastName 30 = .ok (.aload_n 0, 1) := by decide +kernel
theorem dX6_toLastName_31 : decode cX6_toLastName 31 = .ok (.getfield 71, 3) := by decide +kernel
theorem dX6_toLastName_34 : decode cX6_toLastName 34 = .ok (.ifCond .eq 5, 3) := by decide +kernel
theorem dX6_toLastName_37 : decode cX6_toLastName 37 = .ok (.iload_n 3, 1) := by decide +kernel
theorem dX6_toLastName_38 : decode cX6_toLastName 38 = .ok (.ireturn, 1) := by decide +kernel
theorem dX6_toLastName_39 : decode cX6_toLastName 39 = .ok (.aload_n 0, 1) := by decide +kernel
theorem dX6_toLastName_40 : decode cX6_toLastName 40 = .ok (.iconst 1, 1) := by decide +kernel
theorem dX6_toLastName_41 : decode cX6_toLastName 41 = .ok (.invokevirtual 67, 3) := by decide +kernel
theorem dX6_toLastName_44 : decode cX6_toLastName 44 = .ok (.istore_n 3, 1) := by decide +kernel
theorem dX6_toLastName_45 : decode cX6_toLastName 45 = .ok (.iload_n 3, 1) := by decide +kernel
theorem dX6_toLastName_46 : decode cX6_toLastName 46 = .ok (.ifCond .eq 5, 3) := by decide +kernel
theorem dX6_toLastName_49 : decode cX6_toLastName 49 = .ok (.iload_n 3, 1) := by decide +kernel
theorem dX6_toLastName_50 : decode cX6_toLastName 50 = .ok (.ireturn, 1) := by decide +kernel
theorem dX6_toLastName_51 : decode cX6_toLastName 51 = .ok (.iinc 2 1, 3) := by decide +kernel
theorem dX6_toLastName_54 : decode cX6_toLastName 54 = .ok (.goto (-47), 3) := by decide +kernel
theorem dX6_toLastName_57 : decode cX6_toLastName 57 = .ok (.iconst (-1), 1) := by decide +kernel
theorem dX6_toLastName_58 : decode cX6_toLastName 58 = .ok (.ireturn, 1) := by decide +kernel
theorem dX6_begin_0 : decode cX6_begin 0 = .ok (.aload_n 0, 1) := by decide +kernel
theorem dX6_begin_1 : decode cX6_begin 1 = .ok (.getfield 12, 3) := by decide +kernel
theorem dX6_begin_4 : decode cX6_begin 4 = .ok (.invokevirtual 74, 3) := by decide +kernel
theorem dX6_begin_7 : decode cX6_begin 7 = .ok (.aload_n 0, 1) := by decide +kernel
theorem dX6_begin_8 : decode cX6_begin 8 = .ok (.getfield 12, 3) := by decide +kernel
theorem dX6_begin_11 : decode cX6_begin 11 = .ok (.aload_n 1, 1) := by decide +kernel
theorem dX6_begin_12 : decode cX6_begin 12 = .ok (.invokevirtual 77, 3) := by decide +kernel
theorem dX6_begin_15 : decode cX6_begin 15 = .ok (.pop, 1) := by decide +kernel
theorem dX6_begin_16 : decode cX6_begin 16 = .ok (.aload_n 0, 1) := by decide +kernel
theorem dX6_begin_17 : decode cX6_begin 17 = .ok (.aload_n 0, 1) := by decide +kernel
theorem dX6_begin_18 : decode cX6_begin 18 = .ok (.getfield 12, 3) := by decide +kernel
theorem dX6_begin_21 : decode cX6_begin 21 = .ok (.invokevirtual 81, 3) := by decide +kernel
theorem dX6_begin_24 : decode cX6_begin 24 = .ok (.ifCond .eq 13, 3) := by decide +kernel
theorem dX6_begin_27 : decode cX6_begin 27 = .ok (.aload_n 0, 1) := by decide +kernel
theorem dX6_begin_28 : decode cX6_begin 28 = .ok (.getfield 30, 3) := by decide +kernel
theorem dX6_begin_31 : decode cX6_begin 31 = .ok (.getfield 84, 3) := by decide +kernel
theorem dX6_begin_34 : decode cX6_begin 34 = .ok (.goto 10, 3) := by decide +kernel
theorem dX6_begin_37 : decode cX6_begin 37 = .ok (.aload_n 0, 1) := by decide +kernel
theorem dX6_begin_38 : decode cX6_begin 38 = .ok (.getfield 30, 3) := by decide +kernel
theorem dX6_begin_41 : decode cX6_begin 41 = .ok (.getfield 89, 3) := by decide +kernel
theorem dX6_begin_44 : decode cX6_begin 44 = .ok (.putfield 34, 3) := by decide +kernel
theorem dX6_begin_47 : decode cX6_begin 47 = .ok (.aload_n 0, 1) := by decide +kernel
theorem dX6_begin_48 : decode cX6_begin 48 = .ok (.iconst 0, 1) := by decide +kernel
theorem dX6_begin_49 : decode cX6_begin 49 = .ok (.putfield 92, 3) := by decide +kernel
theorem dX6_begin_52 : decode cX6_begin 52 = .ok (.return_, 1) := by decide +kernel
theorem dX6_hasName_0 : decode cX6_hasName 0 = .ok (.iconst 0, 1) := by decide +kernel
theorem dX6_hasName_1 : decode cX6_hasName 1 = .ok (.istore_n 1, 1) := by decide +kernel
theorem dX6_hasName_2 : decode cX6_hasName 2 = .ok (.iload_n 1, 1) := by decide +kernel
theorem dX6_hasName_3 : decode cX6_hasName 3 = .ok (.bipush 60, 2) := by decide +kernel
theorem dX6_hasName_5 : decode cX6_hasName 5 = .ok (.if_icmp .ge 27, 3) := by decide +kernel
theorem dX6_hasName_8 : decode cX6_hasName 8 = .ok (.aload_n 0, 1) := by decide +kernel
theorem dX6_hasName_9 : decode cX6_hasName 9 = .ok (.getfield 12, 3) := by decide +kernel
theorem dX6_hasName_12 : decode cX6_hasName 12 = .ok (.invokevirtual 81, 3) := by decide +kernel
theorem dX6_hasName_15 : decode cX6_hasName 15 = .ok (.ifCond .eq 17, 3) := by decide +kernel
theorem dX6_hasName_18 : decode cX6_hasName 18 = .ok (.aload_n 0, 1) := by decide +kernel
theorem dX6_hasName_19 : decode cX6_hasName 19 = .ok (.getfield 12, 3) := by decide +kernel
theorem dX6_hasName_22 : decode cX6_hasName 22 = .ok (.invokevirtual 95, 3) := by decide +kernel
theorem dX6_hasName_25 : decode cX6_hasName 25 = .ok (.pop, 1) := by decide +kernel
theorem dX6_hasName_26 : decode cX6_hasName 26 = .ok (.iinc 1 1, 3) := by decide +kernel
theorem dX6_hasName_29 : decode cX6_hasName 29 = .ok (.goto (-27), 3) := by decide +kernel
theorem dX6_hasName_32 : decode cX6_hasName 32 = .ok (.aload_n 0, 1) := by decide +kernel
theorem dX6_hasName_33 : decode cX6_hasName 33 = .ok (.getfield 12, 3) := by decide +kernel
theorem dX6_hasName_36 : decode cX6_hasName 36 = .ok (.invokevirtual 99, 3) := by decide +kernel
theorem dX6_hasName_39 : decode cX6_hasName 39 = .ok (.ifCond .ne 7, 3) := by decide +kernel
theorem dX6_hasName_42 : decode cX6_hasName 42 = .ok (.iconst 1, 1) := by decide +kernel
theorem dX6_hasName_43 : decode cX6_hasName 43 = .ok (.goto 4, 3) := by decide +kernel
theorem dX6_hasName_46 : decode cX6_hasName 46 = .ok (.iconst 0, 1) := by decide +kernel
theorem dX6_hasName_47 : decode cX6_hasName 47 = .ok (.ireturn, 1) := by decide +kernel
theorem dX6_takeName_0 : decode cX6_takeName 0 = .ok (.aload_n 0, 1) := by decide +kernel
theorem dX6_takeName_1 : decode cX6_takeName 1 = .ok (.lconst 0, 1) := by decide +kernel
theorem dX6_takeName_2 : decode cX6_takeName 2 = .ok (.putfield 38, 3) := by decide +kernel
theorem dX6_takeName_5 : decode cX6_takeName 5 = .ok (.aload_n 0, 1) := by decide +kernel
theorem dX6_takeName_6 : decode cX6_takeName 6 = .ok (.getfield 12, 3) := by decide +kernel
theorem dX6_takeName_9 : decode cX6_takeName 9 = .ok (.invokevirtual 100, 3) := by decide +kernel
theorem dX6_takeName_12 : decode cX6_takeName 12 = .ok (.istore_n 1, 1) := by decide +kernel
theorem dX6_takeName_13 : decode cX6_takeName 13 = .ok (.iconst 0, 1) := by decide +kernel
theorem dX6_takeName_14 : decode cX6_takeName 14 = .ok (.istore_n 2, 1) := by decide +kernel
theorem dX6_takeName_15 : decode cX6_takeName 15 = .ok (.iload_n 2, 1) := by decide +kernel
theorem dX6_takeName_16 : decode cX6_takeName 16 = .ok (.bipush 60, 2) := by decide +kernel
theorem dX6_takeName_18 : decode cX6_takeName 18 = .ok (.if_icmp .ge 49, 3) := by decide +kernel
theorem dX6_takeName_21 : decode cX6_takeName 21 = .ok (.aload_n 0, 1) := by decide +kernel
theorem dX6_takeName_22 : decode cX6_takeName 22 = .ok (.getfield 12, 3) := by decide +kernel
theorem dX6_takeName_25 : decode cX6_takeName 25 = .ok (.invokevirtual 99, 3) := by decide +kernel
theorem dX6_takeName_28 : decode cX6_takeName 28 = .ok (.ifCond .ne 39, 3) := by decide +kernel
theorem dX6_takeName_31 : decode cX6_takeName 31 = .ok (.aload_n 0, 1) := by decide +kernel
theorem dX6_takeName_32 : decode cX6_takeName 32 = .ok (.getfield 12, 3) := by decide +kernel
theorem dX6_takeName_35 : decode cX6_takeName 35 = .ok (.invokevirtual 81, 3) := by decide +kernel
theorem dX6_takeName_38 : decode cX6_takeName 38 = .ok (.ifCond .ne 29, 3) := by decide +kernel
theorem dX6_takeName_41 : decode cX6_takeName 41 = .ok (.aload_n 0, 1) := by decide +kernel
theorem dX6_takeName_42 : decode cX6_takeName 42 = .ok (.aload_n 0, 1) := by decide +kernel
theorem dX6_takeName_43 : decode cX6_takeName 43 = .ok (.getfield 38, 3) := by decide +kernel
theorem dX6_takeName_46 : decode cX6_takeName 46 = .ok (.bipush 8, 2) := by decide +kernel
theorem dX6_takeName_48 : decode cX6_takeName 48 = .ok (.lshl, 1) := by decide +kernel
theorem dX6_takeName_49 : decode cX6_takeName 49 = .ok (.aload_n 0, 1) := by decide +kernel
theorem dX6_takeName_50 : decode cX6_takeName 50 = .ok (.getfield 12, 3) := by decide +kernel
theorem dX6_takeName_53 : decode cX6_takeName 53 = .ok (.invokevirtual 95, 3) := by decide +kernel
theorem dX6_takeName_56 : decode cX6_takeName 56 = .ok (.i2l, 1) := by decide +kernel
theorem dX6_takeName_57 : decode cX6_takeName 57 = .ok (.lor, 1) := by decide +kernel
theorem dX6_takeName_58 : decode cX6_takeName 58 = .ok (.putfield 38, 3) := by decide +kernel
theorem dX6_takeName_61 : decode cX6_takeName 61 = .ok (.iinc 2 1, 3) := by decide +kernel
theorem dX6_takeName_64 : decode cX6_takeName 64 = .ok (.goto (-49), 3) := by decide +kernel
theorem dX6_takeName_67 : decode cX6_takeName 67 = .ok (.iload_n 1, 1) := by decide +kernel
theorem dX6_takeName_68 : decode cX6_takeName 68 = .ok (.aload_n 0, 1) := by decide +kernel
theorem dX6_takeName_69 : decode cX6_takeName 69 = .ok (.getfield 12, 3) := by decide +kernel
theorem dX6_takeName_72 : decode cX6_takeName 72 = .ok (.invokevirtual 100, 3) := by decide +kernel
theorem dX6_takeName_75 : decode cX6_takeName 75 = .ok (.isub, 1) := by decide +kernel
theorem dX6_takeName_76 : decode cX6_takeName 76 = .ok (.istore_n 2, 1) := by decide +kernel
theorem dX6_takeName_77 : decode cX6_takeName 77 = .ok (.aload_n 0, 1) := by decide +kernel
theorem dX6_takeName_78 : decode cX6_takeName 78 = .ok (.aload_n 0, 1) := by decide +kernel
theorem dX6_takeName_79 : decode cX6_takeName 79 = .ok (.getfield 12, 3) := by decide +kernel
theorem dX6_takeName_82 : decode cX6_takeName 82 = .ok (.invokevirtual 103, 3) := by decide +kernel
theorem dX6_takeName_85 : decode cX6_takeName 85 = .ok (.putfield 71, 3) := by decide +kernel
theorem dX6_takeName_88 : decode cX6_takeName 88 = .ok (.aload_n 0, 1) := by decide +kernel
theorem dX6_takeName_89 : decode cX6_takeName 89 = .ok (.aload_n 0, 1) := by decide +kernel
theorem dX6_takeName_90 : decode cX6_takeName 90 = .ok (.getfield 12, 3) := by decide +kernel
theorem dX6_takeName_93 : decode cX6_takeName 93 = .ok (.invokevirtual 99, 3) := by decide +kernel
theorem dX6_takeName_96 : decode cX6_takeName 96 = .ok (.ifCond .ne 7, 3) := by decide +kernel
theorem dX6_takeName_99 : decode cX6_takeName 99 = .ok (.iconst 1, 1) := by decide +kernel
theorem dX6_takeName_100 : decode cX6_takeName 100 = .ok (.goto 4, 3) := by decide +kernel
theorem dX6_takeName_103 : decode cX6_takeName 103 = .ok (.iconst 0, 1) := by decide +kernel
theorem dX6_takeName_104 : decode cX6_takeName 104 = .ok (.putfield 42, 3) := by decide +kernel
theorem dX6_takeName_107 : decode cX6_takeName 107 = .ok (.aload_n 0, 1) := by decide +kernel
theorem dX6_takeName_108 : decode cX6_takeName 108 = .ok (.getfield 18, 3) := by decide +kernel
theorem dX6_takeName_111 : decode cX6_takeName 111 = .ok (.aload_n 0, 1) := by decide +kernel
theorem dX6_takeName_112 : decode cX6_takeName 112 = .ok (.getfield 34, 3) := by decide +kernel
theorem dX6_takeName_115 : decode cX6_takeName 115 = .ok (.invokevirtual 106, 3) := by decide +kernel
theorem dX6_takeName_118 : decode cX6_takeName 118 = .ok (.ifCond .ne 6, 3) := by decide +kernel
theorem dX6_takeName_121 : decode cX6_takeName 121 = .ok (.bipush (-2), 2) := by decide +kernel
theorem dX6_takeName_123 : decode cX6_takeName 123 = .ok (.ireturn, 1) := by decide +kernel
theorem dX6_takeName_124 : decode cX6_takeName 124 = .ok (.aload_n 0, 1) := by decide +kernel
theorem dX6_takeName_125 : decode cX6_takeName 125 = .ok (.getfield 30, 3) := by decide +kernel
theorem dX6_takeName_128 : decode cX6_takeName 128 = .ok (.iconst 1, 1) := by decide +kernel
theorem dX6_takeName_129 : decode cX6_takeName 129 = .ok (.aload_n 0, 1) := by decide +kernel
theorem dX6_takeName_130 : decode cX6_takeName 130 = .ok (.getfield 34, 3) := by decide +kernel
theorem dX6_takeName_133 : decode cX6_takeName 133 = .ok (.invokevirtual 112, 3) := by decide +kernel
theorem dX6_takeName_136 : decode cX6_takeName 136 = .ok (.ifCond .ne 6, 3) := by decide +kernel
theorem dX6_takeName_139 : decode cX6_takeName 139 = .ok (.bipush (-3), 2) := by decide +kernel
theorem dX6_takeName_141 : decode cX6_takeName 141 = .ok (.ireturn, 1) := by decide +kernel
theorem dX6_takeName_142 : decode cX6_takeName 142 = .ok (.iload_n 2, 1) := by decide +kernel
theorem dX6_takeName_143 : decode cX6_takeName 143 = .ok (.bipush 6, 2) := by decide +kernel
theorem dX6_takeName_145 : decode cX6_takeName 145 = .ok (.if_icmp .le 8, 3) := by decide +kernel
theorem dX6_takeName_148 : decode cX6_takeName 148 = .ok (.bipush (-5), 2) := by decide +kernel
theorem dX6_takeName_150 : decode cX6_takeName 150 = .ok (.goto 4, 3) := by decide +kernel
theorem dX6_takeName_153 : decode cX6_takeName 153 = .ok (.iconst 0, 1) := by decide +kernel
theorem dX6_takeName_154 : decode cX6_takeName 154 = .ok (.ireturn, 1) := by decide +kernel
theorem dX6_passName_0 : decode cX6_passName 0 = .ok (.aload_n 0, 1) := by decide +kernel
theorem dX6_passName_1 : decode cX6_passName 1 = .ok (.getfield 34, 3) := by decide +kernel
theorem dX6_passName_4 : decode cX6_passName 4 = .ok (.istore_n 2, 1) := by decide +kernel
theorem dX6_passName_5 : decode cX6_passName 5 = .ok (.aload_n 0, 1) := by decide +kernel
theorem dX6_passName_6 : decode cX6_passName 6 = .ok (.getfield 38, 3) := by decide +kernel
theorem dX6_passName_9 : decode cX6_passName 9 = .ok (.ldc2_w 48, 3) := by decide +kernel
theorem dX6_passName_12 : decode cX6_passName 12 = .ok (.lcmp, 1) := by decide +kernel
theorem dX6_passName_13 : decode cX6_passName 13 = .ok (.ifCond .ne 25, 3) := by decide +kernel
theorem dX6_passName_16 : decode cX6_passName 16 = .ok (.aload_n 0, 1) := by decide +kernel
theorem dX6_passName_17 : decode cX6_passName 17 = .ok (.getfield 26, 3) := by decide +kernel
theorem dX6_passName_20 : decode cX6_passName 20 = .ok (.aload_n 0, 1) := by decide +kernel
theorem dX6_passName_21 : decode cX6_passName 21 = .ok (.getfield 34, 3) := by decide +kernel
theorem dX6_passName_24 : decode cX6_passName 24 = .ok (.aload_n 0, 1) := by decide +kernel
theorem dX6_passName_25 : decode cX6_passName 25 = .ok (.getfield 30, 3) := by decide +kernel
theorem dX6_passName_28 : decode cX6_passName 28 = .ok (.getfield 84, 3) := by decide +kernel
theorem dX6_passName_31 : decode cX6_passName 31 = .ok (.invokevirtual 116, 3) := by decide +kernel
theorem dX6_passName_34 : decode cX6_passName 34 = .ok (.istore_n 2, 1) := by decide +kernel
theorem dX6_passName_35 : decode cX6_passName 35 = .ok (.goto 27, 3) := by decide +kernel
theorem dX6_passName_38 : decode cX6_passName 38 = .ok (.aload_n 0, 1) := by decide +kernel
theorem dX6_passName_39 : decode cX6_passName 39 = .ok (.getfield 38, 3) := by decide +kernel
theorem dX6_passName_42 : decode cX6_passName 42 = .ok (.ldc2_w 46, 3) := by decide +kernel
theorem dX6_passName_45 : decode cX6_passName 45 = .ok (.lcmp, 1) := by decide +kernel
theorem dX6_passName_46 : decode cX6_passName 46 = .ok (.ifCond .eq 16, 3) := by decide +kernel
theorem dX6_passName_49 : decode cX6_passName 49 = .ok (.aload_n 0, 1) := by decide +kernel
theorem dX6_passName_50 : decode cX6_passName 50 = .ok (.aload_n 0, 1) := by decide +kernel
theorem dX6_passName_51 : decode cX6_passName 51 = .ok (.getfield 34, 3) := by decide +kernel
theorem dX6_passName_54 : decode cX6_passName 54 = .ok (.aload_n 0, 1) := by decide +kernel
theorem dX6_passName_55 : decode cX6_passName 55 = .ok (.getfield 38, 3) := by decide +kernel
theorem dX6_passName_58 : decode cX6_passName 58 = .ok (.invokevirtual 122, 3) := by decide +kernel
theorem dX6_passName_61 : decode cX6_passName 61 = .ok (.istore_n 2, 1) := by decide +kernel
theorem dX6_passName_62 : decode cX6_passName 62 = .ok (.iload_n 2, 1) := by decide +kernel
theorem dX6_passName_63 : decode cX6_passName 63 = .ok (.iconst (-1), 1) := by decide +kernel
theorem dX6_passName_64 : decode cX6_passName 64 = .ok (.if_icmp .ne 5, 3) := by decide +kernel
theorem dX6_passName_67 : decode cX6_passName 67 = .ok (.iconst (-1), 1) := by decide +kernel
theorem dX6_passName_68 : decode cX6_passName 68 = .ok (.ireturn, 1) := by decide +kernel
theorem dX6_passName_69 : decode cX6_passName 69 = .ok (.aload_n 0, 1) := by decide +kernel
theorem dX6_passName_70 : decode cX6_passName 70 = .ok (.getfield 18, 3) := by decide +kernel
theorem dX6_passName_73 : decode cX6_passName 73 = .ok (.iload_n 2, 1) := by decide +kernel
theorem dX6_passName_74 : decode cX6_passName 74 = .ok (.invokevirtual 126, 3) := by decide +kernel
theorem dX6_passName_77 : decode cX6_passName 77 = .ok (.ifCond .eq 34, 3) := by decide +kernel
theorem dX6_passName_80 : decode cX6_passName 80 = .ok (.aload_n 0, 1) := by decide +kernel
theorem dX6_passName_81 : decode cX6_passName 81 = .ok (.getfield 71, 3) := by decide +kernel
theorem dX6_passName_84 : decode cX6_passName 84 = .ok (.ifCond .eq 14, 3) := by decide +kernel
theorem dX6_passName_87 : decode cX6_passName 87 = .ok (.aload_n 0, 1) := by decide +kernel
theorem dX6_passName_88 : decode cX6_passName 88 = .ok (.getfield 42, 3) := by decide +kernel
theorem dX6_passName_91 : decode cX6_passName 91 = .ok (.ifCond .ne 7, 3) := by decide +kernel
theorem dX6_passName_94 : decode cX6_passName 94 = .ok (.iload_n 1, 1) := by decide +kernel
theorem dX6_passName_95 : decode cX6_passName 95 = .ok (.ifCond .eq 16, 3) := by decide +kernel
theorem dX6_passName_98 : decode cX6_passName 98 = .ok (.aload_n 0, 1) := by decide +kernel
theorem dX6_passName_99 : decode cX6_passName 99 = .ok (.aload_n 0, 1) := by decide +kernel
theorem dX6_passName_100 : decode cX6_passName 100 = .ok (.getfield 18, 3) := by decide +kernel
theorem dX6_passName_103 : decode cX6_passName 103 = .ok (.iload_n 2, 1) := by decide +kernel
theorem dX6_passName_104 : decode cX6_passName 104 = .ok (.invokevirtual 129, 3) := by decide +kernel
theorem dX6_passName_107 : decode cX6_passName 107 = .ok (.invokevirtual 133, 3) := by decide +kernel
theorem dX6_passName_110 : decode cX6_passName 110 = .ok (.ireturn, 1) := by decide +kernel
theorem dX6_passName_111 : decode cX6_passName 111 = .ok (.aload_n 0, 1) := by decide +kernel
theorem dX6_passName_112 : decode cX6_passName 112 = .ok (.iload_n 2, 1) := by decide +kernel
theorem dX6_passName_113 : decode cX6_passName 113 = .ok (.putfield 34, 3) := by decide +kernel
theorem dX6_passName_116 : decode cX6_passName 116 = .ok (.aload_n 0, 1) := by decide +kernel
theorem dX6_passName_117 : decode cX6_passName 117 = .ok (.getfield 42, 3) := by decide +kernel
theorem dX6_passName_120 : decode cX6_passName 120 = .ok (.ifCond .eq 19, 3) := by decide +kernel
theorem dX6_passName_123 : decode cX6_passName 123 = .ok (.aload_n 0, 1) := by decide +kernel
theorem dX6_passName_124 : decode cX6_passName 124 = .ok (.getfield 18, 3) := by decide +kernel
theorem dX6_passName_127 : decode cX6_passName 127 = .ok (.iload_n 2, 1) := by decide +kernel
theorem dX6_passName_128 : decode cX6_passName 128 = .ok (.invokevirtual 106, 3) := by decide +kernel
theorem dX6_passName_131 : decode cX6_passName 131 = .ok (.ifCond .ne 8, 3) := by decide +kernel
theorem dX6_passName_134 : decode cX6_passName 134 = .ok (.bipush (-2), 2) := by decide +kernel
theorem dX6_passName_136 : decode cX6_passName 136 = .ok (.goto 4, 3) := by decide +kernel
theorem dX6_passName_139 : decode cX6_passName 139 = .ok (.iconst 0, 1) := by decide +kernel
theorem dX6_passName_140 : decode cX6_passName 140 = .ok (.ireturn, 1) := by decide +kernel
theorem dX6_topUnder_0 : decode cX6_topUnder 0 = .ok (.aload_n 0, 1) := by decide +kernel
theorem dX6_topUnder_1 : decode cX6_topUnder 1 = .ok (.getfield 22, 3) := by decide +kernel
theorem dX6_topUnder_4 : decode cX6_topUnder 4 = .ok (.iload_n 1, 1) := by decide +kernel
theorem dX6_topUnder_5 : decode cX6_topUnder 5 = .ok (.lload_n 2, 1) := by decide +kernel
theorem dX6_topUnder_6 : decode cX6_topUnder 6 = .ok (.invokevirtual 137, 3) := by decide +kernel
theorem dX6_topUnder_9 : decode cX6_topUnder 9 = .ok (.istore 4, 2) := by decide +kernel
theorem dX6_topUnder_11 : decode cX6_topUnder 11 = .ok (.iload 4, 2) := by decide +kernel
theorem dX6_topUnder_13 : decode cX6_topUnder 13 = .ok (.iconst (-1), 1) := by decide +kernel
theorem dX6_topUnder_14 : decode cX6_topUnder 14 = .ok (.if_icmp .ne 7, 3) := by decide +kernel
theorem dX6_topUnder_17 : decode cX6_topUnder 17 = .ok (.iconst (-1), 1) := by decide +kernel
theorem dX6_topUnder_18 : decode cX6_topUnder 18 = .ok (.goto 19, 3) := by decide +kernel
theorem dX6_topUnder_21 : decode cX6_topUnder 21 = .ok (.aload_n 0, 1) := by decide +kernel
theorem dX6_topUnder_22 : decode cX6_topUnder 22 = .ok (.getfield 26, 3) := by decide +kernel
theorem dX6_topUnder_25 : decode cX6_topUnder 25 = .ok (.aload_n 0, 1) := by decide +kernel
theorem dX6_topUnder_26 : decode cX6_topUnder 26 = .ok (.getfield 22, 3) := by decide +kernel
theorem dX6_topUnder_29 : decode cX6_topUnder 29 = .ok (.iload 4, 2) := by decide +kernel
theorem dX6_topUnder_31 : decode cX6_topUnder 31 = .ok (.invokevirtual 142, 3) := by decide +kernel
theorem dX6_topUnder_34 : decode cX6_topUnder 34 = .ok (.invokevirtual 146, 3) := by decide +kernel
theorem dX6_topUnder_37 : decode cX6_topUnder 37 = .ok (.ireturn, 1) := by decide +kernel
theorem dX6_passLink_0 : decode cX6_passLink 0 = .ok (.aload_n 0, 1) := by decide +kernel
theorem dX6_passLink_1 : decode cX6_passLink 1 = .ok (.dup, 1) := by decide +kernel
theorem dX6_passLink_2 : decode cX6_passLink 2 = .ok (.getfield 92, 3) := by decide +kernel
theorem dX6_passLink_5 : decode cX6_passLink 5 = .ok (.iconst 1, 1) := by decide +kernel
theorem dX6_passLink_6 : decode cX6_passLink 6 = .ok (.iadd, 1) := by decide +kernel
theorem dX6_passLink_7 : decode cX6_passLink 7 = .ok (.putfield 92, 3) := by decide +kernel
theorem dX6_passLink_10 : decode cX6_passLink 10 = .ok (.aload_n 0, 1) := by decide +kernel
theorem dX6_passLink_11 : decode cX6_passLink 11 = .ok (.getfield 92, 3) := by decide +kernel
theorem dX6_passLink_14 : decode cX6_passLink 14 = .ok (.bipush 8, 2) := by decide +kernel
theorem dX6_passLink_16 : decode cX6_passLink 16 = .ok (.if_icmp .le 6, 3) := by decide +kernel
theorem dX6_passLink_19 : decode cX6_passLink 19 = .ok (.bipush (-4), 2) := by decide +kernel
theorem dX6_passLink_21 : decode cX6_passLink 21 = .ok (.ireturn, 1) := by decide +kernel
theorem dX6_passLink_22 : decode cX6_passLink 22 = .ok (.aload_n 1, 1) := by decide +kernel
theorem dX6_passLink_23 : decode cX6_passLink 23 = .ok (.ifnull 14, 3) := by decide +kernel
theorem dX6_passLink_26 : decode cX6_passLink 26 = .ok (.aload_n 0, 1) := by decide +kernel
theorem dX6_passLink_27 : decode cX6_passLink 27 = .ok (.getfield 12, 3) := by decide +kernel
theorem dX6_passLink_30 : decode cX6_passLink 30 = .ok (.aload_n 1, 1) := by decide +kernel
theorem dX6_passLink_31 : decode cX6_passLink 31 = .ok (.invokevirtual 77, 3) := by decide +kernel
theorem dX6_passLink_34 : decode cX6_passLink 34 = .ok (.ifCond .ne 6, 3) := by decide +kernel
theorem dX6_passLink_37 : decode cX6_passLink 37 = .ok (.bipush (-5), 2) := by decide +kernel
theorem dX6_passLink_39 : decode cX6_passLink 39 = .ok (.ireturn, 1) := by decide +kernel
theorem dX6_passLink_40 : decode cX6_passLink 40 = .ok (.aload_n 0, 1) := by decide +kernel
theorem dX6_passLink_41 : decode cX6_passLink 41 = .ok (.getfield 12, 3) := by decide +kernel
theorem dX6_passLink_44 : decode cX6_passLink 44 = .ok (.invokevirtual 81, 3) := by decide +kernel
theorem dX6_passLink_47 : decode cX6_passLink 47 = .ok (.ifCond .eq 14, 3) := by decide +kernel
theorem dX6_passLink_50 : decode cX6_passLink 50 = .ok (.aload_n 0, 1) := by decide +kernel
theorem dX6_passLink_51 : decode cX6_passLink 51 = .ok (.aload_n 0, 1) := by decide +kernel
theorem dX6_passLink_52 : decode cX6_passLink 52 = .ok (.getfield 30, 3) := by decide +kernel
theorem dX6_passLink_55 : decode cX6_passLink 55 = .ok (.getfield 84, 3) := by decide +kernel
theorem dX6_passLink_58 : decode cX6_passLink 58 = .ok (.putfield 34, 3) := by decide +kernel
theorem dX6_passLink_61 : decode cX6_passLink 61 = .ok (.iconst 0, 1) := by decide +kernel
theorem dX6_passLink_62 : decode cX6_passLink 62 = .ok (.ireturn, 1) := by decide +kernel
