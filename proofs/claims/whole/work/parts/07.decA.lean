theorem dX0_clear_0 : decode (z_c zX0_clear) 0 = .ok (.aload_n 0, 1) := by decide +kernel
theorem dX0_clear_1 : decode (z_c zX0_clear) 1 = .ok (.lconst 0, 1) := by decide +kernel
theorem dX0_clear_2 : decode (z_c zX0_clear) 2 = .ok (.putfield 7, 3) := by decide +kernel
theorem dX0_clear_5 : decode (z_c zX0_clear) 5 = .ok (.aload_n 0, 1) := by decide +kernel
theorem dX0_clear_6 : decode (z_c zX0_clear) 6 = .ok (.lconst 0, 1) := by decide +kernel
theorem dX0_clear_7 : decode (z_c zX0_clear) 7 = .ok (.putfield 13, 3) := by decide +kernel
theorem dX0_clear_10 : decode (z_c zX0_clear) 10 = .ok (.return_, 1) := by decide +kernel
theorem dX0_copy_0 : decode (z_c zX0_copy) 0 = .ok (.aload_n 0, 1) := by decide +kernel
theorem dX0_copy_1 : decode (z_c zX0_copy) 1 = .ok (.aload_n 1, 1) := by decide +kernel
theorem dX0_copy_2 : decode (z_c zX0_copy) 2 = .ok (.getfield 7, 3) := by decide +kernel
theorem dX0_copy_5 : decode (z_c zX0_copy) 5 = .ok (.putfield 7, 3) := by decide +kernel
theorem dX0_copy_8 : decode (z_c zX0_copy) 8 = .ok (.aload_n 0, 1) := by decide +kernel
theorem dX0_copy_9 : decode (z_c zX0_copy) 9 = .ok (.aload_n 1, 1) := by decide +kernel
theorem dX0_copy_10 : decode (z_c zX0_copy) 10 = .ok (.getfield 13, 3) := by decide +kernel
theorem dX0_copy_13 : decode (z_c zX0_copy) 13 = .ok (.putfield 13, 3) := by decide +kernel
theorem dX0_copy_16 : decode (z_c zX0_copy) 16 = .ok (.return_, 1) := by decide +kernel
theorem dX0_has_0 : decode (z_c zX0_has) 0 = .ok (.iload_n 1, 1) := by decide +kernel
theorem dX0_has_1 : decode (z_c zX0_has) 1 = .ok (.bipush 64, 2) := by decide +kernel
theorem dX0_has_3 : decode (z_c zX0_has) 3 = .ok (.if_icmp .ge 10, 3) := by decide +kernel
theorem dX0_has_6 : decode (z_c zX0_has) 6 = .ok (.aload_n 0, 1) := by decide +kernel
theorem dX0_has_7 : decode (z_c zX0_has) 7 = .ok (.getfield 7, 3) := by decide +kernel
theorem dX0_has_10 : decode (z_c zX0_has) 10 = .ok (.goto 7, 3) := by decide +kernel
theorem dX0_has_13 : decode (z_c zX0_has) 13 = .ok (.aload_n 0, 1) := by decide +kernel
theorem dX0_has_14 : decode (z_c zX0_has) 14 = .ok (.getfield 13, 3) := by decide +kernel
theorem dX0_has_17 : decode (z_c zX0_has) 17 = .ok (.iload_n 1, 1) := by decide +kernel
theorem dX0_has_18 : decode (z_c zX0_has) 18 = .ok (.lushr, 1) := by decide +kernel
theorem dX0_has_19 : decode (z_c zX0_has) 19 = .ok (.lconst 1, 1) := by decide +kernel
theorem dX0_has_20 : decode (z_c zX0_has) 20 = .ok (.land, 1) := by decide +kernel
theorem dX0_has_21 : decode (z_c zX0_has) 21 = .ok (.lconst 0, 1) := by decide +kernel
theorem dX0_has_22 : decode (z_c zX0_has) 22 = .ok (.lcmp, 1) := by decide +kernel
theorem dX0_has_23 : decode (z_c zX0_has) 23 = .ok (.ifCond .eq 7, 3) := by decide +kernel
theorem dX0_has_26 : decode (z_c zX0_has) 26 = .ok (.iconst 1, 1) := by decide +kernel
theorem dX0_has_27 : decode (z_c zX0_has) 27 = .ok (.goto 4, 3) := by decide +kernel
theorem dX0_has_30 : decode (z_c zX0_has) 30 = .ok (.iconst 0, 1) := by decide +kernel
theorem dX0_has_31 : decode (z_c zX0_has) 31 = .ok (.ireturn, 1) := by decide +kernel
theorem dX0_add_0 : decode (z_c zX0_add) 0 = .ok (.iload_n 1, 1) := by decide +kernel
theorem dX0_add_1 : decode (z_c zX0_add) 1 = .ok (.bipush 64, 2) := by decide +kernel
theorem dX0_add_3 : decode (z_c zX0_add) 3 = .ok (.if_icmp .ge 18, 3) := by decide +kernel
theorem dX0_add_6 : decode (z_c zX0_add) 6 = .ok (.aload_n 0, 1) := by decide +kernel
theorem dX0_add_7 : decode (z_c zX0_add) 7 = .ok (.dup, 1) := by decide +kernel
theorem dX0_add_8 : decode (z_c zX0_add) 8 = .ok (.getfield 7, 3) := by decide +kernel
theorem dX0_add_11 : decode (z_c zX0_add) 11 = .ok (.lconst 1, 1) := by decide +kernel
theorem dX0_add_12 : decode (z_c zX0_add) 12 = .ok (.iload_n 1, 1) := by decide +kernel
theorem dX0_add_13 : decode (z_c zX0_add) 13 = .ok (.lshl, 1) := by decide +kernel
theorem dX0_add_14 : decode (z_c zX0_add) 14 = .ok (.lor, 1) := by decide +kernel
theorem dX0_add_15 : decode (z_c zX0_add) 15 = .ok (.putfield 7, 3) := by decide +kernel
theorem dX0_add_18 : decode (z_c zX0_add) 18 = .ok (.goto 15, 3) := by decide +kernel
theorem dX0_add_21 : decode (z_c zX0_add) 21 = .ok (.aload_n 0, 1) := by decide +kernel
theorem dX0_add_22 : decode (z_c zX0_add) 22 = .ok (.dup, 1) := by decide +kernel
theorem dX0_add_23 : decode (z_c zX0_add) 23 = .ok (.getfield 13, 3) := by decide +kernel
theorem dX0_add_26 : decode (z_c zX0_add) 26 = .ok (.lconst 1, 1) := by decide +kernel
theorem dX0_add_27 : decode (z_c zX0_add) 27 = .ok (.iload_n 1, 1) := by decide +kernel
theorem dX0_add_28 : decode (z_c zX0_add) 28 = .ok (.lshl, 1) := by decide +kernel
theorem dX0_add_29 : decode (z_c zX0_add) 29 = .ok (.lor, 1) := by decide +kernel
theorem dX0_add_30 : decode (z_c zX0_add) 30 = .ok (.putfield 13, 3) := by decide +kernel
theorem dX0_add_33 : decode (z_c zX0_add) 33 = .ok (.return_, 1) := by decide +kernel
theorem dX0_drop_0 : decode (z_c zX0_drop) 0 = .ok (.iload_n 1, 1) := by decide +kernel
theorem dX0_drop_1 : decode (z_c zX0_drop) 1 = .ok (.bipush 64, 2) := by decide +kernel
theorem dX0_drop_3 : decode (z_c zX0_drop) 3 = .ok (.if_icmp .ge 22, 3) := by decide +kernel
theorem dX0_drop_6 : decode (z_c zX0_drop) 6 = .ok (.aload_n 0, 1) := by decide +kernel
theorem dX0_drop_7 : decode (z_c zX0_drop) 7 = .ok (.dup, 1) := by decide +kernel
theorem dX0_drop_8 : decode (z_c zX0_drop) 8 = .ok (.getfield 7, 3) := by decide +kernel
theorem dX0_drop_11 : decode (z_c zX0_drop) 11 = .ok (.lconst 1, 1) := by decide +kernel
theorem dX0_drop_12 : decode (z_c zX0_drop) 12 = .ok (.iload_n 1, 1) := by decide +kernel
theorem dX0_drop_13 : decode (z_c zX0_drop) 13 = .ok (.lshl, 1) := by decide +kernel
theorem dX0_drop_14 : decode (z_c zX0_drop) 14 = .ok (.ldc2_w 16, 3) := by decide +kernel
theorem dX0_drop_17 : decode (z_c zX0_drop) 17 = .ok (.lxor, 1) := by decide +kernel
theorem dX0_drop_18 : decode (z_c zX0_drop) 18 = .ok (.land, 1) := by decide +kernel
theorem dX0_drop_19 : decode (z_c zX0_drop) 19 = .ok (.putfield 7, 3) := by decide +kernel
theorem dX0_drop_22 : decode (z_c zX0_drop) 22 = .ok (.goto 19, 3) := by decide +kernel
theorem dX0_drop_25 : decode (z_c zX0_drop) 25 = .ok (.aload_n 0, 1) := by decide +kernel
theorem dX0_drop_26 : decode (z_c zX0_drop) 26 = .ok (.dup, 1) := by decide +kernel
theorem dX0_drop_27 : decode (z_c zX0_drop) 27 = .ok (.getfield 13, 3) := by decide +kernel
theorem dX0_drop_30 : decode (z_c zX0_drop) 30 = .ok (.lconst 1, 1) := by decide +kernel
theorem dX0_drop_31 : decode (z_c zX0_drop) 31 = .ok (.iload_n 1, 1) := by decide +kernel
theorem dX0_drop_32 : decode (z_c zX0_drop) 32 = .ok (.lshl, 1) := by decide +kernel
theorem dX0_drop_33 : decode (z_c zX0_drop) 33 = .ok (.ldc2_w 16, 3) := by decide +kernel
theorem dX0_drop_36 : decode (z_c zX0_drop) 36 = .ok (.lxor, 1) := by decide +kernel
theorem dX0_drop_37 : decode (z_c zX0_drop) 37 = .ok (.land, 1) := by decide +kernel
theorem dX0_drop_38 : decode (z_c zX0_drop) 38 = .ok (.putfield 13, 3) := by decide +kernel
theorem dX0_drop_41 : decode (z_c zX0_drop) 41 = .ok (.return_, 1) := by decide +kernel
theorem dX0_put_0 : decode (z_c zX0_put) 0 = .ok (.iload_n 2, 1) := by decide +kernel
theorem dX0_put_1 : decode (z_c zX0_put) 1 = .ok (.ifCond .eq 11, 3) := by decide +kernel
theorem dX0_put_4 : decode (z_c zX0_put) 4 = .ok (.aload_n 0, 1) := by decide +kernel
theorem dX0_put_5 : decode (z_c zX0_put) 5 = .ok (.iload_n 1, 1) := by decide +kernel
theorem dX0_put_6 : decode (z_c zX0_put) 6 = .ok (.invokevirtual 18, 3) := by decide +kernel
theorem dX0_put_9 : decode (z_c zX0_put) 9 = .ok (.goto 8, 3) := by decide +kernel
theorem dX0_put_12 : decode (z_c zX0_put) 12 = .ok (.aload_n 0, 1) := by decide +kernel
theorem dX0_put_13 : decode (z_c zX0_put) 13 = .ok (.iload_n 1, 1) := by decide +kernel
theorem dX0_put_14 : decode (z_c zX0_put) 14 = .ok (.invokevirtual 22, 3) := by decide +kernel
theorem dX0_put_17 : decode (z_c zX0_put) 17 = .ok (.return_, 1) := by decide +kernel
theorem dX0_join_0 : decode (z_c zX0_join) 0 = .ok (.aload_n 0, 1) := by decide +kernel
theorem dX0_join_1 : decode (z_c zX0_join) 1 = .ok (.dup, 1) := by decide +kernel
theorem dX0_join_2 : decode (z_c zX0_join) 2 = .ok (.getfield 7, 3) := by decide +kernel
theorem dX0_join_5 : decode (z_c zX0_join) 5 = .ok (.aload_n 1, 1) := by decide +kernel
theorem dX0_join_6 : decode (z_c zX0_join) 6 = .ok (.getfield 7, 3) := by decide +kernel
theorem dX0_join_9 : decode (z_c zX0_join) 9 = .ok (.lor, 1) := by decide +kernel
theorem dX0_join_10 : decode (z_c zX0_join) 10 = .ok (.putfield 7, 3) := by decide +kernel
theorem dX0_join_13 : decode (z_c zX0_join) 13 = .ok (.aload_n 0, 1) := by decide +kernel
theorem dX0_join_14 : decode (z_c zX0_join) 14 = .ok (.dup, 1) := by decide +kernel
theorem dX0_join_15 : decode (z_c zX0_join) 15 = .ok (.getfield 13, 3) := by decide +kernel
theorem dX0_join_18 : decode (z_c zX0_join) 18 = .ok (.aload_n 1, 1) := by decide +kernel
theorem dX0_join_19 : decode (z_c zX0_join) 19 = .ok (.getfield 13, 3) := by decide +kernel
theorem dX0_join_22 : decode (z_c zX0_join) 22 = .ok (.lor, 1) := by decide +kernel
theorem dX0_join_23 : decode (z_c zX0_join) 23 = .ok (.putfield 13, 3) := by decide +kernel
theorem dX0_join_26 : decode (z_c zX0_join) 26 = .ok (.return_, 1) := by decide +kernel
theorem dX0_meet_0 : decode (z_c zX0_meet) 0 = .ok (.aload_n 0, 1) := by decide +kernel
theorem dX0_meet_1 : decode (z_c zX0_meet) 1 = .ok (.dup, 1) := by decide +kernel
theorem dX0_meet_2 : decode (z_c zX0_meet) 2 = .ok (.getfield 7, 3) := by decide +kernel
theorem dX0_meet_5 : decode (z_c zX0_meet) 5 = .ok (.aload_n 1, 1) := by decide +kernel
theorem dX0_meet_6 : decode (z_c zX0_meet) 6 = .ok (.getfield 7, 3) := by decide +kernel
theorem dX0_meet_9 : decode (z_c zX0_meet) 9 = .ok (.land, 1) := by decide +kernel
theorem dX0_meet_10 : decode (z_c zX0_meet) 10 = .ok (.putfield 7, 3) := by decide +kernel
theorem dX0_meet_13 : decode (z_c zX0_meet) 13 = .ok (.aload_n 0, 1) := by decide +kernel
theorem dX0_meet_14 : decode (z_c zX0_meet) 14 = .ok (.dup, 1) := by decide +kernel
theorem dX0_meet_15 : decode (z_c zX0_meet) 15 = .ok (.getfield 13, 3) := by decide +kernel
theorem dX0_meet_18 : decode (z_c zX0_meet) 18 = .ok (.aload_n 1, 1) := by decide +kernel
theorem dX0_meet_19 : decode (z_c zX0_meet) 19 = .ok (.getfield 13, 3) := by decide +kernel
theorem dX0_meet_22 : decode (z_c zX0_meet) 22 = .ok (.land, 1) := by decide +kernel
theorem dX0_meet_23 : decode (z_c zX0_meet) 23 = .ok (.putfield 13, 3) := by decide +kernel
theorem dX0_meet_26 : decode (z_c zX0_meet) 26 = .ok (.return_, 1) := by decide +kernel
theorem dX0_leave_0 : decode (z_c zX0_leave) 0 = .ok (.aload_n 0, 1) := by decide +kernel
theorem dX0_leave_1 : decode (z_c zX0_leave) 1 = .ok (.aload_n 0, 1) := by decide +kernel
theorem dX0_leave_2 : decode (z_c zX0_leave) 2 = .ok (.getfield 7, 3) := by decide +kernel
theorem dX0_leave_5 : decode (z_c zX0_leave) 5 = .ok (.aload_n 1, 1) := by decide +kernel
theorem dX0_leave_6 : decode (z_c zX0_leave) 6 = .ok (.getfield 7, 3) := by decide +kernel
theorem dX0_leave_9 : decode (z_c zX0_leave) 9 = .ok (.ldc2_w 16, 3) := by decide +kernel
theorem dX0_leave_12 : decode (z_c zX0_leave) 12 = .ok (.lxor, 1) := by decide +kernel
theorem dX0_leave_13 : decode (z_c zX0_leave) 13 = .ok (.land, 1) := by decide +kernel
theorem dX0_leave_14 : decode (z_c zX0_leave) 14 = .ok (.putfield 7, 3) := by decide +kernel
theorem dX0_leave_17 : decode (z_c zX0_leave) 17 = .ok (.aload_n 0, 1) := by decide +kernel
theorem dX0_leave_18 : decode (z_c zX0_leave) 18 = .ok (.aload_n 0, 1) := by decide +kernel
theorem dX0_leave_19 : decode (z_c zX0_leave) 19 = .ok (.getfield 13, 3) := by decide +kernel
theorem dX0_leave_22 : decode (z_c zX0_leave) 22 = .ok (.aload_n 1, 1) := by decide +kernel
theorem dX0_leave_23 : decode (z_c zX0_leave) 23 = .ok (.getfield 13, 3) := by decide +kernel
theorem dX0_leave_26 : decode (z_c zX0_leave) 26 = .ok (.ldc2_w 16, 3) := by decide +kernel
theorem dX0_leave_29 : decode (z_c zX0_leave) 29 = .ok (.lxor, 1) := by decide +kernel
theorem dX0_leave_30 : decode (z_c zX0_leave) 30 = .ok (.land, 1) := by decide +kernel
theorem dX0_leave_31 : decode (z_c zX0_leave) 31 = .ok (.putfield 13, 3) := by decide +kernel
theorem dX0_leave_34 : decode (z_c zX0_leave) 34 = .ok (.return_, 1) := by decide +kernel
theorem dX0_joinMoved_0 : decode (z_c zX0_joinMoved) 0 = .ok (.aload_n 0, 1) := by decide +kernel
theorem dX0_joinMoved_1 : decode (z_c zX0_joinMoved) 1 = .ok (.dup, 1) := by decide +kernel
theorem dX0_joinMoved_2 : decode (z_c zX0_joinMoved) 2 = .ok (.getfield 7, 3) := by decide +kernel
theorem dX0_joinMoved_5 : decode (z_c zX0_joinMoved) 5 = .ok (.aload_n 1, 1) := by decide +kernel
theorem dX0_joinMoved_6 : decode (z_c zX0_joinMoved) 6 = .ok (.getfield 7, 3) := by decide +kernel
theorem dX0_joinMoved_9 : decode (z_c zX0_joinMoved) 9 = .ok (.iload_n 2, 1) := by decide +kernel
theorem dX0_joinMoved_10 : decode (z_c zX0_joinMoved) 10 = .ok (.lshl, 1) := by decide +kernel
theorem dX0_joinMoved_11 : decode (z_c zX0_joinMoved) 11 = .ok (.lor, 1) := by decide +kernel
theorem dX0_joinMoved_12 : decode (z_c zX0_joinMoved) 12 = .ok (.putfield 7, 3) := by decide +kernel
theorem dX0_joinMoved_15 : decode (z_c zX0_joinMoved) 15 = .ok (.aload_n 0, 1) := by decide +kernel
theorem dX0_joinMoved_16 : decode (z_c zX0_joinMoved) 16 = .ok (.dup, 1) := by decide +kernel
theorem dX0_joinMoved_17 : decode (z_c zX0_joinMoved) 17 = .ok (.getfield 13, 3) := by decide +kernel
theorem dX0_joinMoved_20 : decode (z_c zX0_joinMoved) 20 = .ok (.aload_n 1, 1) := by decide +kernel
theorem dX0_joinMoved_21 : decode (z_c zX0_joinMoved) 21 = .ok (.getfield 13, 3) := by decide +kernel
theorem dX0_joinMoved_24 : decode (z_c zX0_joinMoved) 24 = .ok (.iload_n 2, 1) := by decide +kernel
theorem dX0_joinMoved_25 : decode (z_c zX0_joinMoved) 25 = .ok (.lshl, 1) := by decide +kernel
theorem dX0_joinMoved_26 : decode (z_c zX0_joinMoved) 26 = .ok (.lor, 1) := by decide +kernel
theorem dX0_joinMoved_27 : decode (z_c zX0_joinMoved) 27 = .ok (.putfield 13, 3) := by decide +kernel
theorem dX0_joinMoved_30 : decode (z_c zX0_joinMoved) 30 = .ok (.iload_n 2, 1) := by decide +kernel
theorem dX0_joinMoved_31 : decode (z_c zX0_joinMoved) 31 = .ok (.ifCond .le 21, 3) := by decide +kernel
theorem dX0_joinMoved_34 : decode (z_c zX0_joinMoved) 34 = .ok (.aload_n 0, 1) := by decide +kernel
theorem dX0_joinMoved_35 : decode (z_c zX0_joinMoved) 35 = .ok (.dup, 1) := by decide +kernel
theorem dX0_joinMoved_36 : decode (z_c zX0_joinMoved) 36 = .ok (.getfield 13, 3) := by decide +kernel
theorem dX0_joinMoved_39 : decode (z_c zX0_joinMoved) 39 = .ok (.aload_n 1, 1) := by decide +kernel
theorem dX0_joinMoved_40 : decode (z_c zX0_joinMoved) 40 = .ok (.getfield 7, 3) := by decide +kernel
theorem dX0_joinMoved_43 : decode (z_c zX0_joinMoved) 43 = .ok (.bipush 64, 2) := by decide +kernel
theorem dX0_joinMoved_45 : decode (z_c zX0_joinMoved) 45 = .ok (.iload_n 2, 1) := by decide +kernel
theorem dX0_joinMoved_46 : decode (z_c zX0_joinMoved) 46 = .ok (.isub, 1) := by decide +kernel
theorem dX0_joinMoved_47 : decode (z_c zX0_joinMoved) 47 = .ok (.lushr, 1) := by decide +kernel
theorem dX0_joinMoved_48 : decode (z_c zX0_joinMoved) 48 = .ok (.lor, 1) := by decide +kernel
theorem dX0_joinMoved_49 : decode (z_c zX0_joinMoved) 49 = .ok (.putfield 13, 3) := by decide +kernel
theorem dX0_joinMoved_52 : decode (z_c zX0_joinMoved) 52 = .ok (.return_, 1) := by decide +kernel
theorem dX0_size_0 : decode (z_c zX0_size) 0 = .ok (.aload_n 0, 1) := by decide +kernel
theorem dX0_size_1 : decode (z_c zX0_size) 1 = .ok (.getfield 7, 3) := by decide +kernel
theorem dX0_size_4 : decode (z_c zX0_size) 4 = .ok (.invokestatic 25, 3) := by decide +kernel
theorem dX0_size_7 : decode (z_c zX0_size) 7 = .ok (.aload_n 0, 1) := by decide +kernel
theorem dX0_size_8 : decode (z_c zX0_size) 8 = .ok (.getfield 13, 3) := by decide +kernel
theorem dX0_size_11 : decode (z_c zX0_size) 11 = .ok (.invokestatic 25, 3) := by decide +kernel
theorem dX0_size_14 : decode (z_c zX0_size) 14 = .ok (.iadd, 1) := by decide +kernel
theorem dX0_size_15 : decode (z_c zX0_size) 15 = .ok (.ireturn, 1) := by decide +kernel
theorem dX0_least_0 : decode (z_c zX0_least) 0 = .ok (.aload_n 0, 1) := by decide +kernel
theorem dX0_least_1 : decode (z_c zX0_least) 1 = .ok (.getfield 7, 3) := by decide +kernel
theorem dX0_least_4 : decode (z_c zX0_least) 4 = .ok (.lconst 0, 1) := by decide +kernel
theorem dX0_least_5 : decode (z_c zX0_least) 5 = .ok (.lcmp, 1) := by decide +kernel
theorem dX0_least_6 : decode (z_c zX0_least) 6 = .ok (.ifCond .eq 13, 3) := by decide +kernel
theorem dX0_least_9 : decode (z_c zX0_least) 9 = .ok (.aload_n 0, 1) := by decide +kernel
theorem dX0_least_10 : decode (z_c zX0_least) 10 = .ok (.getfield 7, 3) := by decide +kernel
theorem dX0_least_13 : decode (z_c zX0_least) 13 = .ok (.invokestatic 31, 3) := by decide +kernel
theorem dX0_least_16 : decode (z_c zX0_least) 16 = .ok (.goto 13, 3) := by decide +kernel
theorem dX0_least_19 : decode (z_c zX0_least) 19 = .ok (.bipush 64, 2) := by decide +kernel
theorem dX0_least_21 : decode (z_c zX0_least) 21 = .ok (.aload_n 0, 1) := by decide +kernel
theorem dX0_least_22 : decode (z_c zX0_least) 22 = .ok (.getfield 13, 3) := by decide +kernel
theorem dX0_least_25 : decode (z_c zX0_least) 25 = .ok (.invokestatic 31, 3) := by decide +kernel
theorem dX0_least_28 : decode (z_c zX0_least) 28 = .ok (.iadd, 1) := by decide +kernel
theorem dX0_least_29 : decode (z_c zX0_least) 29 = .ok (.ireturn, 1) := by decide +kernel
theorem dX0_nth_0 : decode (z_c zX0_nth) 0 = .ok (.iconst 0, 1) := by decide +kernel
theorem dX0_nth_1 : decode (z_c zX0_nth) 1 = .ok (.istore_n 3, 1) := by decide +kernel
theorem dX0_nth_2 : decode (z_c zX0_nth) 2 = .ok (.iconst 0, 1) := by decide +kernel
theorem dX0_nth_3 : decode (z_c zX0_nth) 3 = .ok (.istore 4, 2) := by decide +kernel
theorem dX0_nth_5 : decode (z_c zX0_nth) 5 = .ok (.iload 4, 2) := by decide +kernel
theorem dX0_nth_7 : decode (z_c zX0_nth) 7 = .ok (.iload_n 2, 1) := by decide +kernel
theorem dX0_nth_8 : decode (z_c zX0_nth) 8 = .ok (.if_icmp .ge 29, 3) := by decide +kernel
theorem dX0_nth_11 : decode (z_c zX0_nth) 11 = .ok (.aload_n 0, 1) := by decide +kernel
theorem dX0_nth_12 : decode (z_c zX0_nth) 12 = .ok (.iload 4, 2) := by decide +kernel
theorem dX0_nth_14 : decode (z_c zX0_nth) 14 = .ok (.invokevirtual 34, 3) := by decide +kernel
theorem dX0_nth_17 : decode (z_c zX0_nth) 17 = .ok (.ifCond .eq 14, 3) := by decide +kernel
theorem dX0_nth_20 : decode (z_c zX0_nth) 20 = .ok (.iload_n 3, 1) := by decide +kernel
theorem dX0_nth_21 : decode (z_c zX0_nth) 21 = .ok (.iload_n 1, 1) := by decide +kernel
theorem dX0_nth_22 : decode (z_c zX0_nth) 22 = .ok (.if_icmp .ne 6, 3) := by decide +kernel
theorem dX0_nth_25 : decode (z_c zX0_nth) 25 = .ok (.iload 4, 2) := by decide +kernel
theorem dX0_nth_27 : decode (z_c zX0_nth) 27 = .ok (.ireturn, 1) := by decide +kernel
theorem dX0_nth_28 : decode (z_c zX0_nth) 28 = .ok (.iinc 3 1, 3) := by decide +kernel
theorem dX0_nth_31 : decode (z_c zX0_nth) 31 = .ok (.iinc 4 1, 3) := by decide +kernel
theorem dX0_nth_34 : decode (z_c zX0_nth) 34 = .ok (.goto (-29), 3) := by decide +kernel
theorem dX0_nth_37 : decode (z_c zX0_nth) 37 = .ok (.iconst (-1), 1) := by decide +kernel
theorem dX0_nth_38 : decode (z_c zX0_nth) 38 = .ok (.ireturn, 1) := by decide +kernel
theorem dX0_lowest_0 : decode (z_c zX0_lowest) 0 = .ok (.lload_n 0, 1) := by decide +kernel
theorem dX0_lowest_1 : decode (z_c zX0_lowest) 1 = .ok (.lload_n 0, 1) := by decide +kernel
theorem dX0_lowest_2 : decode (z_c zX0_lowest) 2 = .ok (.lneg, 1) := by decide +kernel
theorem dX0_lowest_3 : decode (z_c zX0_lowest) 3 = .ok (.land, 1) := by decide +kernel
theorem dX0_lowest_4 : decode (z_c zX0_lowest) 4 = .ok (.lconst 1, 1) := by decide +kernel
theorem dX0_lowest_5 : decode (z_c zX0_lowest) 5 = .ok (.lsub, 1) := by decide +kernel
theorem dX0_lowest_6 : decode (z_c zX0_lowest) 6 = .ok (.invokestatic 25, 3) := by decide +kernel
theorem dX0_lowest_9 : decode (z_c zX0_lowest) 9 = .ok (.ireturn, 1) := by decide +kernel
theorem dX1_start_0 : decode (z_c zX1_start) 0 = .ok (.aload_n 0, 1) := by decide +kernel
theorem dX1_start_1 : decode (z_c zX1_start) 1 = .ok (.getfield 12, 3) := by decide +kernel
theorem dX1_start_4 : decode (z_c zX1_start) 4 = .ok (.iload_n 1, 1) := by decide +kernel
theorem dX1_start_5 : decode (z_c zX1_start) 5 = .ok (.iload_n 2, 1) := by decide +kernel
theorem dX1_start_6 : decode (z_c zX1_start) 6 = .ok (.iload_n 3, 1) := by decide +kernel
theorem dX1_start_7 : decode (z_c zX1_start) 7 = .ok (.invokevirtual 47, 3) := by decide +kernel
theorem dX1_start_10 : decode (z_c zX1_start) 10 = .ok (.aload_n 0, 1) := by decide +kernel
theorem dX1_start_11 : decode (z_c zX1_start) 11 = .ok (.getfield 21, 3) := by decide +kernel
theorem dX1_start_14 : decode (z_c zX1_start) 14 = .ok (.invokevirtual 51, 3) := by decide +kernel
theorem dX1_start_17 : decode (z_c zX1_start) 17 = .ok (.iconst 0, 1) := by decide +kernel
theorem dX1_start_18 : decode (z_c zX1_start) 18 = .ok (.istore 4, 2) := by decide +kernel
theorem dX1_start_20 : decode (z_c zX1_start) 20 = .ok (.iload 4, 2) := by decide +kernel
theorem dX1_start_22 : decode (z_c zX1_start) 22 = .ok (.aload_n 0, 1) := by decide +kernel
theorem dX1_start_23 : decode (z_c zX1_start) 23 = .ok (.getfield 12, 3) := by decide +kernel
theorem dX1_start_26 : decode (z_c zX1_start) 26 = .ok (.getfield 54, 3) := by decide +kernel
theorem dX1_start_29 : decode (z_c zX1_start) 29 = .ok (.if_icmp .ge 18, 3) := by decide +kernel
theorem dX1_start_32 : decode (z_c zX1_start) 32 = .ok (.aload_n 0, 1) := by decide +kernel
theorem dX1_start_33 : decode (z_c zX1_start) 33 = .ok (.getfield 21, 3) := by decide +kernel
theorem dX1_start_36 : decode (z_c zX1_start) 36 = .ok (.iload 4, 2) := by decide +kernel
theorem dX1_start_38 : decode (z_c zX1_start) 38 = .ok (.invokevirtual 58, 3) := by decide +kernel
theorem dX1_start_41 : decode (z_c zX1_start) 41 = .ok (.iinc 4 1, 3) := by decide +kernel
theorem dX1_start_44 : decode (z_c zX1_start) 44 = .ok (.goto (-24), 3) := by decide +kernel
theorem dX1_start_47 : decode (z_c zX1_start) 47 = .ok (.aload_n 0, 1) := by decide +kernel
theorem dX1_start_48 : decode (z_c zX1_start) 48 = .ok (.getfield 25, 3) := by decide +kernel
theorem dX1_start_51 : decode (z_c zX1_start) 51 = .ok (.invokevirtual 51, 3) := by decide +kernel
theorem dX1_start_54 : decode (z_c zX1_start) 54 = .ok (.aload_n 0, 1) := by decide +kernel
theorem dX1_start_55 : decode (z_c zX1_start) 55 = .ok (.invokevirtual 62, 3) := by decide +kernel
theorem dX1_start_58 : decode (z_c zX1_start) 58 = .ok (.return_, 1) := by decide +kernel
theorem dX1_hideAll_0 : decode (z_c zX1_hideAll) 0 = .ok (.aload_n 0, 1) := by decide +kernel
theorem dX1_hideAll_1 : decode (z_c zX1_hideAll) 1 = .ok (.getfield 28, 3) := by decide +kernel
theorem dX1_hideAll_4 : decode (z_c zX1_hideAll) 4 = .ok (.aload_n 0, 1) := by decide +kernel
theorem dX1_hideAll_5 : decode (z_c zX1_hideAll) 5 = .ok (.getfield 21, 3) := by decide +kernel
theorem dX1_hideAll_8 : decode (z_c zX1_hideAll) 8 = .ok (.invokevirtual 65, 3) := by decide +kernel
theorem dX1_hideAll_11 : decode (z_c zX1_hideAll) 11 = .ok (.aload_n 0, 1) := by decide +kernel
theorem dX1_hideAll_12 : decode (z_c zX1_hideAll) 12 = .ok (.getfield 31, 3) := by decide +kernel
theorem dX1_hideAll_15 : decode (z_c zX1_hideAll) 15 = .ok (.invokevirtual 51, 3) := by decide +kernel
theorem dX1_hideAll_18 : decode (z_c zX1_hideAll) 18 = .ok (.aload_n 0, 1) := by decide +kernel
theorem dX1_hideAll_19 : decode (z_c zX1_hideAll) 19 = .ok (.getfield 34, 3) := by decide +kernel
theorem dX1_hideAll_22 : decode (z_c zX1_hideAll) 22 = .ok (.invokevirtual 51, 3) := by decide +kernel
theorem dX1_hideAll_25 : decode (z_c zX1_hideAll) 25 = .ok (.aload_n 0, 1) := by decide +kernel
theorem dX1_hideAll_26 : decode (z_c zX1_hideAll) 26 = .ok (.getfield 37, 3) := by decide +kernel
theorem dX1_hideAll_29 : decode (z_c zX1_hideAll) 29 = .ok (.invokevirtual 51, 3) := by decide +kernel
theorem dX1_hideAll_32 : decode (z_c zX1_hideAll) 32 = .ok (.return_, 1) := by decide +kernel
theorem dX1_number_0 : decode (z_c zX1_number) 0 = .ok (.aload_n 0, 1) := by decide +kernel
theorem dX1_number_1 : decode (z_c zX1_number) 1 = .ok (.getfield 12, 3) := by decide +kernel
theorem dX1_number_4 : decode (z_c zX1_number) 4 = .ok (.iload_n 1, 1) := by decide +kernel
theorem dX1_number_5 : decode (z_c zX1_number) 5 = .ok (.aload_n 0, 1) := by decide +kernel
theorem dX1_number_6 : decode (z_c zX1_number) 6 = .ok (.getfield 25, 3) := by decide +kernel
theorem dX1_number_9 : decode (z_c zX1_number) 9 = .ok (.invokevirtual 69, 3) := by decide +kernel
theorem dX1_number_12 : decode (z_c zX1_number) 12 = .ok (.ireturn, 1) := by decide +kernel
theorem dX1_due_0 : decode (z_c zX1_due) 0 = .ok (.aload_n 0, 1) := by decide +kernel
theorem dX1_due_1 : decode (z_c zX1_due) 1 = .ok (.getfield 12, 3) := by decide +kernel
theorem dX1_due_4 : decode (z_c zX1_due) 4 = .ok (.getfield 73, 3) := by decide +kernel
theorem dX1_due_7 : decode (z_c zX1_due) 7 = .ok (.iload_n 1, 1) := by decide +kernel
theorem dX1_due_8 : decode (z_c zX1_due) 8 = .ok (.laload, 1) := by decide +kernel
theorem dX1_due_9 : decode (z_c zX1_due) 9 = .ok (.lstore_n 3, 1) := by decide +kernel
theorem dX1_due_10 : decode (z_c zX1_due) 10 = .ok (.aload_n 0, 1) := by decide +kernel
theorem dX1_due_11 : decode (z_c zX1_due) 11 = .ok (.getfield 12, 3) := by decide +kernel
theorem dX1_due_14 : decode (z_c zX1_due) 14 = .ok (.getfield 77, 3) := by decide +kernel
theorem dX1_due_17 : decode (z_c zX1_due) 17 = .ok (.iload_n 1, 1) := by decide +kernel
theorem dX1_due_18 : decode (z_c zX1_due) 18 = .ok (.laload, 1) := by decide +kernel
theorem dX1_due_19 : decode (z_c zX1_due) 19 = .ok (.lstore 5, 2) := by decide +kernel
theorem dX1_due_21 : decode (z_c zX1_due) 21 = .ok (.lload_n 3, 1) := by decide +kernel
theorem dX1_due_22 : decode (z_c zX1_due) 22 = .ok (.aload_n 0, 1) := by decide +kernel
theorem dX1_due_23 : decode (z_c zX1_due) 23 = .ok (.getfield 25, 3) := by decide +kernel
theorem dX1_due_26 : decode (z_c zX1_due) 26 = .ok (.getfield 80, 3) := by decide +kernel
theorem dX1_due_29 : decode (z_c zX1_due) 29 = .ok (.land, 1) := by decide +kernel
theorem dX1_due_30 : decode (z_c zX1_due) 30 = .ok (.invokestatic 84, 3) := by decide +kernel
theorem dX1_due_33 : decode (z_c zX1_due) 33 = .ok (.lload 5, 2) := by decide +kernel
theorem dX1_due_35 : decode (z_c zX1_due) 35 = .ok (.aload_n 0, 1) := by decide +kernel
theorem dX1_due_36 : decode (z_c zX1_due) 36 = .ok (.getfield 25, 3) := by decide +kernel
theorem dX1_due_39 : decode (z_c zX1_due) 39 = .ok (.getfield 90, 3) := by decide +kernel
theorem dX1_due_42 : decode (z_c zX1_due) 42 = .ok (.land, 1) := by decide +kernel
theorem dX1_due_43 : decode (z_c zX1_due) 43 = .ok (.invokestatic 84, 3) := by decide +kernel
theorem dX1_due_46 : decode (z_c zX1_due) 46 = .ok (.iadd, 1) := by decide +kernel
theorem dX1_due_47 : decode (z_c zX1_due) 47 = .ok (.lload_n 3, 1) := by decide +kernel
theorem dX1_due_48 : decode (z_c zX1_due) 48 = .ok (.aload_n 2, 1) := by decide +kernel
theorem dX1_due_49 : decode (z_c zX1_due) 49 = .ok (.getfield 80, 3) := by decide +kernel
theorem dX1_due_52 : decode (z_c zX1_due) 52 = .ok (.land, 1) := by decide +kernel
theorem dX1_due_53 : decode (z_c zX1_due) 53 = .ok (.invokestatic 84, 3) := by decide +kernel
theorem dX1_due_56 : decode (z_c zX1_due) 56 = .ok (.isub, 1) := by decide +kernel
theorem dX1_due_57 : decode (z_c zX1_due) 57 = .ok (.lload 5, 2) := by decide +kernel
theorem dX1_due_59 : decode (z_c zX1_due) 59 = .ok (.aload_n 2, 1) := by decide +kernel
theorem dX1_due_60 : decode (z_c zX1_due) 60 = .ok (.getfield 90, 3) := by decide +kernel
theorem dX1_due_63 : decode (z_c zX1_due) 63 = .ok (.land, 1) := by decide +kernel
theorem dX1_due_64 : decode (z_c zX1_due) 64 = .ok (.invokestatic 84, 3) := by decide +kernel
theorem dX1_due_67 : decode (z_c zX1_due) 67 = .ok (.isub, 1) := by decide +kernel
theorem dX1_due_68 : decode (z_c zX1_due) 68 = .ok (.ireturn, 1) := by decide +kernel
theorem dX1_minesLeft_0 : decode (z_c zX1_minesLeft) 0 = .ok (.aload_n 0, 1) := by decide +kernel
theorem dX1_minesLeft_1 : decode (z_c zX1_minesLeft) 1 = .ok (.getfield 25, 3) := by decide +kernel
theorem dX1_minesLeft_4 : decode (z_c zX1_minesLeft) 4 = .ok (.invokevirtual 93, 3) := by decide +kernel
theorem dX1_minesLeft_7 : decode (z_c zX1_minesLeft) 7 = .ok (.aload_n 0, 1) := by decide +kernel
theorem dX1_minesLeft_8 : decode (z_c zX1_minesLeft) 8 = .ok (.getfield 34, 3) := by decide +kernel
theorem dX1_minesLeft_11 : decode (z_c zX1_minesLeft) 11 = .ok (.invokevirtual 93, 3) := by decide +kernel
theorem dX1_minesLeft_14 : decode (z_c zX1_minesLeft) 14 = .ok (.isub, 1) := by decide +kernel
theorem dX1_minesLeft_15 : decode (z_c zX1_minesLeft) 15 = .ok (.ireturn, 1) := by decide +kernel
theorem dX1_marked_0 : decode (z_c zX1_marked) 0 = .ok (.aload_n 0, 1) := by decide +kernel
theorem dX1_marked_1 : decode (z_c zX1_marked) 1 = .ok (.getfield 12, 3) := by decide +kernel
theorem dX1_marked_4 : decode (z_c zX1_marked) 4 = .ok (.iload_n 1, 1) := by decide +kernel
theorem dX1_marked_5 : decode (z_c zX1_marked) 5 = .ok (.aload_n 0, 1) := by decide +kernel
theorem dX1_marked_6 : decode (z_c zX1_marked) 6 = .ok (.getfield 37, 3) := by decide +kernel
theorem dX1_marked_9 : decode (z_c zX1_marked) 9 = .ok (.invokevirtual 69, 3) := by decide +kernel
theorem dX1_marked_12 : decode (z_c zX1_marked) 12 = .ok (.aload_n 0, 1) := by decide +kernel
theorem dX1_marked_13 : decode (z_c zX1_marked) 13 = .ok (.getfield 12, 3) := by decide +kernel
theorem dX1_marked_16 : decode (z_c zX1_marked) 16 = .ok (.iload_n 1, 1) := by decide +kernel
theorem dX1_marked_17 : decode (z_c zX1_marked) 17 = .ok (.aload_n 0, 1) := by decide +kernel
theorem dX1_marked_18 : decode (z_c zX1_marked) 18 = .ok (.getfield 34, 3) := by decide +kernel
theorem dX1_marked_21 : decode (z_c zX1_marked) 21 = .ok (.invokevirtual 69, 3) := by decide +kernel
theorem dX1_marked_24 : decode (z_c zX1_marked) 24 = .ok (.iadd, 1) := by decide +kernel
theorem dX1_marked_25 : decode (z_c zX1_marked) 25 = .ok (.ireturn, 1) := by decide +kernel
theorem dX1_cleared_0 : decode (z_c zX1_cleared) 0 = .ok (.aload_n 0, 1) := by decide +kernel
theorem dX1_cleared_1 : decode (z_c zX1_cleared) 1 = .ok (.getfield 28, 3) := by decide +kernel
theorem dX1_cleared_4 : decode (z_c zX1_cleared) 4 = .ok (.getfield 80, 3) := by decide +kernel
theorem dX1_cleared_7 : decode (z_c zX1_cleared) 7 = .ok (.aload_n 0, 1) := by decide +kernel
theorem dX1_cleared_8 : decode (z_c zX1_cleared) 8 = .ok (.getfield 25, 3) := by decide +kernel
theorem dX1_cleared_11 : decode (z_c zX1_cleared) 11 = .ok (.getfield 80, 3) := by decide +kernel
theorem dX1_cleared_14 : decode (z_c zX1_cleared) 14 = .ok (.ldc2_w 97, 3) := by decide +kernel
theorem dX1_cleared_17 : decode (z_c zX1_cleared) 17 = .ok (.lxor, 1) := by decide +kernel
theorem dX1_cleared_18 : decode (z_c zX1_cleared) 18 = .ok (.land, 1) := by decide +kernel
theorem dX1_cleared_19 : decode (z_c zX1_cleared) 19 = .ok (.aload_n 0, 1) := by decide +kernel
theorem dX1_cleared_20 : decode (z_c zX1_cleared) 20 = .ok (.getfield 28, 3) := by decide +kernel
theorem dX1_cleared_23 : decode (z_c zX1_cleared) 23 = .ok (.getfield 90, 3) := by decide +kernel
theorem dX1_cleared_26 : decode (z_c zX1_cleared) 26 = .ok (.aload_n 0, 1) := by decide +kernel
theorem dX1_cleared_27 : decode (z_c zX1_cleared) 27 = .ok (.getfield 25, 3) := by decide +kernel
theorem dX1_cleared_30 : decode (z_c zX1_cleared) 30 = .ok (.getfield 90, 3) := by decide +kernel
theorem dX1_cleared_33 : decode (z_c zX1_cleared) 33 = .ok (.ldc2_w 97, 3) := by decide +kernel
theorem dX1_cleared_36 : decode (z_c zX1_cleared) 36 = .ok (.lxor, 1) := by decide +kernel
theorem dX1_cleared_37 : decode (z_c zX1_cleared) 37 = .ok (.land, 1) := by decide +kernel
theorem dX1_cleared_38 : decode (z_c zX1_cleared) 38 = .ok (.lor, 1) := by decide +kernel
theorem dX1_cleared_39 : decode (z_c zX1_cleared) 39 = .ok (.lconst 0, 1) := by decide +kernel
theorem dX1_cleared_40 : decode (z_c zX1_cleared) 40 = .ok (.lcmp, 1) := by decide +kernel
theorem dX1_cleared_41 : decode (z_c zX1_cleared) 41 = .ok (.ifCond .ne 7, 3) := by decide +kernel
theorem dX1_cleared_44 : decode (z_c zX1_cleared) 44 = .ok (.iconst 1, 1) := by decide +kernel
theorem dX1_cleared_45 : decode (z_c zX1_cleared) 45 = .ok (.goto 4, 3) := by decide +kernel
theorem dX1_cleared_48 : decode (z_c zX1_cleared) 48 = .ok (.iconst 0, 1) := by decide +kernel
theorem dX1_cleared_49 : decode (z_c zX1_cleared) 49 = .ok (.ireturn, 1) := by decide +kernel
theorem dX1_uncover_0 : decode (z_c zX1_uncover) 0 = .ok (.aload_n 0, 1) := by decide +kernel
theorem dX1_uncover_1 : decode (z_c zX1_uncover) 1 = .ok (.getfield 25, 3) := by decide +kernel
theorem dX1_uncover_4 : decode (z_c zX1_uncover) 4 = .ok (.iload_n 1, 1) := by decide +kernel
theorem dX1_uncover_5 : decode (z_c zX1_uncover) 5 = .ok (.invokevirtual 99, 3) := by decide +kernel
theorem dX1_uncover_8 : decode (z_c zX1_uncover) 8 = .ok (.ifCond .eq 20, 3) := by decide +kernel
theorem dX1_uncover_11 : decode (z_c zX1_uncover) 11 = .ok (.aload_n 0, 1) := by decide +kernel
theorem dX1_uncover_12 : decode (z_c zX1_uncover) 12 = .ok (.getfield 28, 3) := by decide +kernel
theorem dX1_uncover_15 : decode (z_c zX1_uncover) 15 = .ok (.iload_n 1, 1) := by decide +kernel
theorem dX1_uncover_16 : decode (z_c zX1_uncover) 16 = .ok (.invokevirtual 103, 3) := by decide +kernel
theorem dX1_uncover_19 : decode (z_c zX1_uncover) 19 = .ok (.aload_n 0, 1) := by decide +kernel
theorem dX1_uncover_20 : decode (z_c zX1_uncover) 20 = .ok (.getfield 34, 3) := by decide +kernel
theorem dX1_uncover_23 : decode (z_c zX1_uncover) 23 = .ok (.iload_n 1, 1) := by decide +kernel
theorem dX1_uncover_24 : decode (z_c zX1_uncover) 24 = .ok (.invokevirtual 58, 3) := by decide +kernel
theorem dX1_uncover_27 : decode (z_c zX1_uncover) 27 = .ok (.return_, 1) := by decide +kernel
theorem dX1_uncover_28 : decode (z_c zX1_uncover) 28 = .ok (.aload_n 0, 1) := by decide +kernel
theorem dX1_uncover_29 : decode (z_c zX1_uncover) 29 = .ok (.iload_n 1, 1) := by decide +kernel
theorem dX1_uncover_30 : decode (z_c zX1_uncover) 30 = .ok (.invokevirtual 106, 3) := by decide +kernel
theorem dX1_uncover_33 : decode (z_c zX1_uncover) 33 = .ok (.aload_n 0, 1) := by decide +kernel
theorem dX1_uncover_34 : decode (z_c zX1_uncover) 34 = .ok (.getfield 43, 3) := by decide +kernel
theorem dX1_uncover_37 : decode (z_c zX1_uncover) 37 = .ok (.iconst 0, 1) := by decide +kernel
theorem dX1_uncover_38 : decode (z_c zX1_uncover) 38 = .ok (.iload_n 1, 1) := by decide +kernel
theorem dX1_uncover_39 : decode (z_c zX1_uncover) 39 = .ok (.iastore, 1) := by decide +kernel
theorem dX1_uncover_40 : decode (z_c zX1_uncover) 40 = .ok (.iconst 1, 1) := by decide +kernel
theorem dX1_uncover_41 : decode (z_c zX1_uncover) 41 = .ok (.istore_n 2, 1) := by decide +kernel
theorem dX1_uncover_42 : decode (z_c zX1_uncover) 42 = .ok (.iconst 0, 1) := by decide +kernel
theorem dX1_uncover_43 : decode (z_c zX1_uncover) 43 = .ok (.istore_n 3, 1) := by decide +kernel
theorem dX1_uncover_44 : decode (z_c zX1_uncover) 44 = .ok (.iload_n 3, 1) := by decide +kernel
theorem dX1_uncover_45 : decode (z_c zX1_uncover) 45 = .ok (.iload_n 2, 1) := by decide +kernel
theorem dX1_uncover_46 : decode (z_c zX1_uncover) 46 = .ok (.if_icmp .ge 40, 3) := by decide +kernel
theorem dX1_uncover_49 : decode (z_c zX1_uncover) 49 = .ok (.iload_n 3, 1) := by decide +kernel
theorem dX1_uncover_50 : decode (z_c zX1_uncover) 50 = .ok (.bipush 100, 2) := by decide +kernel
theorem dX1_uncover_52 : decode (z_c zX1_uncover) 52 = .ok (.if_icmp .ge 34, 3) := by decide +kernel
theorem dX1_uncover_55 : decode (z_c zX1_uncover) 55 = .ok (.aload_n 0, 1) := by decide +kernel
theorem dX1_uncover_56 : decode (z_c zX1_uncover) 56 = .ok (.getfield 43, 3) := by decide +kernel
theorem dX1_uncover_59 : decode (z_c zX1_uncover) 59 = .ok (.iload_n 3, 1) := by decide +kernel
theorem dX1_uncover_60 : decode (z_c zX1_uncover) 60 = .ok (.iaload, 1) := by decide +kernel
theorem dX1_uncover_61 : decode (z_c zX1_uncover) 61 = .ok (.istore 4, 2) := by decide +kernel
theorem dX1_uncover_63 : decode (z_c zX1_uncover) 63 = .ok (.aload_n 0, 1) := by decide +kernel
theorem dX1_uncover_64 : decode (z_c zX1_uncover) 64 = .ok (.iload 4, 2) := by decide +kernel
theorem dX1_uncover_66 : decode (z_c zX1_uncover) 66 = .ok (.invokevirtual 109, 3) := by decide +kernel
theorem dX1_uncover_69 : decode (z_c zX1_uncover) 69 = .ok (.ifCond .ne 11, 3) := by decide +kernel
theorem dX1_uncover_72 : decode (z_c zX1_uncover) 72 = .ok (.aload_n 0, 1) := by decide +kernel
theorem dX1_uncover_73 : decode (z_c zX1_uncover) 73 = .ok (.iload 4, 2) := by decide +kernel
theorem dX1_uncover_75 : decode (z_c zX1_uncover) 75 = .ok (.iload_n 2, 1) := by decide +kernel
theorem dX1_uncover_76 : decode (z_c zX1_uncover) 76 = .ok (.invokevirtual 113, 3) := by decide +kernel
theorem dX1_uncover_79 : decode (z_c zX1_uncover) 79 = .ok (.istore_n 2, 1) := by decide +kernel
theorem dX1_uncover_80 : decode (z_c zX1_uncover) 80 = .ok (.iinc 3 1, 3) := by decide +kernel
theorem dX1_uncover_83 : decode (z_c zX1_uncover) 83 = .ok (.goto (-39), 3) := by decide +kernel
theorem dX1_uncover_86 : decode (z_c zX1_uncover) 86 = .ok (.return_, 1) := by decide +kernel
theorem dX1_showAround_0 : decode (z_c zX1_showAround) 0 = .ok (.iload_n 2, 1) := by decide +kernel
theorem dX1_showAround_1 : decode (z_c zX1_showAround) 1 = .ok (.istore_n 3, 1) := by decide +kernel
theorem dX1_showAround_2 : decode (z_c zX1_showAround) 2 = .ok (.iconst 0, 1) := by decide +kernel
theorem dX1_showAround_3 : decode (z_c zX1_showAround) 3 = .ok (.istore 4, 2) := by decide +kernel
theorem dX1_showAround_5 : decode (z_c zX1_showAround) 5 = .ok (.iload 4, 2) := by decide +kernel
theorem dX1_showAround_7 : decode (z_c zX1_showAround) 7 = .ok (.aload_n 0, 1) := by decide +kernel
theorem dX1_showAround_8 : decode (z_c zX1_showAround) 8 = .ok (.getfield 12, 3) := by decide +kernel
theorem dX1_showAround_11 : decode (z_c zX1_showAround) 11 = .ok (.getfield 117, 3) := by decide +kernel
theorem dX1_showAround_14 : decode (z_c zX1_showAround) 14 = .ok (.iload_n 1, 1) := by decide +kernel
theorem dX1_showAround_15 : decode (z_c zX1_showAround) 15 = .ok (.iaload, 1) := by decide +kernel
theorem dX1_showAround_16 : decode (z_c zX1_showAround) 16 = .ok (.if_icmp .ge 61, 3) := by decide +kernel
theorem dX1_showAround_19 : decode (z_c zX1_showAround) 19 = .ok (.aload_n 0, 1) := by decide +kernel
theorem dX1_showAround_20 : decode (z_c zX1_showAround) 20 = .ok (.getfield 12, 3) := by decide +kernel
theorem dX1_showAround_23 : decode (z_c zX1_showAround) 23 = .ok (.getfield 120, 3) := by decide +kernel
theorem dX1_showAround_26 : decode (z_c zX1_showAround) 26 = .ok (.iload_n 1, 1) := by decide +kernel
theorem dX1_showAround_27 : decode (z_c zX1_showAround) 27 = .ok (.bipush 8, 2) := by decide +kernel
theorem dX1_showAround_29 : decode (z_c zX1_showAround) 29 = .ok (.imul, 1) := by decide +kernel
theorem dX1_showAround_30 : decode (z_c zX1_showAround) 30 = .ok (.iload 4, 2) := by decide +kernel
theorem dX1_showAround_32 : decode (z_c zX1_showAround) 32 = .ok (.iadd, 1) := by decide +kernel
theorem dX1_showAround_33 : decode (z_c zX1_showAround) 33 = .ok (.iaload, 1) := by decide +kernel
theorem dX1_showAround_34 : decode (z_c zX1_showAround) 34 = .ok (.istore 5, 2) := by decide +kernel
theorem dX1_showAround_36 : decode (z_c zX1_showAround) 36 = .ok (.aload_n 0, 1) := by decide +kernel
theorem dX1_showAround_37 : decode (z_c zX1_showAround) 37 = .ok (.getfield 28, 3) := by decide +kernel
theorem dX1_showAround_40 : decode (z_c zX1_showAround) 40 = .ok (.iload 5, 2) := by decide +kernel
theorem dX1_showAround_42 : decode (z_c zX1_showAround) 42 = .ok (.invokevirtual 99, 3) := by decide +kernel
theorem dX1_showAround_45 : decode (z_c zX1_showAround) 45 = .ok (.ifCond .eq 26, 3) := by decide +kernel
theorem dX1_showAround_48 : decode (z_c zX1_showAround) 48 = .ok (.iload_n 3, 1) := by decide +kernel
theorem dX1_showAround_49 : decode (z_c zX1_showAround) 49 = .ok (.bipush 100, 2) := by decide +kernel
theorem dX1_showAround_51 : decode (z_c zX1_showAround) 51 = .ok (.if_icmp .ge 20, 3) := by decide +kernel
theorem dX1_showAround_54 : decode (z_c zX1_showAround) 54 = .ok (.aload_n 0, 1) := by decide +kernel
theorem dX1_showAround_55 : decode (z_c zX1_showAround) 55 = .ok (.iload 5, 2) := by decide +kernel
theorem dX1_showAround_57 : decode (z_c zX1_showAround) 57 = .ok (.invokevirtual 106, 3) := by decide +kernel
theorem dX1_showAround_60 : decode (z_c zX1_showAround) 60 = .ok (.aload_n 0, 1) := by decide +kernel
theorem dX1_showAround_61 : decode (z_c zX1_showAround) 61 = .ok (.getfield 43, 3) := by decide +kernel
theorem dX1_showAround_64 : decode (z_c zX1_showAround) 64 = .ok (.iload_n 3, 1) := by decide +kernel
theorem dX1_showAround_65 : decode (z_c zX1_showAround) 65 = .ok (.iload 5, 2) := by decide +kernel
theorem dX1_showAround_67 : decode (z_c zX1_showAround) 67 = .ok (.iastore, 1) := by decide +kernel
theorem dX1_showAround_68 : decode (z_c zX1_showAround) 68 = .ok (.iinc 3 1, 3) := by decide +kernel
theorem dX1_showAround_71 : decode (z_c zX1_showAround) 71 = .ok (.iinc 4 1, 3) := by decide +kernel
theorem dX1_showAround_74 : decode (z_c zX1_showAround) 74 = .ok (.goto (-69), 3) := by decide +kernel
theorem dX1_showAround_77 : decode (z_c zX1_showAround) 77 = .ok (.iload_n 3, 1) := by decide +kernel
theorem dX1_showAround_78 : decode (z_c zX1_showAround) 78 = .ok (.ireturn, 1) := by decide +kernel
theorem dX1_show_0 : decode (z_c zX1_show) 0 = .ok (.aload_n 0, 1) := by decide +kernel
theorem dX1_show_1 : decode (z_c zX1_show) 1 = .ok (.getfield 28, 3) := by decide +kernel
theorem dX1_show_4 : decode (z_c zX1_show) 4 = .ok (.iload_n 1, 1) := by decide +kernel
theorem dX1_show_5 : decode (z_c zX1_show) 5 = .ok (.invokevirtual 103, 3) := by decide +kernel
theorem dX1_show_8 : decode (z_c zX1_show) 8 = .ok (.aload_n 0, 1) := by decide +kernel
theorem dX1_show_9 : decode (z_c zX1_show) 9 = .ok (.getfield 37, 3) := by decide +kernel
theorem dX1_show_12 : decode (z_c zX1_show) 12 = .ok (.iload_n 1, 1) := by decide +kernel
theorem dX1_show_13 : decode (z_c zX1_show) 13 = .ok (.invokevirtual 103, 3) := by decide +kernel
theorem dX1_show_16 : decode (z_c zX1_show) 16 = .ok (.aload_n 0, 1) := by decide +kernel
theorem dX1_show_17 : decode (z_c zX1_show) 17 = .ok (.getfield 31, 3) := by decide +kernel
theorem dX1_show_20 : decode (z_c zX1_show) 20 = .ok (.iload_n 1, 1) := by decide +kernel
theorem dX1_show_21 : decode (z_c zX1_show) 21 = .ok (.invokevirtual 58, 3) := by decide +kernel
theorem dX1_show_24 : decode (z_c zX1_show) 24 = .ok (.return_, 1) := by decide +kernel
theorem dX1_uncoverAround_0 : decode (z_c zX1_uncoverAround) 0 = .ok (.iconst 0, 1) := by decide +kernel
theorem dX1_uncoverAround_1 : decode (z_c zX1_uncoverAround) 1 = .ok (.istore_n 2, 1) := by decide +kernel
theorem dX1_uncoverAround_2 : decode (z_c zX1_uncoverAround) 2 = .ok (.iload_n 2, 1) := by decide +kernel
theorem dX1_uncoverAround_3 : decode (z_c zX1_uncoverAround) 3 = .ok (.aload_n 0, 1) := by decide +kernel
theorem dX1_uncoverAround_4 : decode (z_c zX1_uncoverAround) 4 = .ok (.getfield 12, 3) := by decide +kernel
theorem dX1_uncoverAround_7 : decode (z_c zX1_uncoverAround) 7 = .ok (.getfield 117, 3) := by decide +kernel
theorem dX1_uncoverAround_10 : decode (z_c zX1_uncoverAround) 10 = .ok (.iload_n 1, 1) := by decide +kernel
theorem dX1_uncoverAround_11 : decode (z_c zX1_uncoverAround) 11 = .ok (.iaload, 1) := by decide +kernel
theorem dX1_uncoverAround_12 : decode (z_c zX1_uncoverAround) 12 = .ok (.if_icmp .ge 51, 3) := by decide +kernel
theorem dX1_uncoverAround_15 : decode (z_c zX1_uncoverAround) 15 = .ok (.aload_n 0, 1) := by decide +kernel
theorem dX1_uncoverAround_16 : decode (z_c zX1_uncoverAround) 16 = .ok (.getfield 12, 3) := by decide +kernel
theorem dX1_uncoverAround_19 : decode (z_c zX1_uncoverAround) 19 = .ok (.getfield 120, 3) := by decide +kernel
theorem dX1_uncoverAround_22 : decode (z_c zX1_uncoverAround) 22 = .ok (.iload_n 1, 1) := by decide +kernel
theorem dX1_uncoverAround_23 : decode (z_c zX1_uncoverAround) 23 = .ok (.bipush 8, 2) := by decide +kernel
theorem dX1_uncoverAround_25 : decode (z_c zX1_uncoverAround) 25 = .ok (.imul, 1) := by decide +kernel
theorem dX1_uncoverAround_26 : decode (z_c zX1_uncoverAround) 26 = .ok (.iload_n 2, 1) := by decide +kernel
theorem dX1_uncoverAround_27 : decode (z_c zX1_uncoverAround) 27 = .ok (.iadd, 1) := by decide +kernel
theorem dX1_uncoverAround_28 : decode (z_c zX1_uncoverAround) 28 = .ok (.iaload, 1) := by decide +kernel
theorem dX1_uncoverAround_29 : decode (z_c zX1_uncoverAround) 29 = .ok (.istore_n 3, 1) := by decide +kernel
theorem dX1_uncoverAround_30 : decode (z_c zX1_uncoverAround) 30 = .ok (.aload_n 0, 1) := by decide +kernel
theorem dX1_uncoverAround_31 : decode (z_c zX1_uncoverAround) 31 = .ok (.getfield 28, 3) := by decide +kernel
theorem dX1_uncoverAround_34 : decode (z_c zX1_uncoverAround) 34 = .ok (.iload_n 3, 1) := by decide +kernel
theorem dX1_uncoverAround_35 : decode (z_c zX1_uncoverAround) 35 = .ok (.invokevirtual 99, 3) := by decide +kernel
theorem dX1_uncoverAround_38 : decode (z_c zX1_uncoverAround) 38 = .ok (.ifCond .eq 19, 3) := by decide +kernel
theorem dX1_uncoverAround_41 : decode (z_c zX1_uncoverAround) 41 = .ok (.aload_n 0, 1) := by decide +kernel
theorem dX1_uncoverAround_42 : decode (z_c zX1_uncoverAround) 42 = .ok (.getfield 37, 3) := by decide +kernel
theorem dX1_uncoverAround_45 : decode (z_c zX1_uncoverAround) 45 = .ok (.iload_n 3, 1) := by decide +kernel
theorem dX1_uncoverAround_46 : decode (z_c zX1_uncoverAround) 46 = .ok (.invokevirtual 99, 3) := by decide +kernel
theorem dX1_uncoverAround_49 : decode (z_c zX1_uncoverAround) 49 = .ok (.ifCond .ne 8, 3) := by decide +kernel
theorem dX1_uncoverAround_52 : decode (z_c zX1_uncoverAround) 52 = .ok (.aload_n 0, 1) := by decide +kernel
theorem dX1_uncoverAround_53 : decode (z_c zX1_uncoverAround) 53 = .ok (.iload_n 3, 1) := by decide +kernel
theorem dX1_uncoverAround_54 : decode (z_c zX1_uncoverAround) 54 = .ok (.invokevirtual 123, 3) := by decide +kernel
theorem dX1_uncoverAround_57 : decode (z_c zX1_uncoverAround) 57 = .ok (.iinc 2 1, 3) := by decide +kernel
theorem dX1_uncoverAround_60 : decode (z_c zX1_uncoverAround) 60 = .ok (.goto (-58), 3) := by decide +kernel
theorem dX1_uncoverAround_63 : decode (z_c zX1_uncoverAround) 63 = .ok (.return_, 1) := by decide +kernel
theorem dX1_leastOpenings_0 : decode (z_c zX1_leastOpenings) 0 = .ok (.aload_n 0, 1) := by decide +kernel
theorem dX1_leastOpenings_1 : decode (z_c zX1_leastOpenings) 1 = .ok (.getfield 40, 3) := by decide +kernel
theorem dX1_leastOpenings_4 : decode (z_c zX1_leastOpenings) 4 = .ok (.invokevirtual 51, 3) := by decide +kernel
theorem dX1_leastOpenings_7 : decode (z_c zX1_leastOpenings) 7 = .ok (.iconst 0, 1) := by decide +kernel
theorem dX1_leastOpenings_8 : decode (z_c zX1_leastOpenings) 8 = .ok (.istore_n 1, 1) := by decide +kernel
theorem dX1_leastOpenings_9 : decode (z_c zX1_leastOpenings) 9 = .ok (.iconst 0, 1) := by decide +kernel
theorem dX1_leastOpenings_10 : decode (z_c zX1_leastOpenings) 10 = .ok (.istore_n 2, 1) := by decide +kernel
theorem dX1_leastOpenings_11 : decode (z_c zX1_leastOpenings) 11 = .ok (.iload_n 2, 1) := by decide +kernel
theorem dX1_leastOpenings_12 : decode (z_c zX1_leastOpenings) 12 = .ok (.aload_n 0, 1) := by decide +kernel
theorem dX1_leastOpenings_13 : decode (z_c zX1_leastOpenings) 13 = .ok (.getfield 12, 3) := by decide +kernel
theorem dX1_leastOpenings_16 : decode (z_c zX1_leastOpenings) 16 = .ok (.getfield 54, 3) := by decide +kernel
theorem dX1_leastOpenings_19 : decode (z_c zX1_leastOpenings) 19 = .ok (.if_icmp .ge 36, 3) := by decide +kernel
theorem dX1_leastOpenings_22 : decode (z_c zX1_leastOpenings) 22 = .ok (.aload_n 0, 1) := by decide +kernel
theorem dX1_leastOpenings_23 : decode (z_c zX1_leastOpenings) 23 = .ok (.iload_n 2, 1) := by decide +kernel
theorem dX1_leastOpenings_24 : decode (z_c zX1_leastOpenings) 24 = .ok (.invokevirtual 126, 3) := by decide +kernel
theorem dX1_leastOpenings_27 : decode (z_c zX1_leastOpenings) 27 = .ok (.ifCond .eq 22, 3) := by decide +kernel
theorem dX1_leastOpenings_30 : decode (z_c zX1_leastOpenings) 30 = .ok (.aload_n 0, 1) := by decide +kernel
theorem dX1_leastOpenings_31 : decode (z_c zX1_leastOpenings) 31 = .ok (.getfield 40, 3) := by decide +kernel
theorem dX1_leastOpenings_34 : decode (z_c zX1_leastOpenings) 34 = .ok (.iload_n 2, 1) := by decide +kernel
theorem dX1_leastOpenings_35 : decode (z_c zX1_leastOpenings) 35 = .ok (.invokevirtual 99, 3) := by decide +kernel
theorem dX1_leastOpenings_38 : decode (z_c zX1_leastOpenings) 38 = .ok (.ifCond .ne 11, 3) := by decide +kernel
theorem dX1_leastOpenings_41 : decode (z_c zX1_leastOpenings) 41 = .ok (.iinc 1 1, 3) := by decide +kernel
theorem dX1_leastOpenings_44 : decode (z_c zX1_leastOpenings) 44 = .ok (.aload_n 0, 1) := by decide +kernel
theorem dX1_leastOpenings_45 : decode (z_c zX1_leastOpenings) 45 = .ok (.iload_n 2, 1) := by decide +kernel
theorem dX1_leastOpenings_46 : decode (z_c zX1_leastOpenings) 46 = .ok (.invokevirtual 129, 3) := by decide +kernel
theorem dX1_leastOpenings_49 : decode (z_c zX1_leastOpenings) 49 = .ok (.iinc 2 1, 3) := by decide +kernel
theorem dX1_leastOpenings_52 : decode (z_c zX1_leastOpenings) 52 = .ok (.goto (-41), 3) := by decide +kernel
theorem dX1_leastOpenings_55 : decode (z_c zX1_leastOpenings) 55 = .ok (.iconst 0, 1) := by decide +kernel
theorem dX1_leastOpenings_56 : decode (z_c zX1_leastOpenings) 56 = .ok (.istore_n 2, 1) := by decide +kernel
theorem dX1_leastOpenings_57 : decode (z_c zX1_leastOpenings) 57 = .ok (.iload_n 2, 1) := by decide +kernel
theorem dX1_leastOpenings_58 : decode (z_c zX1_leastOpenings) 58 = .ok (.aload_n 0, 1) := by decide +kernel
theorem dX1_leastOpenings_59 : decode (z_c zX1_leastOpenings) 59 = .ok (.getfield 12, 3) := by decide +kernel
theorem dX1_leastOpenings_62 : decode (z_c zX1_leastOpenings) 62 = .ok (.getfield 54, 3) := by decide +kernel
theorem dX1_leastOpenings_65 : decode (z_c zX1_leastOpenings) 65 = .ok (.if_icmp .ge 70, 3) := by decide +kernel
theorem dX1_leastOpenings_68 : decode (z_c zX1_leastOpenings) 68 = .ok (.aload_n 0, 1) := by decide +kernel
theorem dX1_leastOpenings_69 : decode (z_c zX1_leastOpenings) 69 = .ok (.getfield 40, 3) := by decide +kernel
theorem dX1_leastOpenings_72 : decode (z_c zX1_leastOpenings) 72 = .ok (.iload_n 2, 1) := by decide +kernel
theorem dX1_leastOpenings_73 : decode (z_c zX1_leastOpenings) 73 = .ok (.invokevirtual 99, 3) := by decide +kernel
theorem dX1_leastOpenings_76 : decode (z_c zX1_leastOpenings) 76 = .ok (.ifCond .ne 18, 3) := by decide +kernel
theorem dX1_leastOpenings_79 : decode (z_c zX1_leastOpenings) 79 = .ok (.aload_n 0, 1) := by decide +kernel
theorem dX1_leastOpenings_80 : decode (z_c zX1_leastOpenings) 80 = .ok (.getfield 12, 3) := by decide +kernel
theorem dX1_leastOpenings_83 : decode (z_c zX1_leastOpenings) 83 = .ok (.iload_n 2, 1) := by decide +kernel
theorem dX1_leastOpenings_84 : decode (z_c zX1_leastOpenings) 84 = .ok (.aload_n 0, 1) := by decide +kernel
theorem dX1_leastOpenings_85 : decode (z_c zX1_leastOpenings) 85 = .ok (.getfield 40, 3) := by decide +kernel
theorem dX1_leastOpenings_88 : decode (z_c zX1_leastOpenings) 88 = .ok (.invokevirtual 132, 3) := by decide +kernel
theorem dX1_leastOpenings_91 : decode (z_c zX1_leastOpenings) 91 = .ok (.ifCond .eq 7, 3) := by decide +kernel
theorem dX1_leastOpenings_94 : decode (z_c zX1_leastOpenings) 94 = .ok (.iconst 1, 1) := by decide +kernel
theorem dX1_leastOpenings_95 : decode (z_c zX1_leastOpenings) 95 = .ok (.goto 4, 3) := by decide +kernel
theorem dX1_leastOpenings_98 : decode (z_c zX1_leastOpenings) 98 = .ok (.iconst 0, 1) := by decide +kernel
theorem dX1_leastOpenings_99 : decode (z_c zX1_leastOpenings) 99 = .ok (.istore_n 3, 1) := by decide +kernel
theorem dX1_leastOpenings_100 : decode (z_c zX1_leastOpenings) 100 = .ok (.aload_n 0, 1) := by decide +kernel
theorem dX1_leastOpenings_101 : decode (z_c zX1_leastOpenings) 101 = .ok (.getfield 28, 3) := by decide +kernel
theorem dX1_leastOpenings_104 : decode (z_c zX1_leastOpenings) 104 = .ok (.iload_n 2, 1) := by decide +kernel
theorem dX1_leastOpenings_105 : decode (z_c zX1_leastOpenings) 105 = .ok (.invokevirtual 99, 3) := by decide +kernel
theorem dX1_leastOpenings_108 : decode (z_c zX1_leastOpenings) 108 = .ok (.ifCond .eq 21, 3) := by decide +kernel
theorem dX1_leastOpenings_111 : decode (z_c zX1_leastOpenings) 111 = .ok (.aload_n 0, 1) := by decide +kernel
theorem dX1_leastOpenings_112 : decode (z_c zX1_leastOpenings) 112 = .ok (.getfield 25, 3) := by decide +kernel
theorem dX1_leastOpenings_115 : decode (z_c zX1_leastOpenings) 115 = .ok (.iload_n 2, 1) := by decide +kernel
theorem dX1_leastOpenings_116 : decode (z_c zX1_leastOpenings) 116 = .ok (.invokevirtual 99, 3) := by decide +kernel
theorem dX1_leastOpenings_119 : decode (z_c zX1_leastOpenings) 119 = .ok (.ifCond .ne 10, 3) := by decide +kernel
theorem dX1_leastOpenings_122 : decode (z_c zX1_leastOpenings) 122 = .ok (.iload_n 3, 1) := by decide +kernel
theorem dX1_leastOpenings_123 : decode (z_c zX1_leastOpenings) 123 = .ok (.ifCond .ne 6, 3) := by decide +kernel
theorem dX1_leastOpenings_126 : decode (z_c zX1_leastOpenings) 126 = .ok (.iinc 1 1, 3) := by decide +kernel
theorem dX1_leastOpenings_129 : decode (z_c zX1_leastOpenings) 129 = .ok (.iinc 2 1, 3) := by decide +kernel
theorem dX1_leastOpenings_132 : decode (z_c zX1_leastOpenings) 132 = .ok (.goto (-75), 3) := by decide +kernel
theorem dX1_leastOpenings_135 : decode (z_c zX1_leastOpenings) 135 = .ok (.iload_n 1, 1) := by decide +kernel
theorem dX1_leastOpenings_136 : decode (z_c zX1_leastOpenings) 136 = .ok (.ireturn, 1) := by decide +kernel
theorem dX1_isQuiet_0 : decode (z_c zX1_isQuiet) 0 = .ok (.aload_n 0, 1) := by decide +kernel
theorem dX1_isQuiet_1 : decode (z_c zX1_isQuiet) 1 = .ok (.getfield 28, 3) := by decide +kernel
theorem dX1_isQuiet_4 : decode (z_c zX1_isQuiet) 4 = .ok (.iload_n 1, 1) := by decide +kernel
theorem dX1_isQuiet_5 : decode (z_c zX1_isQuiet) 5 = .ok (.invokevirtual 99, 3) := by decide +kernel
theorem dX1_isQuiet_8 : decode (z_c zX1_isQuiet) 8 = .ok (.ifCond .eq 33, 3) := by decide +kernel
theorem dX1_isQuiet_11 : decode (z_c zX1_isQuiet) 11 = .ok (.aload_n 0, 1) := by decide +kernel
theorem dX1_isQuiet_12 : decode (z_c zX1_isQuiet) 12 = .ok (.getfield 25, 3) := by decide +kernel
theorem dX1_isQuiet_15 : decode (z_c zX1_isQuiet) 15 = .ok (.iload_n 1, 1) := by decide +kernel
theorem dX1_isQuiet_16 : decode (z_c zX1_isQuiet) 16 = .ok (.invokevirtual 99, 3) := by decide +kernel
theorem dX1_isQuiet_19 : decode (z_c zX1_isQuiet) 19 = .ok (.ifCond .ne 22, 3) := by decide +kernel
theorem dX1_isQuiet_22 : decode (z_c zX1_isQuiet) 22 = .ok (.aload_n 0, 1) := by decide +kernel
theorem dX1_isQuiet_23 : decode (z_c zX1_isQuiet) 23 = .ok (.getfield 12, 3) := by decide +kernel
theorem dX1_isQuiet_26 : decode (z_c zX1_isQuiet) 26 = .ok (.iload_n 1, 1) := by decide +kernel
theorem dX1_isQuiet_27 : decode (z_c zX1_isQuiet) 27 = .ok (.aload_n 0, 1) := by decide +kernel
theorem dX1_isQuiet_28 : decode (z_c zX1_isQuiet) 28 = .ok (.getfield 25, 3) := by decide +kernel
theorem dX1_isQuiet_31 : decode (z_c zX1_isQuiet) 31 = .ok (.invokevirtual 132, 3) := by decide +kernel
theorem dX1_isQuiet_34 : decode (z_c zX1_isQuiet) 34 = .ok (.ifCond .ne 7, 3) := by decide +kernel
theorem dX1_isQuiet_37 : decode (z_c zX1_isQuiet) 37 = .ok (.iconst 1, 1) := by decide +kernel
theorem dX1_isQuiet_38 : decode (z_c zX1_isQuiet) 38 = .ok (.goto 4, 3) := by decide +kernel
theorem dX1_isQuiet_41 : decode (z_c zX1_isQuiet) 41 = .ok (.iconst 0, 1) := by decide +kernel
theorem dX1_isQuiet_42 : decode (z_c zX1_isQuiet) 42 = .ok (.ireturn, 1) := by decide +kernel
theorem dX1_heapUp_0 : decode (z_c zX1_heapUp) 0 = .ok (.aload_n 0, 1) := by decide +kernel
theorem dX1_heapUp_1 : decode (z_c zX1_heapUp) 1 = .ok (.getfield 40, 3) := by decide +kernel
theorem dX1_heapUp_4 : decode (z_c zX1_heapUp) 4 = .ok (.iload_n 1, 1) := by decide +kernel
theorem dX1_heapUp_5 : decode (z_c zX1_heapUp) 5 = .ok (.invokevirtual 58, 3) := by decide +kernel
theorem dX1_heapUp_8 : decode (z_c zX1_heapUp) 8 = .ok (.aload_n 0, 1) := by decide +kernel
theorem dX1_heapUp_9 : decode (z_c zX1_heapUp) 9 = .ok (.getfield 43, 3) := by decide +kernel
theorem dX1_heapUp_12 : decode (z_c zX1_heapUp) 12 = .ok (.iconst 0, 1) := by decide +kernel
theorem dX1_heapUp_13 : decode (z_c zX1_heapUp) 13 = .ok (.iload_n 1, 1) := by decide +kernel
theorem dX1_heapUp_14 : decode (z_c zX1_heapUp) 14 = .ok (.iastore, 1) := by decide +kernel
theorem dX1_heapUp_15 : decode (z_c zX1_heapUp) 15 = .ok (.iconst 1, 1) := by decide +kernel
theorem dX1_heapUp_16 : decode (z_c zX1_heapUp) 16 = .ok (.istore_n 2, 1) := by decide +kernel
theorem dX1_heapUp_17 : decode (z_c zX1_heapUp) 17 = .ok (.iconst 0, 1) := by decide +kernel
theorem dX1_heapUp_18 : decode (z_c zX1_heapUp) 18 = .ok (.istore_n 3, 1) := by decide +kernel
theorem dX1_heapUp_19 : decode (z_c zX1_heapUp) 19 = .ok (.iload_n 3, 1) := by decide +kernel
theorem dX1_heapUp_20 : decode (z_c zX1_heapUp) 20 = .ok (.iload_n 2, 1) := by decide +kernel
theorem dX1_heapUp_21 : decode (z_c zX1_heapUp) 21 = .ok (.if_icmp .ge 112, 3) := by decide +kernel
theorem dX1_heapUp_24 : decode (z_c zX1_heapUp) 24 = .ok (.iload_n 3, 1) := by decide +kernel
theorem dX1_heapUp_25 : decode (z_c zX1_heapUp) 25 = .ok (.bipush 100, 2) := by decide +kernel
theorem dX1_heapUp_27 : decode (z_c zX1_heapUp) 27 = .ok (.if_icmp .ge 106, 3) := by decide +kernel
theorem dX1_heapUp_30 : decode (z_c zX1_heapUp) 30 = .ok (.aload_n 0, 1) := by decide +kernel
theorem dX1_heapUp_31 : decode (z_c zX1_heapUp) 31 = .ok (.getfield 43, 3) := by decide +kernel
theorem dX1_heapUp_34 : decode (z_c zX1_heapUp) 34 = .ok (.iload_n 3, 1) := by decide +kernel
theorem dX1_heapUp_35 : decode (z_c zX1_heapUp) 35 = .ok (.iaload, 1) := by decide +kernel
theorem dX1_heapUp_36 : decode (z_c zX1_heapUp) 36 = .ok (.istore 4, 2) := by decide +kernel
theorem dX1_heapUp_38 : decode (z_c zX1_heapUp) 38 = .ok (.iconst 0, 1) := by decide +kernel
theorem dX1_heapUp_39 : decode (z_c zX1_heapUp) 39 = .ok (.istore 5, 2) := by decide +kernel
theorem dX1_heapUp_41 : decode (z_c zX1_heapUp) 41 = .ok (.iload 5, 2) := by decide +kernel
theorem dX1_heapUp_43 : decode (z_c zX1_heapUp) 43 = .ok (.aload_n 0, 1) := by decide +kernel
theorem dX1_heapUp_44 : decode (z_c zX1_heapUp) 44 = .ok (.getfield 12, 3) := by decide +kernel
theorem dX1_heapUp_47 : decode (z_c zX1_heapUp) 47 = .ok (.getfield 117, 3) := by decide +kernel
theorem dX1_heapUp_50 : decode (z_c zX1_heapUp) 50 = .ok (.iload 4, 2) := by decide +kernel
theorem dX1_heapUp_52 : decode (z_c zX1_heapUp) 52 = .ok (.iaload, 1) := by decide +kernel
theorem dX1_heapUp_53 : decode (z_c zX1_heapUp) 53 = .ok (.if_icmp .ge 74, 3) := by decide +kernel
theorem dX1_heapUp_56 : decode (z_c zX1_heapUp) 56 = .ok (.aload_n 0, 1) := by decide +kernel
theorem dX1_heapUp_57 : decode (z_c zX1_heapUp) 57 = .ok (.getfield 12, 3) := by decide +kernel
theorem dX1_heapUp_60 : decode (z_c zX1_heapUp) 60 = .ok (.getfield 120, 3) := by decide +kernel
theorem dX1_heapUp_63 : decode (z_c zX1_heapUp) 63 = .ok (.iload 4, 2) := by decide +kernel
theorem dX1_heapUp_65 : decode (z_c zX1_heapUp) 65 = .ok (.bipush 8, 2) := by decide +kernel
theorem dX1_heapUp_67 : decode (z_c zX1_heapUp) 67 = .ok (.imul, 1) := by decide +kernel
theorem dX1_heapUp_68 : decode (z_c zX1_heapUp) 68 = .ok (.iload 5, 2) := by decide +kernel
theorem dX1_heapUp_70 : decode (z_c zX1_heapUp) 70 = .ok (.iadd, 1) := by decide +kernel
theorem dX1_heapUp_71 : decode (z_c zX1_heapUp) 71 = .ok (.iaload, 1) := by decide +kernel
theorem dX1_heapUp_72 : decode (z_c zX1_heapUp) 72 = .ok (.istore 6, 2) := by decide +kernel
theorem dX1_heapUp_74 : decode (z_c zX1_heapUp) 74 = .ok (.aload_n 0, 1) := by decide +kernel
theorem dX1_heapUp_75 : decode (z_c zX1_heapUp) 75 = .ok (.iload 6, 2) := by decide +kernel
theorem dX1_heapUp_77 : decode (z_c zX1_heapUp) 77 = .ok (.invokevirtual 126, 3) := by decide +kernel
theorem dX1_heapUp_80 : decode (z_c zX1_heapUp) 80 = .ok (.ifCond .eq 41, 3) := by decide +kernel
theorem dX1_heapUp_83 : decode (z_c zX1_heapUp) 83 = .ok (.aload_n 0, 1) := by decide +kernel
theorem dX1_heapUp_84 : decode (z_c zX1_heapUp) 84 = .ok (.getfield 40, 3) := by decide +kernel
theorem dX1_heapUp_87 : decode (z_c zX1_heapUp) 87 = .ok (.iload 6, 2) := by decide +kernel
theorem dX1_heapUp_89 : decode (z_c zX1_heapUp) 89 = .ok (.invokevirtual 99, 3) := by decide +kernel
theorem dX1_heapUp_92 : decode (z_c zX1_heapUp) 92 = .ok (.ifCond .ne 29, 3) := by decide +kernel
theorem dX1_heapUp_95 : decode (z_c zX1_heapUp) 95 = .ok (.iload_n 2, 1) := by decide +kernel
theorem dX1_heapUp_96 : decode (z_c zX1_heapUp) 96 = .ok (.bipush 100, 2) := by decide +kernel
theorem dX1_heapUp_98 : decode (z_c zX1_heapUp) 98 = .ok (.if_icmp .ge 23, 3) := by decide +kernel
theorem dX1_heapUp_101 : decode (z_c zX1_heapUp) 101 = .ok (.aload_n 0, 1) := by decide +kernel
theorem dX1_heapUp_102 : decode (z_c zX1_heapUp) 102 = .ok (.getfield 40, 3) := by decide +kernel
theorem dX1_heapUp_105 : decode (z_c zX1_heapUp) 105 = .ok (.iload 6, 2) := by decide +kernel
theorem dX1_heapUp_107 : decode (z_c zX1_heapUp) 107 = .ok (.invokevirtual 58, 3) := by decide +kernel
theorem dX1_heapUp_110 : decode (z_c zX1_heapUp) 110 = .ok (.aload_n 0, 1) := by decide +kernel
theorem dX1_heapUp_111 : decode (z_c zX1_heapUp) 111 = .ok (.getfield 43, 3) := by decide +kernel
theorem dX1_heapUp_114 : decode (z_c zX1_heapUp) 114 = .ok (.iload_n 2, 1) := by decide +kernel
theorem dX1_heapUp_115 : decode (z_c zX1_heapUp) 115 = .ok (.iload 6, 2) := by decide +kernel
theorem dX1_heapUp_117 : decode (z_c zX1_heapUp) 117 = .ok (.iastore, 1) := by decide +kernel
theorem dX1_heapUp_118 : decode (z_c zX1_heapUp) 118 = .ok (.iinc 2 1, 3) := by decide +kernel
theorem dX1_heapUp_121 : decode (z_c zX1_heapUp) 121 = .ok (.iinc 5 1, 3) := by decide +kernel
theorem dX1_heapUp_124 : decode (z_c zX1_heapUp) 124 = .ok (.goto (-83), 3) := by decide +kernel
theorem dX1_heapUp_127 : decode (z_c zX1_heapUp) 127 = .ok (.iinc 3 1, 3) := by decide +kernel
theorem dX1_heapUp_130 : decode (z_c zX1_heapUp) 130 = .ok (.goto (-111), 3) := by decide +kernel
theorem dX1_heapUp_133 : decode (z_c zX1_heapUp) 133 = .ok (.return_, 1) := by decide +kernel
theorem dX2_fits_0 : decode (z_c zX2_fits) 0 = .ok (.iload_n 0, 1) := by decide +kernel
theorem dX2_fits_1 : decode (z_c zX2_fits) 1 = .ok (.iconst 1, 1) := by decide +kernel
theorem dX2_fits_2 : decode (z_c zX2_fits) 2 = .ok (.if_icmp .lt 24, 3) := by decide +kernel
theorem dX2_fits_5 : decode (z_c zX2_fits) 5 = .ok (.iload_n 0, 1) := by decide +kernel
theorem dX2_fits_6 : decode (z_c zX2_fits) 6 = .ok (.bipush 10, 2) := by decide +kernel
theorem dX2_fits_8 : decode (z_c zX2_fits) 8 = .ok (.if_icmp .gt 18, 3) := by decide +kernel
theorem dX2_fits_11 : decode (z_c zX2_fits) 11 = .ok (.iload_n 1, 1) := by decide +kernel
theorem dX2_fits_12 : decode (z_c zX2_fits) 12 = .ok (.iconst 1, 1) := by decide +kernel
theorem dX2_fits_13 : decode (z_c zX2_fits) 13 = .ok (.if_icmp .lt 13, 3) := by decide +kernel
theorem dX2_fits_16 : decode (z_c zX2_fits) 16 = .ok (.iload_n 1, 1) := by decide +kernel
theorem dX2_fits_17 : decode (z_c zX2_fits) 17 = .ok (.bipush 10, 2) := by decide +kernel
theorem dX2_fits_19 : decode (z_c zX2_fits) 19 = .ok (.if_icmp .gt 7, 3) := by decide +kernel
theorem dX2_fits_22 : decode (z_c zX2_fits) 22 = .ok (.iconst 1, 1) := by decide +kernel
theorem dX2_fits_23 : decode (z_c zX2_fits) 23 = .ok (.goto 4, 3) := by decide +kernel
theorem dX2_fits_26 : decode (z_c zX2_fits) 26 = .ok (.iconst 0, 1) := by decide +kernel
theorem dX2_fits_27 : decode (z_c zX2_fits) 27 = .ok (.istore_n 3, 1) := by decide +kernel
theorem dX2_fits_28 : decode (z_c zX2_fits) 28 = .ok (.iload_n 3, 1) := by decide +kernel
theorem dX2_fits_29 : decode (z_c zX2_fits) 29 = .ok (.ifCond .eq 27, 3) := by decide +kernel
theorem dX2_fits_32 : decode (z_c zX2_fits) 32 = .ok (.iload_n 2, 1) := by decide +kernel
theorem dX2_fits_33 : decode (z_c zX2_fits) 33 = .ok (.ifCond .lt 23, 3) := by decide +kernel
theorem dX2_fits_36 : decode (z_c zX2_fits) 36 = .ok (.iload_n 2, 1) := by decide +kernel
theorem dX2_fits_37 : decode (z_c zX2_fits) 37 = .ok (.iconst 3, 1) := by decide +kernel
theorem dX2_fits_38 : decode (z_c zX2_fits) 38 = .ok (.if_icmp .gt 18, 3) := by decide +kernel
theorem dX2_fits_41 : decode (z_c zX2_fits) 41 = .ok (.iload_n 2, 1) := by decide +kernel
theorem dX2_fits_42 : decode (z_c zX2_fits) 42 = .ok (.iconst 3, 1) := by decide +kernel
theorem dX2_fits_43 : decode (z_c zX2_fits) 43 = .ok (.if_icmp .ne 9, 3) := by decide +kernel
theorem dX2_fits_46 : decode (z_c zX2_fits) 46 = .ok (.iload_n 1, 1) := by decide +kernel
theorem dX2_fits_47 : decode (z_c zX2_fits) 47 = .ok (.iconst 1, 1) := by decide +kernel
theorem dX2_fits_48 : decode (z_c zX2_fits) 48 = .ok (.iand, 1) := by decide +kernel
theorem dX2_fits_49 : decode (z_c zX2_fits) 49 = .ok (.ifCond .ne 7, 3) := by decide +kernel
theorem dX2_fits_52 : decode (z_c zX2_fits) 52 = .ok (.iconst 1, 1) := by decide +kernel
theorem dX2_fits_53 : decode (z_c zX2_fits) 53 = .ok (.goto 4, 3) := by decide +kernel
theorem dX2_fits_56 : decode (z_c zX2_fits) 56 = .ok (.iconst 0, 1) := by decide +kernel
theorem dX2_fits_57 : decode (z_c zX2_fits) 57 = .ok (.ireturn, 1) := by decide +kernel
theorem dX2_holds_0 : decode (z_c zX2_holds) 0 = .ok (.iload_n 1, 1) := by decide +kernel
theorem dX2_holds_1 : decode (z_c zX2_holds) 1 = .ok (.ifCond .lt 15, 3) := by decide +kernel
theorem dX2_holds_4 : decode (z_c zX2_holds) 4 = .ok (.iload_n 1, 1) := by decide +kernel
theorem dX2_holds_5 : decode (z_c zX2_holds) 5 = .ok (.aload_n 0, 1) := by decide +kernel
theorem dX2_holds_6 : decode (z_c zX2_holds) 6 = .ok (.getfield 25, 3) := by decide +kernel
theorem dX2_holds_9 : decode (z_c zX2_holds) 9 = .ok (.if_icmp .ge 7, 3) := by decide +kernel
theorem dX2_holds_12 : decode (z_c zX2_holds) 12 = .ok (.iconst 1, 1) := by decide +kernel
theorem dX2_holds_13 : decode (z_c zX2_holds) 13 = .ok (.goto 4, 3) := by decide +kernel
theorem dX2_holds_16 : decode (z_c zX2_holds) 16 = .ok (.iconst 0, 1) := by decide +kernel
theorem dX2_holds_17 : decode (z_c zX2_holds) 17 = .ok (.ireturn, 1) := by decide +kernel
theorem dX2_lay_0 : decode (z_c zX2_lay) 0 = .ok (.aload_n 0, 1) := by decide +kernel
theorem dX2_lay_1 : decode (z_c zX2_lay) 1 = .ok (.iload_n 1, 1) := by decide +kernel
theorem dX2_lay_2 : decode (z_c zX2_lay) 2 = .ok (.putfield 29, 3) := by decide +kernel
theorem dX2_lay_5 : decode (z_c zX2_lay) 5 = .ok (.aload_n 0, 1) := by decide +kernel
theorem dX2_lay_6 : decode (z_c zX2_lay) 6 = .ok (.iload_n 2, 1) := by decide +kernel
theorem dX2_lay_7 : decode (z_c zX2_lay) 7 = .ok (.putfield 32, 3) := by decide +kernel
theorem dX2_lay_10 : decode (z_c zX2_lay) 10 = .ok (.aload_n 0, 1) := by decide +kernel
theorem dX2_lay_11 : decode (z_c zX2_lay) 11 = .ok (.iload_n 3, 1) := by decide +kernel
theorem dX2_lay_12 : decode (z_c zX2_lay) 12 = .ok (.putfield 35, 3) := by decide +kernel
theorem dX2_lay_15 : decode (z_c zX2_lay) 15 = .ok (.aload_n 0, 1) := by decide +kernel
theorem dX2_lay_16 : decode (z_c zX2_lay) 16 = .ok (.iload_n 1, 1) := by decide +kernel
theorem dX2_lay_17 : decode (z_c zX2_lay) 17 = .ok (.iload_n 2, 1) := by decide +kernel
theorem dX2_lay_18 : decode (z_c zX2_lay) 18 = .ok (.imul, 1) := by decide +kernel
theorem dX2_lay_19 : decode (z_c zX2_lay) 19 = .ok (.putfield 25, 3) := by decide +kernel
theorem dX2_lay_22 : decode (z_c zX2_lay) 22 = .ok (.iconst 0, 1) := by decide +kernel
theorem dX2_lay_23 : decode (z_c zX2_lay) 23 = .ok (.istore 4, 2) := by decide +kernel
theorem dX2_lay_25 : decode (z_c zX2_lay) 25 = .ok (.iload 4, 2) := by decide +kernel
theorem dX2_lay_27 : decode (z_c zX2_lay) 27 = .ok (.aload_n 0, 1) := by decide +kernel
theorem dX2_lay_28 : decode (z_c zX2_lay) 28 = .ok (.getfield 32, 3) := by decide +kernel
theorem dX2_lay_31 : decode (z_c zX2_lay) 31 = .ok (.if_icmp .ge 35, 3) := by decide +kernel
theorem dX2_lay_34 : decode (z_c zX2_lay) 34 = .ok (.iconst 0, 1) := by decide +kernel
theorem dX2_lay_35 : decode (z_c zX2_lay) 35 = .ok (.istore 5, 2) := by decide +kernel
theorem dX2_lay_37 : decode (z_c zX2_lay) 37 = .ok (.iload 5, 2) := by decide +kernel
theorem dX2_lay_39 : decode (z_c zX2_lay) 39 = .ok (.aload_n 0, 1) := by decide +kernel
theorem dX2_lay_40 : decode (z_c zX2_lay) 40 = .ok (.getfield 29, 3) := by decide +kernel
theorem dX2_lay_43 : decode (z_c zX2_lay) 43 = .ok (.if_icmp .ge 17, 3) := by decide +kernel
theorem dX2_lay_46 : decode (z_c zX2_lay) 46 = .ok (.aload_n 0, 1) := by decide +kernel
theorem dX2_lay_47 : decode (z_c zX2_lay) 47 = .ok (.iload 4, 2) := by decide +kernel
theorem dX2_lay_49 : decode (z_c zX2_lay) 49 = .ok (.iload 5, 2) := by decide +kernel
theorem dX2_lay_51 : decode (z_c zX2_lay) 51 = .ok (.invokevirtual 38, 3) := by decide +kernel
theorem dX2_lay_54 : decode (z_c zX2_lay) 54 = .ok (.iinc 5 1, 3) := by decide +kernel
theorem dX2_lay_57 : decode (z_c zX2_lay) 57 = .ok (.goto (-20), 3) := by decide +kernel
theorem dX2_lay_60 : decode (z_c zX2_lay) 60 = .ok (.iinc 4 1, 3) := by decide +kernel
theorem dX2_lay_63 : decode (z_c zX2_lay) 63 = .ok (.goto (-38), 3) := by decide +kernel
theorem dX2_lay_66 : decode (z_c zX2_lay) 66 = .ok (.return_, 1) := by decide +kernel
theorem dX2_layCell_0 : decode (z_c zX2_layCell) 0 = .ok (.iload_n 1, 1) := by decide +kernel
theorem dX2_layCell_1 : decode (z_c zX2_layCell) 1 = .ok (.aload_n 0, 1) := by decide +kernel
theorem dX2_layCell_2 : decode (z_c zX2_layCell) 2 = .ok (.getfield 29, 3) := by decide +kernel
theorem dX2_layCell_5 : decode (z_c zX2_layCell) 5 = .ok (.imul, 1) := by decide +kernel
theorem dX2_layCell_6 : decode (z_c zX2_layCell) 6 = .ok (.iload_n 2, 1) := by decide +kernel
theorem dX2_layCell_7 : decode (z_c zX2_layCell) 7 = .ok (.iadd, 1) := by decide +kernel
theorem dX2_layCell_8 : decode (z_c zX2_layCell) 8 = .ok (.istore_n 3, 1) := by decide +kernel
theorem dX2_layCell_9 : decode (z_c zX2_layCell) 9 = .ok (.aload_n 0, 1) := by decide +kernel
theorem dX2_layCell_10 : decode (z_c zX2_layCell) 10 = .ok (.getfield 9, 3) := by decide +kernel
theorem dX2_layCell_13 : decode (z_c zX2_layCell) 13 = .ok (.iload_n 3, 1) := by decide +kernel
theorem dX2_layCell_14 : decode (z_c zX2_layCell) 14 = .ok (.lconst 0, 1) := by decide +kernel
theorem dX2_layCell_15 : decode (z_c zX2_layCell) 15 = .ok (.lastore, 1) := by decide +kernel
theorem dX2_layCell_16 : decode (z_c zX2_layCell) 16 = .ok (.aload_n 0, 1) := by decide +kernel
theorem dX2_layCell_17 : decode (z_c zX2_layCell) 17 = .ok (.getfield 15, 3) := by decide +kernel
theorem dX2_layCell_20 : decode (z_c zX2_layCell) 20 = .ok (.iload_n 3, 1) := by decide +kernel
theorem dX2_layCell_21 : decode (z_c zX2_layCell) 21 = .ok (.lconst 0, 1) := by decide +kernel
theorem dX2_layCell_22 : decode (z_c zX2_layCell) 22 = .ok (.lastore, 1) := by decide +kernel
theorem dX2_layCell_23 : decode (z_c zX2_layCell) 23 = .ok (.aload_n 0, 1) := by decide +kernel
theorem dX2_layCell_24 : decode (z_c zX2_layCell) 24 = .ok (.getfield 22, 3) := by decide +kernel
theorem dX2_layCell_27 : decode (z_c zX2_layCell) 27 = .ok (.iload_n 3, 1) := by decide +kernel
theorem dX2_layCell_28 : decode (z_c zX2_layCell) 28 = .ok (.iconst 0, 1) := by decide +kernel
theorem dX2_layCell_29 : decode (z_c zX2_layCell) 29 = .ok (.iastore, 1) := by decide +kernel
theorem dX2_layCell_30 : decode (z_c zX2_layCell) 30 = .ok (.aload_n 0, 1) := by decide +kernel
theorem dX2_layCell_31 : decode (z_c zX2_layCell) 31 = .ok (.getfield 35, 3) := by decide +kernel
theorem dX2_layCell_34 : decode (z_c zX2_layCell) 34 = .ok (.iconst 2, 1) := by decide +kernel
theorem dX2_layCell_35 : decode (z_c zX2_layCell) 35 = .ok (.if_icmp .lt 7, 3) := by decide +kernel
theorem dX2_layCell_38 : decode (z_c zX2_layCell) 38 = .ok (.iconst 1, 1) := by decide +kernel
theorem dX2_layCell_39 : decode (z_c zX2_layCell) 39 = .ok (.goto 4, 3) := by decide +kernel
theorem dX2_layCell_42 : decode (z_c zX2_layCell) 42 = .ok (.iconst 0, 1) := by decide +kernel
theorem dX2_layCell_43 : decode (z_c zX2_layCell) 43 = .ok (.istore 4, 2) := by decide +kernel
theorem dX2_layCell_45 : decode (z_c zX2_layCell) 45 = .ok (.iload 4, 2) := by decide +kernel
theorem dX2_layCell_47 : decode (z_c zX2_layCell) 47 = .ok (.ifCond .eq 13, 3) := by decide +kernel
theorem dX2_layCell_50 : decode (z_c zX2_layCell) 50 = .ok (.iload_n 2, 1) := by decide +kernel
theorem dX2_layCell_51 : decode (z_c zX2_layCell) 51 = .ok (.iconst 1, 1) := by decide +kernel
theorem dX2_layCell_52 : decode (z_c zX2_layCell) 52 = .ok (.isub, 1) := by decide +kernel
theorem dX2_layCell_53 : decode (z_c zX2_layCell) 53 = .ok (.iload_n 1, 1) := by decide +kernel
theorem dX2_layCell_54 : decode (z_c zX2_layCell) 54 = .ok (.iconst 1, 1) := by decide +kernel
theorem dX2_layCell_55 : decode (z_c zX2_layCell) 55 = .ok (.iand, 1) := by decide +kernel
theorem dX2_layCell_56 : decode (z_c zX2_layCell) 56 = .ok (.iadd, 1) := by decide +kernel
theorem dX2_layCell_57 : decode (z_c zX2_layCell) 57 = .ok (.goto 6, 3) := by decide +kernel
theorem dX2_layCell_60 : decode (z_c zX2_layCell) 60 = .ok (.iload_n 2, 1) := by decide +kernel
theorem dX2_layCell_61 : decode (z_c zX2_layCell) 61 = .ok (.iconst 1, 1) := by decide +kernel
theorem dX2_layCell_62 : decode (z_c zX2_layCell) 62 = .ok (.isub, 1) := by decide +kernel
theorem dX2_layCell_63 : decode (z_c zX2_layCell) 63 = .ok (.istore 5, 2) := by decide +kernel
theorem dX2_layCell_65 : decode (z_c zX2_layCell) 65 = .ok (.iload 4, 2) := by decide +kernel
theorem dX2_layCell_67 : decode (z_c zX2_layCell) 67 = .ok (.ifCond .eq 10, 3) := by decide +kernel
theorem dX2_layCell_70 : decode (z_c zX2_layCell) 70 = .ok (.iload 5, 2) := by decide +kernel
theorem dX2_layCell_72 : decode (z_c zX2_layCell) 72 = .ok (.iconst 1, 1) := by decide +kernel
theorem dX2_layCell_73 : decode (z_c zX2_layCell) 73 = .ok (.iadd, 1) := by decide +kernel
theorem dX2_layCell_74 : decode (z_c zX2_layCell) 74 = .ok (.goto 6, 3) := by decide +kernel
theorem dX2_layCell_77 : decode (z_c zX2_layCell) 77 = .ok (.iload_n 2, 1) := by decide +kernel
theorem dX2_layCell_78 : decode (z_c zX2_layCell) 78 = .ok (.iconst 1, 1) := by decide +kernel
theorem dX2_layCell_79 : decode (z_c zX2_layCell) 79 = .ok (.iadd, 1) := by decide +kernel
theorem dX2_layCell_80 : decode (z_c zX2_layCell) 80 = .ok (.istore 6, 2) := by decide +kernel
theorem dX2_layCell_82 : decode (z_c zX2_layCell) 82 = .ok (.iload 5, 2) := by decide +kernel
theorem dX2_layCell_84 : decode (z_c zX2_layCell) 84 = .ok (.istore 7, 2) := by decide +kernel
theorem dX2_layCell_86 : decode (z_c zX2_layCell) 86 = .ok (.iload 7, 2) := by decide +kernel
theorem dX2_layCell_88 : decode (z_c zX2_layCell) 88 = .ok (.iload 6, 2) := by decide +kernel
theorem dX2_layCell_90 : decode (z_c zX2_layCell) 90 = .ok (.if_icmp .gt 37, 3) := by decide +kernel
theorem dX2_layCell_93 : decode (z_c zX2_layCell) 93 = .ok (.aload_n 0, 1) := by decide +kernel
theorem dX2_layCell_94 : decode (z_c zX2_layCell) 94 = .ok (.iload_n 3, 1) := by decide +kernel
theorem dX2_layCell_95 : decode (z_c zX2_layCell) 95 = .ok (.aload_n 0, 1) := by decide +kernel
theorem dX2_layCell_96 : decode (z_c zX2_layCell) 96 = .ok (.iload_n 1, 1) := by decide +kernel
theorem dX2_layCell_97 : decode (z_c zX2_layCell) 97 = .ok (.iconst 1, 1) := by decide +kernel
theorem dX2_layCell_98 : decode (z_c zX2_layCell) 98 = .ok (.isub, 1) := by decide +kernel
theorem dX2_layCell_99 : decode (z_c zX2_layCell) 99 = .ok (.iload 7, 2) := by decide +kernel
theorem dX2_layCell_101 : decode (z_c zX2_layCell) 101 = .ok (.invokevirtual 42, 3) := by decide +kernel
theorem dX2_layCell_104 : decode (z_c zX2_layCell) 104 = .ok (.invokevirtual 46, 3) := by decide +kernel
theorem dX2_layCell_107 : decode (z_c zX2_layCell) 107 = .ok (.aload_n 0, 1) := by decide +kernel
theorem dX2_layCell_108 : decode (z_c zX2_layCell) 108 = .ok (.iload_n 3, 1) := by decide +kernel
theorem dX2_layCell_109 : decode (z_c zX2_layCell) 109 = .ok (.aload_n 0, 1) := by decide +kernel
theorem dX2_layCell_110 : decode (z_c zX2_layCell) 110 = .ok (.iload_n 1, 1) := by decide +kernel
theorem dX2_layCell_111 : decode (z_c zX2_layCell) 111 = .ok (.iconst 1, 1) := by decide +kernel
theorem dX2_layCell_112 : decode (z_c zX2_layCell) 112 = .ok (.iadd, 1) := by decide +kernel
theorem dX2_layCell_113 : decode (z_c zX2_layCell) 113 = .ok (.iload 7, 2) := by decide +kernel
theorem dX2_layCell_115 : decode (z_c zX2_layCell) 115 = .ok (.invokevirtual 42, 3) := by decide +kernel
theorem dX2_layCell_118 : decode (z_c zX2_layCell) 118 = .ok (.invokevirtual 46, 3) := by decide +kernel
theorem dX2_layCell_121 : decode (z_c zX2_layCell) 121 = .ok (.iinc 7 1, 3) := by decide +kernel
theorem dX2_layCell_124 : decode (z_c zX2_layCell) 124 = .ok (.goto (-38), 3) := by decide +kernel
theorem dX2_layCell_127 : decode (z_c zX2_layCell) 127 = .ok (.aload_n 0, 1) := by decide +kernel
theorem dX2_layCell_128 : decode (z_c zX2_layCell) 128 = .ok (.iload_n 3, 1) := by decide +kernel
theorem dX2_layCell_129 : decode (z_c zX2_layCell) 129 = .ok (.aload_n 0, 1) := by decide +kernel
theorem dX2_layCell_130 : decode (z_c zX2_layCell) 130 = .ok (.iload_n 1, 1) := by decide +kernel
theorem dX2_layCell_131 : decode (z_c zX2_layCell) 131 = .ok (.iload_n 2, 1) := by decide +kernel
theorem dX2_layCell_132 : decode (z_c zX2_layCell) 132 = .ok (.iconst 1, 1) := by decide +kernel
theorem dX2_layCell_133 : decode (z_c zX2_layCell) 133 = .ok (.isub, 1) := by decide +kernel
theorem dX2_layCell_134 : decode (z_c zX2_layCell) 134 = .ok (.invokevirtual 42, 3) := by decide +kernel
theorem dX2_layCell_137 : decode (z_c zX2_layCell) 137 = .ok (.invokevirtual 46, 3) := by decide +kernel
theorem dX2_layCell_140 : decode (z_c zX2_layCell) 140 = .ok (.aload_n 0, 1) := by decide +kernel
theorem dX2_layCell_141 : decode (z_c zX2_layCell) 141 = .ok (.iload_n 3, 1) := by decide +kernel
theorem dX2_layCell_142 : decode (z_c zX2_layCell) 142 = .ok (.aload_n 0, 1) := by decide +kernel
theorem dX2_layCell_143 : decode (z_c zX2_layCell) 143 = .ok (.iload_n 1, 1) := by decide +kernel
theorem dX2_layCell_144 : decode (z_c zX2_layCell) 144 = .ok (.iload_n 2, 1) := by decide +kernel
theorem dX2_layCell_145 : decode (z_c zX2_layCell) 145 = .ok (.iconst 1, 1) := by decide +kernel
theorem dX2_layCell_146 : decode (z_c zX2_layCell) 146 = .ok (.iadd, 1) := by decide +kernel
theorem dX2_layCell_147 : decode (z_c zX2_layCell) 147 = .ok (.invokevirtual 42, 3) := by decide +kernel
theorem dX2_layCell_150 : decode (z_c zX2_layCell) 150 = .ok (.invokevirtual 46, 3) := by decide +kernel
theorem dX2_layCell_153 : decode (z_c zX2_layCell) 153 = .ok (.return_, 1) := by decide +kernel
theorem dX2_at_0 : decode (z_c zX2_at) 0 = .ok (.aload_n 0, 1) := by decide +kernel
theorem dX2_at_1 : decode (z_c zX2_at) 1 = .ok (.getfield 35, 3) := by decide +kernel
theorem dX2_at_4 : decode (z_c zX2_at) 4 = .ok (.iconst 1, 1) := by decide +kernel
theorem dX2_at_5 : decode (z_c zX2_at) 5 = .ok (.iand, 1) := by decide +kernel
theorem dX2_at_6 : decode (z_c zX2_at) 6 = .ok (.iconst 1, 1) := by decide +kernel
theorem dX2_at_7 : decode (z_c zX2_at) 7 = .ok (.if_icmp .ne 7, 3) := by decide +kernel
theorem dX2_at_10 : decode (z_c zX2_at) 10 = .ok (.iconst 1, 1) := by decide +kernel
theorem dX2_at_11 : decode (z_c zX2_at) 11 = .ok (.goto 4, 3) := by decide +kernel
theorem dX2_at_14 : decode (z_c zX2_at) 14 = .ok (.iconst 0, 1) := by decide +kernel
theorem dX2_at_15 : decode (z_c zX2_at) 15 = .ok (.istore_n 3, 1) := by decide +kernel
theorem dX2_at_16 : decode (z_c zX2_at) 16 = .ok (.iload_n 3, 1) := by decide +kernel
theorem dX2_at_17 : decode (z_c zX2_at) 17 = .ok (.ifCond .eq 14, 3) := by decide +kernel
theorem dX2_at_20 : decode (z_c zX2_at) 20 = .ok (.iload_n 1, 1) := by decide +kernel
theorem dX2_at_21 : decode (z_c zX2_at) 21 = .ok (.aload_n 0, 1) := by decide +kernel
theorem dX2_at_22 : decode (z_c zX2_at) 22 = .ok (.getfield 32, 3) := by decide +kernel
theorem dX2_at_25 : decode (z_c zX2_at) 25 = .ok (.invokestatic 49, 3) := by decide +kernel
theorem dX2_at_28 : decode (z_c zX2_at) 28 = .ok (.goto 4, 3) := by decide +kernel
theorem dX2_at_31 : decode (z_c zX2_at) 31 = .ok (.iload_n 1, 1) := by decide +kernel
theorem dX2_at_32 : decode (z_c zX2_at) 32 = .ok (.istore 4, 2) := by decide +kernel
theorem dX2_at_34 : decode (z_c zX2_at) 34 = .ok (.iload_n 3, 1) := by decide +kernel
theorem dX2_at_35 : decode (z_c zX2_at) 35 = .ok (.ifCond .eq 14, 3) := by decide +kernel
theorem dX2_at_38 : decode (z_c zX2_at) 38 = .ok (.iload_n 2, 1) := by decide +kernel
theorem dX2_at_39 : decode (z_c zX2_at) 39 = .ok (.aload_n 0, 1) := by decide +kernel
theorem dX2_at_40 : decode (z_c zX2_at) 40 = .ok (.getfield 29, 3) := by decide +kernel
theorem dX2_at_43 : decode (z_c zX2_at) 43 = .ok (.invokestatic 49, 3) := by decide +kernel
theorem dX2_at_46 : decode (z_c zX2_at) 46 = .ok (.goto 4, 3) := by decide +kernel
theorem dX2_at_49 : decode (z_c zX2_at) 49 = .ok (.iload_n 2, 1) := by decide +kernel
theorem dX2_at_50 : decode (z_c zX2_at) 50 = .ok (.istore 5, 2) := by decide +kernel
theorem dX2_at_52 : decode (z_c zX2_at) 52 = .ok (.iload 4, 2) := by decide +kernel
theorem dX2_at_54 : decode (z_c zX2_at) 54 = .ok (.ifCond .lt 30, 3) := by decide +kernel
theorem dX2_at_57 : decode (z_c zX2_at) 57 = .ok (.iload 4, 2) := by decide +kernel
theorem dX2_at_59 : decode (z_c zX2_at) 59 = .ok (.aload_n 0, 1) := by decide +kernel
theorem dX2_at_60 : decode (z_c zX2_at) 60 = .ok (.getfield 32, 3) := by decide +kernel
theorem dX2_at_63 : decode (z_c zX2_at) 63 = .ok (.if_icmp .ge 21, 3) := by decide +kernel
theorem dX2_at_66 : decode (z_c zX2_at) 66 = .ok (.iload 5, 2) := by decide +kernel
theorem dX2_at_68 : decode (z_c zX2_at) 68 = .ok (.ifCond .lt 16, 3) := by decide +kernel
theorem dX2_at_71 : decode (z_c zX2_at) 71 = .ok (.iload 5, 2) := by decide +kernel
theorem dX2_at_73 : decode (z_c zX2_at) 73 = .ok (.aload_n 0, 1) := by decide +kernel
theorem dX2_at_74 : decode (z_c zX2_at) 74 = .ok (.getfield 29, 3) := by decide +kernel
theorem dX2_at_77 : decode (z_c zX2_at) 77 = .ok (.if_icmp .ge 7, 3) := by decide +kernel
theorem dX2_at_80 : decode (z_c zX2_at) 80 = .ok (.iconst 1, 1) := by decide +kernel
theorem dX2_at_81 : decode (z_c zX2_at) 81 = .ok (.goto 4, 3) := by decide +kernel
theorem dX2_at_84 : decode (z_c zX2_at) 84 = .ok (.iconst 0, 1) := by decide +kernel
theorem dX2_at_85 : decode (z_c zX2_at) 85 = .ok (.istore 6, 2) := by decide +kernel
theorem dX2_at_87 : decode (z_c zX2_at) 87 = .ok (.iload 6, 2) := by decide +kernel
theorem dX2_at_89 : decode (z_c zX2_at) 89 = .ok (.ifCond .eq 16, 3) := by decide +kernel
theorem dX2_at_92 : decode (z_c zX2_at) 92 = .ok (.iload 4, 2) := by decide +kernel
theorem dX2_at_94 : decode (z_c zX2_at) 94 = .ok (.aload_n 0, 1) := by decide +kernel
theorem dX2_at_95 : decode (z_c zX2_at) 95 = .ok (.getfield 29, 3) := by decide +kernel
theorem dX2_at_98 : decode (z_c zX2_at) 98 = .ok (.imul, 1) := by decide +kernel
theorem dX2_at_99 : decode (z_c zX2_at) 99 = .ok (.iload 5, 2) := by decide +kernel
theorem dX2_at_101 : decode (z_c zX2_at) 101 = .ok (.iadd, 1) := by decide +kernel
theorem dX2_at_102 : decode (z_c zX2_at) 102 = .ok (.goto 4, 3) := by decide +kernel
theorem dX2_at_105 : decode (z_c zX2_at) 105 = .ok (.iconst (-1), 1) := by decide +kernel
theorem dX2_at_106 : decode (z_c zX2_at) 106 = .ok (.ireturn, 1) := by decide +kernel
theorem dX2_wrap_0 : decode (z_c zX2_wrap) 0 = .ok (.iload_n 0, 1) := by decide +kernel
theorem dX2_wrap_1 : decode (z_c zX2_wrap) 1 = .ok (.ifCond .ge 7, 3) := by decide +kernel
theorem dX2_wrap_4 : decode (z_c zX2_wrap) 4 = .ok (.iload_n 0, 1) := by decide +kernel
theorem dX2_wrap_5 : decode (z_c zX2_wrap) 5 = .ok (.iload_n 1, 1) := by decide +kernel
theorem dX2_wrap_6 : decode (z_c zX2_wrap) 6 = .ok (.iadd, 1) := by decide +kernel
theorem dX2_wrap_7 : decode (z_c zX2_wrap) 7 = .ok (.ireturn, 1) := by decide +kernel
theorem dX2_wrap_8 : decode (z_c zX2_wrap) 8 = .ok (.iload_n 0, 1) := by decide +kernel
theorem dX2_wrap_9 : decode (z_c zX2_wrap) 9 = .ok (.iload_n 1, 1) := by decide +kernel
theorem dX2_wrap_10 : decode (z_c zX2_wrap) 10 = .ok (.if_icmp .lt 9, 3) := by decide +kernel
theorem dX2_wrap_13 : decode (z_c zX2_wrap) 13 = .ok (.iload_n 0, 1) := by decide +kernel
theorem dX2_wrap_14 : decode (z_c zX2_wrap) 14 = .ok (.iload_n 1, 1) := by decide +kernel
theorem dX2_wrap_15 : decode (z_c zX2_wrap) 15 = .ok (.isub, 1) := by decide +kernel
theorem dX2_wrap_16 : decode (z_c zX2_wrap) 16 = .ok (.goto 4, 3) := by decide +kernel
theorem dX2_wrap_19 : decode (z_c zX2_wrap) 19 = .ok (.iload_n 0, 1) := by decide +kernel
theorem dX2_wrap_20 : decode (z_c zX2_wrap) 20 = .ok (.ireturn, 1) := by decide +kernel
theorem dX2_link_0 : decode (z_c zX2_link) 0 = .ok (.iload_n 2, 1) := by decide +kernel
theorem dX2_link_1 : decode (z_c zX2_link) 1 = .ok (.ifCond .lt 28, 3) := by decide +kernel
theorem dX2_link_4 : decode (z_c zX2_link) 4 = .ok (.iload_n 2, 1) := by decide +kernel
theorem dX2_link_5 : decode (z_c zX2_link) 5 = .ok (.iload_n 1, 1) := by decide +kernel
theorem dX2_link_6 : decode (z_c zX2_link) 6 = .ok (.if_icmp .eq 23, 3) := by decide +kernel
theorem dX2_link_9 : decode (z_c zX2_link) 9 = .ok (.aload_n 0, 1) := by decide +kernel
theorem dX2_link_10 : decode (z_c zX2_link) 10 = .ok (.getfield 22, 3) := by decide +kernel
theorem dX2_link_13 : decode (z_c zX2_link) 13 = .ok (.iload_n 1, 1) := by decide +kernel
theorem dX2_link_14 : decode (z_c zX2_link) 14 = .ok (.iaload, 1) := by decide +kernel
theorem dX2_link_15 : decode (z_c zX2_link) 15 = .ok (.bipush 8, 2) := by decide +kernel
theorem dX2_link_17 : decode (z_c zX2_link) 17 = .ok (.if_icmp .ge 12, 3) := by decide +kernel
theorem dX2_link_20 : decode (z_c zX2_link) 20 = .ok (.aload_n 0, 1) := by decide +kernel
theorem dX2_link_21 : decode (z_c zX2_link) 21 = .ok (.iload_n 1, 1) := by decide +kernel
theorem dX2_link_22 : decode (z_c zX2_link) 22 = .ok (.iload_n 2, 1) := by decide +kernel
theorem dX2_link_23 : decode (z_c zX2_link) 23 = .ok (.invokevirtual 52, 3) := by decide +kernel
theorem dX2_link_26 : decode (z_c zX2_link) 26 = .ok (.ifCond .eq 4, 3) := by decide +kernel
theorem dX2_link_29 : decode (z_c zX2_link) 29 = .ok (.return_, 1) := by decide +kernel
theorem dX2_link_30 : decode (z_c zX2_link) 30 = .ok (.iload_n 1, 1) := by decide +kernel
theorem dX2_link_31 : decode (z_c zX2_link) 31 = .ok (.bipush 8, 2) := by decide +kernel
theorem dX2_link_33 : decode (z_c zX2_link) 33 = .ok (.imul, 1) := by decide +kernel
theorem dX2_link_34 : decode (z_c zX2_link) 34 = .ok (.istore_n 3, 1) := by decide +kernel
theorem dX2_link_35 : decode (z_c zX2_link) 35 = .ok (.iload_n 3, 1) := by decide +kernel
theorem dX2_link_36 : decode (z_c zX2_link) 36 = .ok (.aload_n 0, 1) := by decide +kernel
theorem dX2_link_37 : decode (z_c zX2_link) 37 = .ok (.getfield 22, 3) := by decide +kernel
theorem dX2_link_40 : decode (z_c zX2_link) 40 = .ok (.iload_n 1, 1) := by decide +kernel
theorem dX2_link_41 : decode (z_c zX2_link) 41 = .ok (.iaload, 1) := by decide +kernel
theorem dX2_link_42 : decode (z_c zX2_link) 42 = .ok (.iadd, 1) := by decide +kernel
theorem dX2_link_43 : decode (z_c zX2_link) 43 = .ok (.istore 4, 2) := by decide +kernel
theorem dX2_link_45 : decode (z_c zX2_link) 45 = .ok (.iload 4, 2) := by decide +kernel
theorem dX2_link_47 : decode (z_c zX2_link) 47 = .ok (.iload_n 3, 1) := by decide +kernel
theorem dX2_link_48 : decode (z_c zX2_link) 48 = .ok (.if_icmp .le 38, 3) := by decide +kernel
theorem dX2_link_51 : decode (z_c zX2_link) 51 = .ok (.aload_n 0, 1) := by decide +kernel
theorem dX2_link_52 : decode (z_c zX2_link) 52 = .ok (.getfield 18, 3) := by decide +kernel
theorem dX2_link_55 : decode (z_c zX2_link) 55 = .ok (.iload 4, 2) := by decide +kernel
theorem dX2_link_57 : decode (z_c zX2_link) 57 = .ok (.iconst 1, 1) := by decide +kernel
theorem dX2_link_58 : decode (z_c zX2_link) 58 = .ok (.isub, 1) := by decide +kernel
theorem dX2_link_59 : decode (z_c zX2_link) 59 = .ok (.iaload, 1) := by decide +kernel
theorem dX2_link_60 : decode (z_c zX2_link) 60 = .ok (.iload_n 2, 1) := by decide +kernel
theorem dX2_link_61 : decode (z_c zX2_link) 61 = .ok (.if_icmp .le 25, 3) := by decide +kernel
theorem dX2_link_64 : decode (z_c zX2_link) 64 = .ok (.aload_n 0, 1) := by decide +kernel
theorem dX2_link_65 : decode (z_c zX2_link) 65 = .ok (.getfield 18, 3) := by decide +kernel
theorem dX2_link_68 : decode (z_c zX2_link) 68 = .ok (.iload 4, 2) := by decide +kernel
theorem dX2_link_70 : decode (z_c zX2_link) 70 = .ok (.aload_n 0, 1) := by decide +kernel
theorem dX2_link_71 : decode (z_c zX2_link) 71 = .ok (.getfield 18, 3) := by decide +kernel
theorem dX2_link_74 : decode (z_c zX2_link) 74 = .ok (.iload 4, 2) := by decide +kernel
theorem dX2_link_76 : decode (z_c zX2_link) 76 = .ok (.iconst 1, 1) := by decide +kernel
theorem dX2_link_77 : decode (z_c zX2_link) 77 = .ok (.isub, 1) := by decide +kernel
theorem dX2_link_78 : decode (z_c zX2_link) 78 = .ok (.iaload, 1) := by decide +kernel
theorem dX2_link_79 : decode (z_c zX2_link) 79 = .ok (.iastore, 1) := by decide +kernel
theorem dX2_link_80 : decode (z_c zX2_link) 80 = .ok (.iinc 4 (-1), 3) := by decide +kernel
theorem dX2_link_83 : decode (z_c zX2_link) 83 = .ok (.goto (-38), 3) := by decide +kernel
theorem dX2_link_86 : decode (z_c zX2_link) 86 = .ok (.aload_n 0, 1) := by decide +kernel
theorem dX2_link_87 : decode (z_c zX2_link) 87 = .ok (.getfield 18, 3) := by decide +kernel
theorem dX2_link_90 : decode (z_c zX2_link) 90 = .ok (.iload 4, 2) := by decide +kernel
theorem dX2_link_92 : decode (z_c zX2_link) 92 = .ok (.iload_n 2, 1) := by decide +kernel
theorem dX2_link_93 : decode (z_c zX2_link) 93 = .ok (.iastore, 1) := by decide +kernel
theorem dX2_link_94 : decode (z_c zX2_link) 94 = .ok (.aload_n 0, 1) := by decide +kernel
theorem dX2_link_95 : decode (z_c zX2_link) 95 = .ok (.getfield 22, 3) := by decide +kernel
theorem dX2_link_98 : decode (z_c zX2_link) 98 = .ok (.iload_n 1, 1) := by decide +kernel
theorem dX2_link_99 : decode (z_c zX2_link) 99 = .ok (.dup2, 1) := by decide +kernel
theorem dX2_link_100 : decode (z_c zX2_link) 100 = .ok (.iaload, 1) := by decide +kernel
theorem dX2_link_101 : decode (z_c zX2_link) 101 = .ok (.iconst 1, 1) := by decide +kernel
theorem dX2_link_102 : decode (z_c zX2_link) 102 = .ok (.iadd, 1) := by decide +kernel
theorem dX2_link_103 : decode (z_c zX2_link) 103 = .ok (.iastore, 1) := by decide +kernel
theorem dX2_link_104 : decode (z_c zX2_link) 104 = .ok (.iload_n 2, 1) := by decide +kernel
theorem dX2_link_105 : decode (z_c zX2_link) 105 = .ok (.bipush 64, 2) := by decide +kernel
theorem dX2_link_107 : decode (z_c zX2_link) 107 = .ok (.if_icmp .ge 18, 3) := by decide +kernel
theorem dX2_link_110 : decode (z_c zX2_link) 110 = .ok (.aload_n 0, 1) := by decide +kernel
theorem dX2_link_111 : decode (z_c zX2_link) 111 = .ok (.getfield 9, 3) := by decide +kernel
theorem dX2_link_114 : decode (z_c zX2_link) 114 = .ok (.iload_n 1, 1) := by decide +kernel
theorem dX2_link_115 : decode (z_c zX2_link) 115 = .ok (.dup2, 1) := by decide +kernel
theorem dX2_link_116 : decode (z_c zX2_link) 116 = .ok (.laload, 1) := by decide +kernel
theorem dX2_link_117 : decode (z_c zX2_link) 117 = .ok (.lconst 1, 1) := by decide +kernel
theorem dX2_link_118 : decode (z_c zX2_link) 118 = .ok (.iload_n 2, 1) := by decide +kernel
theorem dX2_link_119 : decode (z_c zX2_link) 119 = .ok (.lshl, 1) := by decide +kernel
theorem dX2_link_120 : decode (z_c zX2_link) 120 = .ok (.lor, 1) := by decide +kernel
theorem dX2_link_121 : decode (z_c zX2_link) 121 = .ok (.lastore, 1) := by decide +kernel
theorem dX2_link_122 : decode (z_c zX2_link) 122 = .ok (.goto 15, 3) := by decide +kernel
theorem dX2_link_125 : decode (z_c zX2_link) 125 = .ok (.aload_n 0, 1) := by decide +kernel
theorem dX2_link_126 : decode (z_c zX2_link) 126 = .ok (.getfield 15, 3) := by decide +kernel
theorem dX2_link_129 : decode (z_c zX2_link) 129 = .ok (.iload_n 1, 1) := by decide +kernel
theorem dX2_link_130 : decode (z_c zX2_link) 130 = .ok (.dup2, 1) := by decide +kernel
theorem dX2_link_131 : decode (z_c zX2_link) 131 = .ok (.laload, 1) := by decide +kernel
theorem dX2_link_132 : decode (z_c zX2_link) 132 = .ok (.lconst 1, 1) := by decide +kernel
theorem dX2_link_133 : decode (z_c zX2_link) 133 = .ok (.iload_n 2, 1) := by decide +kernel
theorem dX2_link_134 : decode (z_c zX2_link) 134 = .ok (.lshl, 1) := by decide +kernel
theorem dX2_link_135 : decode (z_c zX2_link) 135 = .ok (.lor, 1) := by decide +kernel
theorem dX2_link_136 : decode (z_c zX2_link) 136 = .ok (.lastore, 1) := by decide +kernel
theorem dX2_link_137 : decode (z_c zX2_link) 137 = .ok (.return_, 1) := by decide +kernel
theorem dX2_linked_0 : decode (z_c zX2_linked) 0 = .ok (.iload_n 2, 1) := by decide +kernel
theorem dX2_linked_1 : decode (z_c zX2_linked) 1 = .ok (.bipush 64, 2) := by decide +kernel
theorem dX2_linked_3 : decode (z_c zX2_linked) 3 = .ok (.if_icmp .ge 12, 3) := by decide +kernel
theorem dX2_linked_6 : decode (z_c zX2_linked) 6 = .ok (.aload_n 0, 1) := by decide +kernel
theorem dX2_linked_7 : decode (z_c zX2_linked) 7 = .ok (.getfield 9, 3) := by decide +kernel
theorem dX2_linked_10 : decode (z_c zX2_linked) 10 = .ok (.iload_n 1, 1) := by decide +kernel
theorem dX2_linked_11 : decode (z_c zX2_linked) 11 = .ok (.laload, 1) := by decide +kernel
theorem dX2_linked_12 : decode (z_c zX2_linked) 12 = .ok (.goto 9, 3) := by decide +kernel
theorem dX2_linked_15 : decode (z_c zX2_linked) 15 = .ok (.aload_n 0, 1) := by decide +kernel
theorem dX2_linked_16 : decode (z_c zX2_linked) 16 = .ok (.getfield 15, 3) := by decide +kernel
theorem dX2_linked_19 : decode (z_c zX2_linked) 19 = .ok (.iload_n 1, 1) := by decide +kernel
theorem dX2_linked_20 : decode (z_c zX2_linked) 20 = .ok (.laload, 1) := by decide +kernel
theorem dX2_linked_21 : decode (z_c zX2_linked) 21 = .ok (.iload_n 2, 1) := by decide +kernel
theorem dX2_linked_22 : decode (z_c zX2_linked) 22 = .ok (.lushr, 1) := by decide +kernel
theorem dX2_linked_23 : decode (z_c zX2_linked) 23 = .ok (.lconst 1, 1) := by decide +kernel
theorem dX2_linked_24 : decode (z_c zX2_linked) 24 = .ok (.land, 1) := by decide +kernel
theorem dX2_linked_25 : decode (z_c zX2_linked) 25 = .ok (.lconst 0, 1) := by decide +kernel
theorem dX2_linked_26 : decode (z_c zX2_linked) 26 = .ok (.lcmp, 1) := by decide +kernel
theorem dX2_linked_27 : decode (z_c zX2_linked) 27 = .ok (.ifCond .eq 7, 3) := by decide +kernel
theorem dX2_linked_30 : decode (z_c zX2_linked) 30 = .ok (.iconst 1, 1) := by decide +kernel
theorem dX2_linked_31 : decode (z_c zX2_linked) 31 = .ok (.goto 4, 3) := by decide +kernel
theorem dX2_linked_34 : decode (z_c zX2_linked) 34 = .ok (.iconst 0, 1) := by decide +kernel
theorem dX2_linked_35 : decode (z_c zX2_linked) 35 = .ok (.ireturn, 1) := by decide +kernel
theorem dX2_touches_0 : decode (z_c zX2_touches) 0 = .ok (.aload_n 0, 1) := by decide +kernel
theorem dX2_touches_1 : decode (z_c zX2_touches) 1 = .ok (.getfield 9, 3) := by decide +kernel
theorem dX2_touches_4 : decode (z_c zX2_touches) 4 = .ok (.iload_n 1, 1) := by decide +kernel
theorem dX2_touches_5 : decode (z_c zX2_touches) 5 = .ok (.laload, 1) := by decide +kernel
theorem dX2_touches_6 : decode (z_c zX2_touches) 6 = .ok (.aload_n 2, 1) := by decide +kernel
theorem dX2_touches_7 : decode (z_c zX2_touches) 7 = .ok (.getfield 56, 3) := by decide +kernel
theorem dX2_touches_10 : decode (z_c zX2_touches) 10 = .ok (.land, 1) := by decide +kernel
theorem dX2_touches_11 : decode (z_c zX2_touches) 11 = .ok (.aload_n 0, 1) := by decide +kernel
theorem dX2_touches_12 : decode (z_c zX2_touches) 12 = .ok (.getfield 15, 3) := by decide +kernel
theorem dX2_touches_15 : decode (z_c zX2_touches) 15 = .ok (.iload_n 1, 1) := by decide +kernel
theorem dX2_touches_16 : decode (z_c zX2_touches) 16 = .ok (.laload, 1) := by decide +kernel
theorem dX2_touches_17 : decode (z_c zX2_touches) 17 = .ok (.aload_n 2, 1) := by decide +kernel
theorem dX2_touches_18 : decode (z_c zX2_touches) 18 = .ok (.getfield 62, 3) := by decide +kernel
theorem dX2_touches_21 : decode (z_c zX2_touches) 21 = .ok (.land, 1) := by decide +kernel
theorem dX2_touches_22 : decode (z_c zX2_touches) 22 = .ok (.lor, 1) := by decide +kernel
theorem dX2_touches_23 : decode (z_c zX2_touches) 23 = .ok (.lconst 0, 1) := by decide +kernel
theorem dX2_touches_24 : decode (z_c zX2_touches) 24 = .ok (.lcmp, 1) := by decide +kernel
theorem dX2_touches_25 : decode (z_c zX2_touches) 25 = .ok (.ifCond .eq 7, 3) := by decide +kernel
theorem dX2_touches_28 : decode (z_c zX2_touches) 28 = .ok (.iconst 1, 1) := by decide +kernel
theorem dX2_touches_29 : decode (z_c zX2_touches) 29 = .ok (.goto 4, 3) := by decide +kernel
theorem dX2_touches_32 : decode (z_c zX2_touches) 32 = .ok (.iconst 0, 1) := by decide +kernel
theorem dX2_touches_33 : decode (z_c zX2_touches) 33 = .ok (.ireturn, 1) := by decide +kernel
theorem dX2_countNear_0 : decode (z_c zX2_countNear) 0 = .ok (.aload_n 0, 1) := by decide +kernel
theorem dX2_countNear_1 : decode (z_c zX2_countNear) 1 = .ok (.getfield 9, 3) := by decide +kernel
theorem dX2_countNear_4 : decode (z_c zX2_countNear) 4 = .ok (.iload_n 1, 1) := by decide +kernel
theorem dX2_countNear_5 : decode (z_c zX2_countNear) 5 = .ok (.laload, 1) := by decide +kernel
theorem dX2_countNear_6 : decode (z_c zX2_countNear) 6 = .ok (.aload_n 2, 1) := by decide +kernel
theorem dX2_countNear_7 : decode (z_c zX2_countNear) 7 = .ok (.getfield 56, 3) := by decide +kernel
theorem dX2_countNear_10 : decode (z_c zX2_countNear) 10 = .ok (.land, 1) := by decide +kernel
theorem dX2_countNear_11 : decode (z_c zX2_countNear) 11 = .ok (.invokestatic 65, 3) := by decide +kernel
theorem dX2_countNear_14 : decode (z_c zX2_countNear) 14 = .ok (.aload_n 0, 1) := by decide +kernel
theorem dX2_countNear_15 : decode (z_c zX2_countNear) 15 = .ok (.getfield 15, 3) := by decide +kernel
theorem dX2_countNear_18 : decode (z_c zX2_countNear) 18 = .ok (.iload_n 1, 1) := by decide +kernel
theorem dX2_countNear_19 : decode (z_c zX2_countNear) 19 = .ok (.laload, 1) := by decide +kernel
theorem dX2_countNear_20 : decode (z_c zX2_countNear) 20 = .ok (.aload_n 2, 1) := by decide +kernel
theorem dX2_countNear_21 : decode (z_c zX2_countNear) 21 = .ok (.getfield 62, 3) := by decide +kernel
theorem dX2_countNear_24 : decode (z_c zX2_countNear) 24 = .ok (.land, 1) := by decide +kernel
theorem dX2_countNear_25 : decode (z_c zX2_countNear) 25 = .ok (.invokestatic 65, 3) := by decide +kernel
theorem dX2_countNear_28 : decode (z_c zX2_countNear) 28 = .ok (.iadd, 1) := by decide +kernel
theorem dX2_countNear_29 : decode (z_c zX2_countNear) 29 = .ok (.ireturn, 1) := by decide +kernel
theorem dX3_prepare_0 : decode (z_c zX3_prepare) 0 = .ok (.aload_n 0, 1) := by decide +kernel
theorem dX3_prepare_1 : decode (z_c zX3_prepare) 1 = .ok (.getfield 12, 3) := by decide +kernel
theorem dX3_prepare_4 : decode (z_c zX3_prepare) 4 = .ok (.iload_n 1, 1) := by decide +kernel
theorem dX3_prepare_5 : decode (z_c zX3_prepare) 5 = .ok (.iload_n 2, 1) := by decide +kernel
theorem dX3_prepare_6 : decode (z_c zX3_prepare) 6 = .ok (.iload_n 3, 1) := by decide +kernel
theorem dX3_prepare_7 : decode (z_c zX3_prepare) 7 = .ok (.invokevirtual 29, 3) := by decide +kernel
theorem dX3_prepare_10 : decode (z_c zX3_prepare) 10 = .ok (.aload_n 0, 1) := by decide +kernel
theorem dX3_prepare_11 : decode (z_c zX3_prepare) 11 = .ok (.iload_n 2, 1) := by decide +kernel
theorem dX3_prepare_12 : decode (z_c zX3_prepare) 12 = .ok (.iconst 1, 1) := by decide +kernel
theorem dX3_prepare_13 : decode (z_c zX3_prepare) 13 = .ok (.ishr, 1) := by decide +kernel
theorem dX3_prepare_14 : decode (z_c zX3_prepare) 14 = .ok (.iload_n 1, 1) := by decide +kernel
theorem dX3_prepare_15 : decode (z_c zX3_prepare) 15 = .ok (.imul, 1) := by decide +kernel
theorem dX3_prepare_16 : decode (z_c zX3_prepare) 16 = .ok (.iload_n 1, 1) := by decide +kernel
theorem dX3_prepare_17 : decode (z_c zX3_prepare) 17 = .ok (.iconst 1, 1) := by decide +kernel
theorem dX3_prepare_18 : decode (z_c zX3_prepare) 18 = .ok (.ishr, 1) := by decide +kernel
theorem dX3_prepare_19 : decode (z_c zX3_prepare) 19 = .ok (.iadd, 1) := by decide +kernel
theorem dX3_prepare_20 : decode (z_c zX3_prepare) 20 = .ok (.putfield 33, 3) := by decide +kernel
theorem dX3_prepare_23 : decode (z_c zX3_prepare) 23 = .ok (.aload_n 0, 1) := by decide +kernel
theorem dX3_prepare_24 : decode (z_c zX3_prepare) 24 = .ok (.getfield 21, 3) := by decide +kernel
theorem dX3_prepare_27 : decode (z_c zX3_prepare) 27 = .ok (.aload_n 0, 1) := by decide +kernel
theorem dX3_prepare_28 : decode (z_c zX3_prepare) 28 = .ok (.getfield 12, 3) := by decide +kernel
theorem dX3_prepare_31 : decode (z_c zX3_prepare) 31 = .ok (.getfield 37, 3) := by decide +kernel
theorem dX3_prepare_34 : decode (z_c zX3_prepare) 34 = .ok (.invokevirtual 40, 3) := by decide +kernel
theorem dX3_prepare_37 : decode (z_c zX3_prepare) 37 = .ok (.aload_n 0, 1) := by decide +kernel
theorem dX3_prepare_38 : decode (z_c zX3_prepare) 38 = .ok (.getfield 21, 3) := by decide +kernel
theorem dX3_prepare_41 : decode (z_c zX3_prepare) 41 = .ok (.aload_n 0, 1) := by decide +kernel
theorem dX3_prepare_42 : decode (z_c zX3_prepare) 42 = .ok (.getfield 33, 3) := by decide +kernel
theorem dX3_prepare_45 : decode (z_c zX3_prepare) 45 = .ok (.invokevirtual 44, 3) := by decide +kernel
theorem dX3_prepare_48 : decode (z_c zX3_prepare) 48 = .ok (.iconst 0, 1) := by decide +kernel
theorem dX3_prepare_49 : decode (z_c zX3_prepare) 49 = .ok (.istore 4, 2) := by decide +kernel
theorem dX3_prepare_51 : decode (z_c zX3_prepare) 51 = .ok (.iload 4, 2) := by decide +kernel
theorem dX3_prepare_53 : decode (z_c zX3_prepare) 53 = .ok (.aload_n 0, 1) := by decide +kernel
theorem dX3_prepare_54 : decode (z_c zX3_prepare) 54 = .ok (.getfield 12, 3) := by decide +kernel
theorem dX3_prepare_57 : decode (z_c zX3_prepare) 57 = .ok (.getfield 48, 3) := by decide +kernel
theorem dX3_prepare_60 : decode (z_c zX3_prepare) 60 = .ok (.getfield 52, 3) := by decide +kernel
theorem dX3_prepare_63 : decode (z_c zX3_prepare) 63 = .ok (.aload_n 0, 1) := by decide +kernel
theorem dX3_prepare_64 : decode (z_c zX3_prepare) 64 = .ok (.getfield 33, 3) := by decide +kernel
theorem dX3_prepare_67 : decode (z_c zX3_prepare) 67 = .ok (.iaload, 1) := by decide +kernel
theorem dX3_prepare_68 : decode (z_c zX3_prepare) 68 = .ok (.if_icmp .ge 37, 3) := by decide +kernel
theorem dX3_prepare_71 : decode (z_c zX3_prepare) 71 = .ok (.aload_n 0, 1) := by decide +kernel
theorem dX3_prepare_72 : decode (z_c zX3_prepare) 72 = .ok (.getfield 21, 3) := by decide +kernel
theorem dX3_prepare_75 : decode (z_c zX3_prepare) 75 = .ok (.aload_n 0, 1) := by decide +kernel
theorem dX3_prepare_76 : decode (z_c zX3_prepare) 76 = .ok (.getfield 12, 3) := by decide +kernel
theorem dX3_prepare_79 : decode (z_c zX3_prepare) 79 = .ok (.getfield 48, 3) := by decide +kernel
theorem dX3_prepare_82 : decode (z_c zX3_prepare) 82 = .ok (.getfield 58, 3) := by decide +kernel
theorem dX3_prepare_85 : decode (z_c zX3_prepare) 85 = .ok (.aload_n 0, 1) := by decide +kernel
theorem dX3_prepare_86 : decode (z_c zX3_prepare) 86 = .ok (.getfield 33, 3) := by decide +kernel
theorem dX3_prepare_89 : decode (z_c zX3_prepare) 89 = .ok (.bipush 8, 2) := by decide +kernel
theorem dX3_prepare_91 : decode (z_c zX3_prepare) 91 = .ok (.imul, 1) := by decide +kernel
theorem dX3_prepare_92 : decode (z_c zX3_prepare) 92 = .ok (.iload 4, 2) := by decide +kernel
theorem dX3_prepare_94 : decode (z_c zX3_prepare) 94 = .ok (.iadd, 1) := by decide +kernel
theorem dX3_prepare_95 : decode (z_c zX3_prepare) 95 = .ok (.iaload, 1) := by decide +kernel
theorem dX3_prepare_96 : decode (z_c zX3_prepare) 96 = .ok (.invokevirtual 44, 3) := by decide +kernel
theorem dX3_prepare_99 : decode (z_c zX3_prepare) 99 = .ok (.iinc 4 1, 3) := by decide +kernel
theorem dX3_prepare_102 : decode (z_c zX3_prepare) 102 = .ok (.goto (-51), 3) := by decide +kernel
theorem dX3_prepare_105 : decode (z_c zX3_prepare) 105 = .ok (.return_, 1) := by decide +kernel
theorem dX3_draw_0 : decode (z_c zX3_draw) 0 = .ok (.iload_n 2, 1) := by decide +kernel
theorem dX3_draw_1 : decode (z_c zX3_draw) 1 = .ok (.ldc 61, 2) := by decide +kernel
theorem dX3_draw_3 : decode (z_c zX3_draw) 3 = .ok (.iand, 1) := by decide +kernel
theorem dX3_draw_4 : decode (z_c zX3_draw) 4 = .ok (.istore_n 3, 1) := by decide +kernel
theorem dX3_draw_5 : decode (z_c zX3_draw) 5 = .ok (.iconst 0, 1) := by decide +kernel
theorem dX3_draw_6 : decode (z_c zX3_draw) 6 = .ok (.istore 4, 2) := by decide +kernel
theorem dX3_draw_8 : decode (z_c zX3_draw) 8 = .ok (.iload 4, 2) := by decide +kernel
theorem dX3_draw_10 : decode (z_c zX3_draw) 10 = .ok (.iload_n 1, 1) := by decide +kernel
theorem dX3_draw_11 : decode (z_c zX3_draw) 11 = .ok (.if_icmp .ge 91, 3) := by decide +kernel
theorem dX3_draw_14 : decode (z_c zX3_draw) 14 = .ok (.ldc 62, 2) := by decide +kernel
theorem dX3_draw_16 : decode (z_c zX3_draw) 16 = .ok (.iload_n 3, 1) := by decide +kernel
theorem dX3_draw_17 : decode (z_c zX3_draw) 17 = .ok (.imul, 1) := by decide +kernel
theorem dX3_draw_18 : decode (z_c zX3_draw) 18 = .ok (.sipush 12345, 3) := by decide +kernel
theorem dX3_draw_21 : decode (z_c zX3_draw) 21 = .ok (.iadd, 1) := by decide +kernel
theorem dX3_draw_22 : decode (z_c zX3_draw) 22 = .ok (.ldc 61, 2) := by decide +kernel
theorem dX3_draw_24 : decode (z_c zX3_draw) 24 = .ok (.iand, 1) := by decide +kernel
theorem dX3_draw_25 : decode (z_c zX3_draw) 25 = .ok (.istore_n 3, 1) := by decide +kernel
theorem dX3_draw_26 : decode (z_c zX3_draw) 26 = .ok (.aload_n 0, 1) := by decide +kernel
theorem dX3_draw_27 : decode (z_c zX3_draw) 27 = .ok (.getfield 21, 3) := by decide +kernel
theorem dX3_draw_30 : decode (z_c zX3_draw) 30 = .ok (.invokevirtual 63, 3) := by decide +kernel
theorem dX3_draw_33 : decode (z_c zX3_draw) 33 = .ok (.istore 5, 2) := by decide +kernel
theorem dX3_draw_35 : decode (z_c zX3_draw) 35 = .ok (.iload 5, 2) := by decide +kernel
theorem dX3_draw_37 : decode (z_c zX3_draw) 37 = .ok (.ifCond .le 30, 3) := by decide +kernel
theorem dX3_draw_40 : decode (z_c zX3_draw) 40 = .ok (.aload_n 0, 1) := by decide +kernel
theorem dX3_draw_41 : decode (z_c zX3_draw) 41 = .ok (.getfield 21, 3) := by decide +kernel
theorem dX3_draw_44 : decode (z_c zX3_draw) 44 = .ok (.iload_n 3, 1) := by decide +kernel
theorem dX3_draw_45 : decode (z_c zX3_draw) 45 = .ok (.bipush 16, 2) := by decide +kernel
theorem dX3_draw_47 : decode (z_c zX3_draw) 47 = .ok (.iushr, 1) := by decide +kernel
theorem dX3_draw_48 : decode (z_c zX3_draw) 48 = .ok (.iload 5, 2) := by decide +kernel
theorem dX3_draw_50 : decode (z_c zX3_draw) 50 = .ok (.irem, 1) := by decide +kernel
theorem dX3_draw_51 : decode (z_c zX3_draw) 51 = .ok (.aload_n 0, 1) := by decide +kernel
theorem dX3_draw_52 : decode (z_c zX3_draw) 52 = .ok (.getfield 12, 3) := by decide +kernel
theorem dX3_draw_55 : decode (z_c zX3_draw) 55 = .ok (.getfield 48, 3) := by decide +kernel
theorem dX3_draw_58 : decode (z_c zX3_draw) 58 = .ok (.getfield 67, 3) := by decide +kernel
theorem dX3_draw_61 : decode (z_c zX3_draw) 61 = .ok (.invokevirtual 70, 3) := by decide +kernel
theorem dX3_draw_64 : decode (z_c zX3_draw) 64 = .ok (.goto 4, 3) := by decide +kernel
theorem dX3_draw_67 : decode (z_c zX3_draw) 67 = .ok (.iconst (-1), 1) := by decide +kernel
theorem dX3_draw_68 : decode (z_c zX3_draw) 68 = .ok (.istore 6, 2) := by decide +kernel
theorem dX3_draw_70 : decode (z_c zX3_draw) 70 = .ok (.iload 6, 2) := by decide +kernel
theorem dX3_draw_72 : decode (z_c zX3_draw) 72 = .ok (.ifCond .lt 24, 3) := by decide +kernel
theorem dX3_draw_75 : decode (z_c zX3_draw) 75 = .ok (.aload_n 0, 1) := by decide +kernel
theorem dX3_draw_76 : decode (z_c zX3_draw) 76 = .ok (.getfield 12, 3) := by decide +kernel
theorem dX3_draw_79 : decode (z_c zX3_draw) 79 = .ok (.getfield 74, 3) := by decide +kernel
theorem dX3_draw_82 : decode (z_c zX3_draw) 82 = .ok (.iload 6, 2) := by decide +kernel
theorem dX3_draw_84 : decode (z_c zX3_draw) 84 = .ok (.invokevirtual 77, 3) := by decide +kernel
theorem dX3_draw_87 : decode (z_c zX3_draw) 87 = .ok (.aload_n 0, 1) := by decide +kernel
theorem dX3_draw_88 : decode (z_c zX3_draw) 88 = .ok (.getfield 21, 3) := by decide +kernel
theorem dX3_draw_91 : decode (z_c zX3_draw) 91 = .ok (.iload 6, 2) := by decide +kernel
theorem dX3_draw_93 : decode (z_c zX3_draw) 93 = .ok (.invokevirtual 44, 3) := by decide +kernel
theorem dX3_draw_96 : decode (z_c zX3_draw) 96 = .ok (.iinc 4 1, 3) := by decide +kernel
theorem dX3_draw_99 : decode (z_c zX3_draw) 99 = .ok (.goto (-91), 3) := by decide +kernel
theorem dX3_draw_102 : decode (z_c zX3_draw) 102 = .ok (.return_, 1) := by decide +kernel
theorem dX3_mendToClear_0 : decode (z_c zX3_mendToClear) 0 = .ok (.aload_n 0, 1) := by decide +kernel
theorem dX3_mendToClear_1 : decode (z_c zX3_mendToClear) 1 = .ok (.iconst 0, 1) := by decide +kernel
theorem dX3_mendToClear_2 : decode (z_c zX3_mendToClear) 2 = .ok (.putfield 80, 3) := by decide +kernel
theorem dX3_mendToClear_5 : decode (z_c zX3_mendToClear) 5 = .ok (.iconst 0, 1) := by decide +kernel
theorem dX3_mendToClear_6 : decode (z_c zX3_mendToClear) 6 = .ok (.istore_n 2, 1) := by decide +kernel
theorem dX3_mendToClear_7 : decode (z_c zX3_mendToClear) 7 = .ok (.iload_n 2, 1) := by decide +kernel
theorem dX3_mendToClear_8 : decode (z_c zX3_mendToClear) 8 = .ok (.bipush 40, 2) := by decide +kernel
theorem dX3_mendToClear_10 : decode (z_c zX3_mendToClear) 10 = .ok (.if_icmp .gt 44, 3) := by decide +kernel
theorem dX3_mendToClear_13 : decode (z_c zX3_mendToClear) 13 = .ok (.aload_n 0, 1) := by decide +kernel
theorem dX3_mendToClear_14 : decode (z_c zX3_mendToClear) 14 = .ok (.iload_n 1, 1) := by decide +kernel
theorem dX3_mendToClear_15 : decode (z_c zX3_mendToClear) 15 = .ok (.invokevirtual 83, 3) := by decide +kernel
theorem dX3_mendToClear_18 : decode (z_c zX3_mendToClear) 18 = .ok (.ifCond .eq 5, 3) := by decide +kernel
theorem dX3_mendToClear_21 : decode (z_c zX3_mendToClear) 21 = .ok (.iconst 1, 1) := by decide +kernel
theorem dX3_mendToClear_22 : decode (z_c zX3_mendToClear) 22 = .ok (.ireturn, 1) := by decide +kernel
theorem dX3_mendToClear_23 : decode (z_c zX3_mendToClear) 23 = .ok (.iload_n 2, 1) := by decide +kernel
theorem dX3_mendToClear_24 : decode (z_c zX3_mendToClear) 24 = .ok (.bipush 40, 2) := by decide +kernel
theorem dX3_mendToClear_26 : decode (z_c zX3_mendToClear) 26 = .ok (.if_icmp .eq 10, 3) := by decide +kernel
theorem dX3_mendToClear_29 : decode (z_c zX3_mendToClear) 29 = .ok (.aload_n 0, 1) := by decide +kernel
theorem dX3_mendToClear_30 : decode (z_c zX3_mendToClear) 30 = .ok (.invokevirtual 87, 3) := by decide +kernel
theorem dX3_mendToClear_33 : decode (z_c zX3_mendToClear) 33 = .ok (.ifCond .ne 5, 3) := by decide +kernel
theorem dX3_mendToClear_36 : decode (z_c zX3_mendToClear) 36 = .ok (.iconst 0, 1) := by decide +kernel
theorem dX3_mendToClear_37 : decode (z_c zX3_mendToClear) 37 = .ok (.ireturn, 1) := by decide +kernel
theorem dX3_mendToClear_38 : decode (z_c zX3_mendToClear) 38 = .ok (.aload_n 0, 1) := by decide +kernel
theorem dX3_mendToClear_39 : decode (z_c zX3_mendToClear) 39 = .ok (.dup, 1) := by decide +kernel
theorem dX3_mendToClear_40 : decode (z_c zX3_mendToClear) 40 = .ok (.getfield 80, 3) := by decide +kernel
theorem dX3_mendToClear_43 : decode (z_c zX3_mendToClear) 43 = .ok (.iconst 1, 1) := by decide +kernel
theorem dX3_mendToClear_44 : decode (z_c zX3_mendToClear) 44 = .ok (.iadd, 1) := by decide +kernel
theorem dX3_mendToClear_45 : decode (z_c zX3_mendToClear) 45 = .ok (.putfield 80, 3) := by decide +kernel
theorem dX3_mendToClear_48 : decode (z_c zX3_mendToClear) 48 = .ok (.iinc 2 1, 3) := by decide +kernel
theorem dX3_mendToClear_51 : decode (z_c zX3_mendToClear) 51 = .ok (.goto (-44), 3) := by decide +kernel
theorem dX3_mendToClear_54 : decode (z_c zX3_mendToClear) 54 = .ok (.iconst 0, 1) := by decide +kernel
theorem dX3_mendToClear_55 : decode (z_c zX3_mendToClear) 55 = .ok (.ireturn, 1) := by decide +kernel
theorem dX3_play_0 : decode (z_c zX3_play) 0 = .ok (.aload_n 0, 1) := by decide +kernel
theorem dX3_play_1 : decode (z_c zX3_play) 1 = .ok (.getfield 12, 3) := by decide +kernel
theorem dX3_play_4 : decode (z_c zX3_play) 4 = .ok (.invokevirtual 91, 3) := by decide +kernel
theorem dX3_play_7 : decode (z_c zX3_play) 7 = .ok (.aload_n 0, 1) := by decide +kernel
theorem dX3_play_8 : decode (z_c zX3_play) 8 = .ok (.getfield 12, 3) := by decide +kernel
theorem dX3_play_11 : decode (z_c zX3_play) 11 = .ok (.aload_n 0, 1) := by decide +kernel
theorem dX3_play_12 : decode (z_c zX3_play) 12 = .ok (.getfield 33, 3) := by decide +kernel
theorem dX3_play_15 : decode (z_c zX3_play) 15 = .ok (.invokevirtual 94, 3) := by decide +kernel
theorem dX3_play_18 : decode (z_c zX3_play) 18 = .ok (.aload_n 0, 1) := by decide +kernel
theorem dX3_play_19 : decode (z_c zX3_play) 19 = .ok (.getfield 25, 3) := by decide +kernel
theorem dX3_play_22 : decode (z_c zX3_play) 22 = .ok (.aload_n 0, 1) := by decide +kernel
theorem dX3_play_23 : decode (z_c zX3_play) 23 = .ok (.getfield 12, 3) := by decide +kernel
theorem dX3_play_26 : decode (z_c zX3_play) 26 = .ok (.invokevirtual 97, 3) := by decide +kernel
theorem dX3_play_29 : decode (z_c zX3_play) 29 = .ok (.iconst 0, 1) := by decide +kernel
theorem dX3_play_30 : decode (z_c zX3_play) 30 = .ok (.istore_n 2, 1) := by decide +kernel
theorem dX3_play_31 : decode (z_c zX3_play) 31 = .ok (.iload_n 2, 1) := by decide +kernel
theorem dX3_play_32 : decode (z_c zX3_play) 32 = .ok (.sipush 20000, 3) := by decide +kernel
theorem dX3_play_35 : decode (z_c zX3_play) 35 = .ok (.if_icmp .ge 81, 3) := by decide +kernel
theorem dX3_play_38 : decode (z_c zX3_play) 38 = .ok (.aload_n 0, 1) := by decide +kernel
theorem dX3_play_39 : decode (z_c zX3_play) 39 = .ok (.getfield 12, 3) := by decide +kernel
theorem dX3_play_42 : decode (z_c zX3_play) 42 = .ok (.invokevirtual 103, 3) := by decide +kernel
theorem dX3_play_45 : decode (z_c zX3_play) 45 = .ok (.ifCond .ne 71, 3) := by decide +kernel
theorem dX3_play_48 : decode (z_c zX3_play) 48 = .ok (.aload_n 0, 1) := by decide +kernel
theorem dX3_play_49 : decode (z_c zX3_play) 49 = .ok (.getfield 25, 3) := by decide +kernel
theorem dX3_play_52 : decode (z_c zX3_play) 52 = .ok (.iload_n 1, 1) := by decide +kernel
theorem dX3_play_53 : decode (z_c zX3_play) 53 = .ok (.invokevirtual 106, 3) := by decide +kernel
theorem dX3_play_56 : decode (z_c zX3_play) 56 = .ok (.ifCond .ne 5, 3) := by decide +kernel
theorem dX3_play_59 : decode (z_c zX3_play) 59 = .ok (.iconst 0, 1) := by decide +kernel
theorem dX3_play_60 : decode (z_c zX3_play) 60 = .ok (.ireturn, 1) := by decide +kernel
theorem dX3_play_61 : decode (z_c zX3_play) 61 = .ok (.aload_n 0, 1) := by decide +kernel
theorem dX3_play_62 : decode (z_c zX3_play) 62 = .ok (.getfield 25, 3) := by decide +kernel
theorem dX3_play_65 : decode (z_c zX3_play) 65 = .ok (.getfield 109, 3) := by decide +kernel
theorem dX3_play_68 : decode (z_c zX3_play) 68 = .ok (.ifCond .eq 13, 3) := by decide +kernel
theorem dX3_play_71 : decode (z_c zX3_play) 71 = .ok (.aload_n 0, 1) := by decide +kernel
theorem dX3_play_72 : decode (z_c zX3_play) 72 = .ok (.getfield 25, 3) := by decide +kernel
theorem dX3_play_75 : decode (z_c zX3_play) 75 = .ok (.invokevirtual 113, 3) := by decide +kernel
theorem dX3_play_78 : decode (z_c zX3_play) 78 = .ok (.goto 32, 3) := by decide +kernel
theorem dX3_play_81 : decode (z_c zX3_play) 81 = .ok (.aload_n 0, 1) := by decide +kernel
theorem dX3_play_82 : decode (z_c zX3_play) 82 = .ok (.getfield 25, 3) := by decide +kernel
theorem dX3_play_85 : decode (z_c zX3_play) 85 = .ok (.invokevirtual 116, 3) := by decide +kernel
theorem dX3_play_88 : decode (z_c zX3_play) 88 = .ok (.istore_n 3, 1) := by decide +kernel
theorem dX3_play_89 : decode (z_c zX3_play) 89 = .ok (.iload_n 3, 1) := by decide +kernel
theorem dX3_play_90 : decode (z_c zX3_play) 90 = .ok (.ifCond .ge 5, 3) := by decide +kernel
theorem dX3_play_93 : decode (z_c zX3_play) 93 = .ok (.iconst 0, 1) := by decide +kernel
theorem dX3_play_94 : decode (z_c zX3_play) 94 = .ok (.ireturn, 1) := by decide +kernel
theorem dX3_play_95 : decode (z_c zX3_play) 95 = .ok (.aload_n 0, 1) := by decide +kernel
theorem dX3_play_96 : decode (z_c zX3_play) 96 = .ok (.getfield 12, 3) := by decide +kernel
theorem dX3_play_99 : decode (z_c zX3_play) 99 = .ok (.iload_n 3, 1) := by decide +kernel
theorem dX3_play_100 : decode (z_c zX3_play) 100 = .ok (.invokevirtual 94, 3) := by decide +kernel
theorem dX3_play_103 : decode (z_c zX3_play) 103 = .ok (.aload_n 0, 1) := by decide +kernel
theorem dX3_play_104 : decode (z_c zX3_play) 104 = .ok (.getfield 25, 3) := by decide +kernel
theorem dX3_play_107 : decode (z_c zX3_play) 107 = .ok (.invokevirtual 119, 3) := by decide +kernel
theorem dX3_play_110 : decode (z_c zX3_play) 110 = .ok (.iinc 2 1, 3) := by decide +kernel
theorem dX3_play_113 : decode (z_c zX3_play) 113 = .ok (.goto (-82), 3) := by decide +kernel
theorem dX3_play_116 : decode (z_c zX3_play) 116 = .ok (.aload_n 0, 1) := by decide +kernel
theorem dX3_play_117 : decode (z_c zX3_play) 117 = .ok (.getfield 12, 3) := by decide +kernel
theorem dX3_play_120 : decode (z_c zX3_play) 120 = .ok (.invokevirtual 103, 3) := by decide +kernel
theorem dX3_play_123 : decode (z_c zX3_play) 123 = .ok (.ireturn, 1) := by decide +kernel
theorem dX3_mend_0 : decode (z_c zX3_mend) 0 = .ok (.iconst (-1), 1) := by decide +kernel
theorem dX3_mend_1 : decode (z_c zX3_mend) 1 = .ok (.istore_n 1, 1) := by decide +kernel
theorem dX3_mend_2 : decode (z_c zX3_mend) 2 = .ok (.iconst (-1), 1) := by decide +kernel
theorem dX3_mend_3 : decode (z_c zX3_mend) 3 = .ok (.istore_n 2, 1) := by decide +kernel
theorem dX3_mend_4 : decode (z_c zX3_mend) 4 = .ok (.aload_n 0, 1) := by decide +kernel
theorem dX3_mend_5 : decode (z_c zX3_mend) 5 = .ok (.getfield 12, 3) := by decide +kernel
theorem dX3_mend_8 : decode (z_c zX3_mend) 8 = .ok (.getfield 48, 3) := by decide +kernel
theorem dX3_mend_11 : decode (z_c zX3_mend) 11 = .ok (.getfield 67, 3) := by decide +kernel
theorem dX3_mend_14 : decode (z_c zX3_mend) 14 = .ok (.iconst 1, 1) := by decide +kernel
theorem dX3_mend_15 : decode (z_c zX3_mend) 15 = .ok (.isub, 1) := by decide +kernel
theorem dX3_mend_16 : decode (z_c zX3_mend) 16 = .ok (.istore_n 3, 1) := by decide +kernel
theorem dX3_mend_17 : decode (z_c zX3_mend) 17 = .ok (.iload_n 3, 1) := by decide +kernel
theorem dX3_mend_18 : decode (z_c zX3_mend) 18 = .ok (.ifCond .lt 88, 3) := by decide +kernel
theorem dX3_mend_21 : decode (z_c zX3_mend) 21 = .ok (.aload_n 0, 1) := by decide +kernel
theorem dX3_mend_22 : decode (z_c zX3_mend) 22 = .ok (.getfield 12, 3) := by decide +kernel
theorem dX3_mend_25 : decode (z_c zX3_mend) 25 = .ok (.getfield 122, 3) := by decide +kernel
theorem dX3_mend_28 : decode (z_c zX3_mend) 28 = .ok (.iload_n 3, 1) := by decide +kernel
theorem dX3_mend_29 : decode (z_c zX3_mend) 29 = .ok (.invokevirtual 125, 3) := by decide +kernel
theorem dX3_mend_32 : decode (z_c zX3_mend) 32 = .ok (.ifCond .eq 68, 3) := by decide +kernel
theorem dX3_mend_35 : decode (z_c zX3_mend) 35 = .ok (.aload_n 0, 1) := by decide +kernel
theorem dX3_mend_36 : decode (z_c zX3_mend) 36 = .ok (.getfield 12, 3) := by decide +kernel
theorem dX3_mend_39 : decode (z_c zX3_mend) 39 = .ok (.getfield 48, 3) := by decide +kernel
theorem dX3_mend_42 : decode (z_c zX3_mend) 42 = .ok (.iload_n 3, 1) := by decide +kernel
theorem dX3_mend_43 : decode (z_c zX3_mend) 43 = .ok (.aload_n 0, 1) := by decide +kernel
theorem dX3_mend_44 : decode (z_c zX3_mend) 44 = .ok (.getfield 12, 3) := by decide +kernel
theorem dX3_mend_47 : decode (z_c zX3_mend) 47 = .ok (.getfield 128, 3) := by decide +kernel
theorem dX3_mend_50 : decode (z_c zX3_mend) 50 = .ok (.invokevirtual 131, 3) := by decide +kernel
theorem dX3_mend_53 : decode (z_c zX3_mend) 53 = .ok (.istore 4, 2) := by decide +kernel
theorem dX3_mend_55 : decode (z_c zX3_mend) 55 = .ok (.aload_n 0, 1) := by decide +kernel
theorem dX3_mend_56 : decode (z_c zX3_mend) 56 = .ok (.getfield 12, 3) := by decide +kernel
theorem dX3_mend_59 : decode (z_c zX3_mend) 59 = .ok (.getfield 74, 3) := by decide +kernel
theorem dX3_mend_62 : decode (z_c zX3_mend) 62 = .ok (.iload_n 3, 1) := by decide +kernel
theorem dX3_mend_63 : decode (z_c zX3_mend) 63 = .ok (.invokevirtual 125, 3) := by decide +kernel
theorem dX3_mend_66 : decode (z_c zX3_mend) 66 = .ok (.istore 5, 2) := by decide +kernel
theorem dX3_mend_68 : decode (z_c zX3_mend) 68 = .ok (.iload 5, 2) := by decide +kernel
theorem dX3_mend_70 : decode (z_c zX3_mend) 70 = .ok (.ifCond .eq 12, 3) := by decide +kernel
theorem dX3_mend_73 : decode (z_c zX3_mend) 73 = .ok (.iload 4, 2) := by decide +kernel
theorem dX3_mend_75 : decode (z_c zX3_mend) 75 = .ok (.ifCond .eq 7, 3) := by decide +kernel
theorem dX3_mend_78 : decode (z_c zX3_mend) 78 = .ok (.iload_n 3, 1) := by decide +kernel
theorem dX3_mend_79 : decode (z_c zX3_mend) 79 = .ok (.goto 4, 3) := by decide +kernel
theorem dX3_mend_82 : decode (z_c zX3_mend) 82 = .ok (.iload_n 1, 1) := by decide +kernel
theorem dX3_mend_83 : decode (z_c zX3_mend) 83 = .ok (.istore_n 1, 1) := by decide +kernel
theorem dX3_mend_84 : decode (z_c zX3_mend) 84 = .ok (.iload 5, 2) := by decide +kernel
theorem dX3_mend_86 : decode (z_c zX3_mend) 86 = .ok (.ifCond .ne 12, 3) := by decide +kernel
theorem dX3_mend_89 : decode (z_c zX3_mend) 89 = .ok (.iload 4, 2) := by decide +kernel
theorem dX3_mend_91 : decode (z_c zX3_mend) 91 = .ok (.ifCond .ne 7, 3) := by decide +kernel
theorem dX3_mend_94 : decode (z_c zX3_mend) 94 = .ok (.iload_n 3, 1) := by decide +kernel
theorem dX3_mend_95 : decode (z_c zX3_mend) 95 = .ok (.goto 4, 3) := by decide +kernel
theorem dX3_mend_98 : decode (z_c zX3_mend) 98 = .ok (.iload_n 2, 1) := by decide +kernel
theorem dX3_mend_99 : decode (z_c zX3_mend) 99 = .ok (.istore_n 2, 1) := by decide +kernel
theorem dX3_mend_100 : decode (z_c zX3_mend) 100 = .ok (.iinc 3 (-1), 3) := by decide +kernel
theorem dX3_mend_103 : decode (z_c zX3_mend) 103 = .ok (.goto (-86), 3) := by decide +kernel
theorem dX3_mend_106 : decode (z_c zX3_mend) 106 = .ok (.iload_n 1, 1) := by decide +kernel
theorem dX3_mend_107 : decode (z_c zX3_mend) 107 = .ok (.ifCond .lt 7, 3) := by decide +kernel
theorem dX3_mend_110 : decode (z_c zX3_mend) 110 = .ok (.iload_n 2, 1) := by decide +kernel
theorem dX3_mend_111 : decode (z_c zX3_mend) 111 = .ok (.ifCond .ge 5, 3) := by decide +kernel
theorem dX3_mend_114 : decode (z_c zX3_mend) 114 = .ok (.iconst 0, 1) := by decide +kernel
theorem dX3_mend_115 : decode (z_c zX3_mend) 115 = .ok (.ireturn, 1) := by decide +kernel
theorem dX3_mend_116 : decode (z_c zX3_mend) 116 = .ok (.aload_n 0, 1) := by decide +kernel
theorem dX3_mend_117 : decode (z_c zX3_mend) 117 = .ok (.getfield 12, 3) := by decide +kernel
theorem dX3_mend_120 : decode (z_c zX3_mend) 120 = .ok (.getfield 74, 3) := by decide +kernel
theorem dX3_mend_123 : decode (z_c zX3_mend) 123 = .ok (.iload_n 1, 1) := by decide +kernel
theorem dX3_mend_124 : decode (z_c zX3_mend) 124 = .ok (.invokevirtual 44, 3) := by decide +kernel
theorem dX3_mend_127 : decode (z_c zX3_mend) 127 = .ok (.aload_n 0, 1) := by decide +kernel
theorem dX3_mend_128 : decode (z_c zX3_mend) 128 = .ok (.getfield 12, 3) := by decide +kernel
theorem dX3_mend_131 : decode (z_c zX3_mend) 131 = .ok (.getfield 74, 3) := by decide +kernel
theorem dX3_mend_134 : decode (z_c zX3_mend) 134 = .ok (.iload_n 2, 1) := by decide +kernel
theorem dX3_mend_135 : decode (z_c zX3_mend) 135 = .ok (.invokevirtual 77, 3) := by decide +kernel
theorem dX3_mend_138 : decode (z_c zX3_mend) 138 = .ok (.iconst 1, 1) := by decide +kernel
theorem dX3_mend_139 : decode (z_c zX3_mend) 139 = .ok (.ireturn, 1) := by decide +kernel
theorem dX4_keep_0 : decode (z_c zX4_keep) 0 = .ok (.aload_n 0, 1) := by decide +kernel
theorem dX4_keep_1 : decode (z_c zX4_keep) 1 = .ok (.getfield 15, 3) := by decide +kernel
theorem dX4_keep_4 : decode (z_c zX4_keep) 4 = .ok (.sipush 200, 3) := by decide +kernel
theorem dX4_keep_7 : decode (z_c zX4_keep) 7 = .ok (.if_icmp .lt 4, 3) := by decide +kernel
theorem dX4_keep_10 : decode (z_c zX4_keep) 10 = .ok (.return_, 1) := by decide +kernel
theorem dX4_keep_11 : decode (z_c zX4_keep) 11 = .ok (.aload_n 0, 1) := by decide +kernel
theorem dX4_keep_12 : decode (z_c zX4_keep) 12 = .ok (.getfield 15, 3) := by decide +kernel
theorem dX4_keep_15 : decode (z_c zX4_keep) 15 = .ok (.bipush 6, 2) := by decide +kernel
theorem dX4_keep_17 : decode (z_c zX4_keep) 17 = .ok (.imul, 1) := by decide +kernel
theorem dX4_keep_18 : decode (z_c zX4_keep) 18 = .ok (.istore_n 2, 1) := by decide +kernel
theorem dX4_keep_19 : decode (z_c zX4_keep) 19 = .ok (.aload_n 0, 1) := by decide +kernel
theorem dX4_keep_20 : decode (z_c zX4_keep) 20 = .ok (.getfield 11, 3) := by decide +kernel
theorem dX4_keep_23 : decode (z_c zX4_keep) 23 = .ok (.iload_n 2, 1) := by decide +kernel
theorem dX4_keep_24 : decode (z_c zX4_keep) 24 = .ok (.aload_n 1, 1) := by decide +kernel
theorem dX4_keep_25 : decode (z_c zX4_keep) 25 = .ok (.getfield 19, 3) := by decide +kernel
theorem dX4_keep_28 : decode (z_c zX4_keep) 28 = .ok (.getfield 25, 3) := by decide +kernel
theorem dX4_keep_31 : decode (z_c zX4_keep) 31 = .ok (.lastore, 1) := by decide +kernel
theorem dX4_keep_32 : decode (z_c zX4_keep) 32 = .ok (.aload_n 0, 1) := by decide +kernel
theorem dX4_keep_33 : decode (z_c zX4_keep) 33 = .ok (.getfield 11, 3) := by decide +kernel
theorem dX4_keep_36 : decode (z_c zX4_keep) 36 = .ok (.iload_n 2, 1) := by decide +kernel
theorem dX4_keep_37 : decode (z_c zX4_keep) 37 = .ok (.iconst 1, 1) := by decide +kernel
theorem dX4_keep_38 : decode (z_c zX4_keep) 38 = .ok (.iadd, 1) := by decide +kernel
theorem dX4_keep_39 : decode (z_c zX4_keep) 39 = .ok (.aload_n 1, 1) := by decide +kernel
theorem dX4_keep_40 : decode (z_c zX4_keep) 40 = .ok (.getfield 19, 3) := by decide +kernel
theorem dX4_keep_43 : decode (z_c zX4_keep) 43 = .ok (.getfield 31, 3) := by decide +kernel
theorem dX4_keep_46 : decode (z_c zX4_keep) 46 = .ok (.lastore, 1) := by decide +kernel
theorem dX4_keep_47 : decode (z_c zX4_keep) 47 = .ok (.aload_n 0, 1) := by decide +kernel
theorem dX4_keep_48 : decode (z_c zX4_keep) 48 = .ok (.getfield 11, 3) := by decide +kernel
theorem dX4_keep_51 : decode (z_c zX4_keep) 51 = .ok (.iload_n 2, 1) := by decide +kernel
theorem dX4_keep_52 : decode (z_c zX4_keep) 52 = .ok (.iconst 2, 1) := by decide +kernel
theorem dX4_keep_53 : decode (z_c zX4_keep) 53 = .ok (.iadd, 1) := by decide +kernel
theorem dX4_keep_54 : decode (z_c zX4_keep) 54 = .ok (.aload_n 1, 1) := by decide +kernel
theorem dX4_keep_55 : decode (z_c zX4_keep) 55 = .ok (.getfield 34, 3) := by decide +kernel
theorem dX4_keep_58 : decode (z_c zX4_keep) 58 = .ok (.getfield 25, 3) := by decide +kernel
theorem dX4_keep_61 : decode (z_c zX4_keep) 61 = .ok (.lastore, 1) := by decide +kernel
theorem dX4_keep_62 : decode (z_c zX4_keep) 62 = .ok (.aload_n 0, 1) := by decide +kernel
theorem dX4_keep_63 : decode (z_c zX4_keep) 63 = .ok (.getfield 11, 3) := by decide +kernel
theorem dX4_keep_66 : decode (z_c zX4_keep) 66 = .ok (.iload_n 2, 1) := by decide +kernel
theorem dX4_keep_67 : decode (z_c zX4_keep) 67 = .ok (.iconst 3, 1) := by decide +kernel
theorem dX4_keep_68 : decode (z_c zX4_keep) 68 = .ok (.iadd, 1) := by decide +kernel
theorem dX4_keep_69 : decode (z_c zX4_keep) 69 = .ok (.aload_n 1, 1) := by decide +kernel
theorem dX4_keep_70 : decode (z_c zX4_keep) 70 = .ok (.getfield 34, 3) := by decide +kernel
theorem dX4_keep_73 : decode (z_c zX4_keep) 73 = .ok (.getfield 31, 3) := by decide +kernel
theorem dX4_keep_76 : decode (z_c zX4_keep) 76 = .ok (.lastore, 1) := by decide +kernel
theorem dX4_keep_77 : decode (z_c zX4_keep) 77 = .ok (.aload_n 0, 1) := by decide +kernel
theorem dX4_keep_78 : decode (z_c zX4_keep) 78 = .ok (.getfield 11, 3) := by decide +kernel
theorem dX4_keep_81 : decode (z_c zX4_keep) 81 = .ok (.iload_n 2, 1) := by decide +kernel
theorem dX4_keep_82 : decode (z_c zX4_keep) 82 = .ok (.iconst 4, 1) := by decide +kernel
theorem dX4_keep_83 : decode (z_c zX4_keep) 83 = .ok (.iadd, 1) := by decide +kernel
theorem dX4_keep_84 : decode (z_c zX4_keep) 84 = .ok (.aload_n 1, 1) := by decide +kernel
theorem dX4_keep_85 : decode (z_c zX4_keep) 85 = .ok (.getfield 37, 3) := by decide +kernel
theorem dX4_keep_88 : decode (z_c zX4_keep) 88 = .ok (.getfield 25, 3) := by decide +kernel
theorem dX4_keep_91 : decode (z_c zX4_keep) 91 = .ok (.lastore, 1) := by decide +kernel
theorem dX4_keep_92 : decode (z_c zX4_keep) 92 = .ok (.aload_n 0, 1) := by decide +kernel
theorem dX4_keep_93 : decode (z_c zX4_keep) 93 = .ok (.getfield 11, 3) := by decide +kernel
theorem dX4_keep_96 : decode (z_c zX4_keep) 96 = .ok (.iload_n 2, 1) := by decide +kernel
theorem dX4_keep_97 : decode (z_c zX4_keep) 97 = .ok (.iconst 5, 1) := by decide +kernel
theorem dX4_keep_98 : decode (z_c zX4_keep) 98 = .ok (.iadd, 1) := by decide +kernel
theorem dX4_keep_99 : decode (z_c zX4_keep) 99 = .ok (.aload_n 1, 1) := by decide +kernel
theorem dX4_keep_100 : decode (z_c zX4_keep) 100 = .ok (.getfield 37, 3) := by decide +kernel
theorem dX4_keep_103 : decode (z_c zX4_keep) 103 = .ok (.getfield 31, 3) := by decide +kernel
theorem dX4_keep_106 : decode (z_c zX4_keep) 106 = .ok (.lastore, 1) := by decide +kernel
theorem dX4_keep_107 : decode (z_c zX4_keep) 107 = .ok (.aload_n 0, 1) := by decide +kernel
theorem dX4_keep_108 : decode (z_c zX4_keep) 108 = .ok (.dup, 1) := by decide +kernel
theorem dX4_keep_109 : decode (z_c zX4_keep) 109 = .ok (.getfield 15, 3) := by decide +kernel
theorem dX4_keep_112 : decode (z_c zX4_keep) 112 = .ok (.iconst 1, 1) := by decide +kernel
theorem dX4_keep_113 : decode (z_c zX4_keep) 113 = .ok (.iadd, 1) := by decide +kernel
theorem dX4_keep_114 : decode (z_c zX4_keep) 114 = .ok (.putfield 15, 3) := by decide +kernel
theorem dX4_keep_117 : decode (z_c zX4_keep) 117 = .ok (.return_, 1) := by decide +kernel
theorem dX4_takeBack_0 : decode (z_c zX4_takeBack) 0 = .ok (.aload_n 0, 1) := by decide +kernel
theorem dX4_takeBack_1 : decode (z_c zX4_takeBack) 1 = .ok (.getfield 15, 3) := by decide +kernel
theorem dX4_takeBack_4 : decode (z_c zX4_takeBack) 4 = .ok (.ifCond .gt 5, 3) := by decide +kernel
theorem dX4_takeBack_7 : decode (z_c zX4_takeBack) 7 = .ok (.iconst 0, 1) := by decide +kernel
theorem dX4_takeBack_8 : decode (z_c zX4_takeBack) 8 = .ok (.ireturn, 1) := by decide +kernel
theorem dX4_takeBack_9 : decode (z_c zX4_takeBack) 9 = .ok (.aload_n 0, 1) := by decide +kernel
theorem dX4_takeBack_10 : decode (z_c zX4_takeBack) 10 = .ok (.dup, 1) := by decide +kernel
theorem dX4_takeBack_11 : decode (z_c zX4_takeBack) 11 = .ok (.getfield 15, 3) := by decide +kernel
theorem dX4_takeBack_14 : decode (z_c zX4_takeBack) 14 = .ok (.iconst 1, 1) := by decide +kernel
theorem dX4_takeBack_15 : decode (z_c zX4_takeBack) 15 = .ok (.isub, 1) := by decide +kernel
theorem dX4_takeBack_16 : decode (z_c zX4_takeBack) 16 = .ok (.putfield 15, 3) := by decide +kernel
theorem dX4_takeBack_19 : decode (z_c zX4_takeBack) 19 = .ok (.aload_n 0, 1) := by decide +kernel
theorem dX4_takeBack_20 : decode (z_c zX4_takeBack) 20 = .ok (.getfield 15, 3) := by decide +kernel
theorem dX4_takeBack_23 : decode (z_c zX4_takeBack) 23 = .ok (.bipush 6, 2) := by decide +kernel
theorem dX4_takeBack_25 : decode (z_c zX4_takeBack) 25 = .ok (.imul, 1) := by decide +kernel
theorem dX4_takeBack_26 : decode (z_c zX4_takeBack) 26 = .ok (.istore_n 2, 1) := by decide +kernel
theorem dX4_takeBack_27 : decode (z_c zX4_takeBack) 27 = .ok (.aload_n 1, 1) := by decide +kernel
theorem dX4_takeBack_28 : decode (z_c zX4_takeBack) 28 = .ok (.getfield 19, 3) := by decide +kernel
theorem dX4_takeBack_31 : decode (z_c zX4_takeBack) 31 = .ok (.aload_n 0, 1) := by decide +kernel
theorem dX4_takeBack_32 : decode (z_c zX4_takeBack) 32 = .ok (.getfield 11, 3) := by decide +kernel
theorem dX4_takeBack_35 : decode (z_c zX4_takeBack) 35 = .ok (.iload_n 2, 1) := by decide +kernel
theorem dX4_takeBack_36 : decode (z_c zX4_takeBack) 36 = .ok (.laload, 1) := by decide +kernel
theorem dX4_takeBack_37 : decode (z_c zX4_takeBack) 37 = .ok (.putfield 25, 3) := by decide +kernel
theorem dX4_takeBack_40 : decode (z_c zX4_takeBack) 40 = .ok (.aload_n 1, 1) := by decide +kernel
theorem dX4_takeBack_41 : decode (z_c zX4_takeBack) 41 = .ok (.getfield 19, 3) := by decide +kernel
theorem dX4_takeBack_44 : decode (z_c zX4_takeBack) 44 = .ok (.aload_n 0, 1) := by decide +kernel
theorem dX4_takeBack_45 : decode (z_c zX4_takeBack) 45 = .ok (.getfield 11, 3) := by decide +kernel
theorem dX4_takeBack_48 : decode (z_c zX4_takeBack) 48 = .ok (.iload_n 2, 1) := by decide +kernel
theorem dX4_takeBack_49 : decode (z_c zX4_takeBack) 49 = .ok (.iconst 1, 1) := by decide +kernel
theorem dX4_takeBack_50 : decode (z_c zX4_takeBack) 50 = .ok (.iadd, 1) := by decide +kernel
theorem dX4_takeBack_51 : decode (z_c zX4_takeBack) 51 = .ok (.laload, 1) := by decide +kernel
theorem dX4_takeBack_52 : decode (z_c zX4_takeBack) 52 = .ok (.putfield 31, 3) := by decide +kernel
theorem dX4_takeBack_55 : decode (z_c zX4_takeBack) 55 = .ok (.aload_n 1, 1) := by decide +kernel
theorem dX4_takeBack_56 : decode (z_c zX4_takeBack) 56 = .ok (.getfield 34, 3) := by decide +kernel
theorem dX4_takeBack_59 : decode (z_c zX4_takeBack) 59 = .ok (.aload_n 0, 1) := by decide +kernel
theorem dX4_takeBack_60 : decode (z_c zX4_takeBack) 60 = .ok (.getfield 11, 3) := by decide +kernel
theorem dX4_takeBack_63 : decode (z_c zX4_takeBack) 63 = .ok (.iload_n 2, 1) := by decide +kernel
theorem dX4_takeBack_64 : decode (z_c zX4_takeBack) 64 = .ok (.iconst 2, 1) := by decide +kernel
theorem dX4_takeBack_65 : decode (z_c zX4_takeBack) 65 = .ok (.iadd, 1) := by decide +kernel
theorem dX4_takeBack_66 : decode (z_c zX4_takeBack) 66 = .ok (.laload, 1) := by decide +kernel
theorem dX4_takeBack_67 : decode (z_c zX4_takeBack) 67 = .ok (.putfield 25, 3) := by decide +kernel
theorem dX4_takeBack_70 : decode (z_c zX4_takeBack) 70 = .ok (.aload_n 1, 1) := by decide +kernel
theorem dX4_takeBack_71 : decode (z_c zX4_takeBack) 71 = .ok (.getfield 34, 3) := by decide +kernel
theorem dX4_takeBack_74 : decode (z_c zX4_takeBack) 74 = .ok (.aload_n 0, 1) := by decide +kernel
theorem dX4_takeBack_75 : decode (z_c zX4_takeBack) 75 = .ok (.getfield 11, 3) := by decide +kernel
theorem dX4_takeBack_78 : decode (z_c zX4_takeBack) 78 = .ok (.iload_n 2, 1) := by decide +kernel
theorem dX4_takeBack_79 : decode (z_c zX4_takeBack) 79 = .ok (.iconst 3, 1) := by decide +kernel
theorem dX4_takeBack_80 : decode (z_c zX4_takeBack) 80 = .ok (.iadd, 1) := by decide +kernel
theorem dX4_takeBack_81 : decode (z_c zX4_takeBack) 81 = .ok (.laload, 1) := by decide +kernel
theorem dX4_takeBack_82 : decode (z_c zX4_takeBack) 82 = .ok (.putfield 31, 3) := by decide +kernel
theorem dX4_takeBack_85 : decode (z_c zX4_takeBack) 85 = .ok (.aload_n 1, 1) := by decide +kernel
theorem dX4_takeBack_86 : decode (z_c zX4_takeBack) 86 = .ok (.getfield 37, 3) := by decide +kernel
theorem dX4_takeBack_89 : decode (z_c zX4_takeBack) 89 = .ok (.aload_n 0, 1) := by decide +kernel
theorem dX4_takeBack_90 : decode (z_c zX4_takeBack) 90 = .ok (.getfield 11, 3) := by decide +kernel
theorem dX4_takeBack_93 : decode (z_c zX4_takeBack) 93 = .ok (.iload_n 2, 1) := by decide +kernel
theorem dX4_takeBack_94 : decode (z_c zX4_takeBack) 94 = .ok (.iconst 4, 1) := by decide +kernel
theorem dX4_takeBack_95 : decode (z_c zX4_takeBack) 95 = .ok (.iadd, 1) := by decide +kernel
theorem dX4_takeBack_96 : decode (z_c zX4_takeBack) 96 = .ok (.laload, 1) := by decide +kernel
theorem dX4_takeBack_97 : decode (z_c zX4_takeBack) 97 = .ok (.putfield 25, 3) := by decide +kernel
theorem dX4_takeBack_100 : decode (z_c zX4_takeBack) 100 = .ok (.aload_n 1, 1) := by decide +kernel
theorem dX4_takeBack_101 : decode (z_c zX4_takeBack) 101 = .ok (.getfield 37, 3) := by decide +kernel
theorem dX4_takeBack_104 : decode (z_c zX4_takeBack) 104 = .ok (.aload_n 0, 1) := by decide +kernel
theorem dX4_takeBack_105 : decode (z_c zX4_takeBack) 105 = .ok (.getfield 11, 3) := by decide +kernel
theorem dX4_takeBack_108 : decode (z_c zX4_takeBack) 108 = .ok (.iload_n 2, 1) := by decide +kernel
theorem dX4_takeBack_109 : decode (z_c zX4_takeBack) 109 = .ok (.iconst 5, 1) := by decide +kernel
theorem dX4_takeBack_110 : decode (z_c zX4_takeBack) 110 = .ok (.iadd, 1) := by decide +kernel
theorem dX4_takeBack_111 : decode (z_c zX4_takeBack) 111 = .ok (.laload, 1) := by decide +kernel
theorem dX4_takeBack_112 : decode (z_c zX4_takeBack) 112 = .ok (.putfield 31, 3) := by decide +kernel
theorem dX4_takeBack_115 : decode (z_c zX4_takeBack) 115 = .ok (.aload_n 1, 1) := by decide +kernel
theorem dX4_takeBack_116 : decode (z_c zX4_takeBack) 116 = .ok (.getfield 40, 3) := by decide +kernel
theorem dX4_takeBack_119 : decode (z_c zX4_takeBack) 119 = .ok (.aload_n 1, 1) := by decide +kernel
theorem dX4_takeBack_120 : decode (z_c zX4_takeBack) 120 = .ok (.getfield 43, 3) := by decide +kernel
theorem dX4_takeBack_123 : decode (z_c zX4_takeBack) 123 = .ok (.invokevirtual 46, 3) := by decide +kernel
theorem dX4_takeBack_126 : decode (z_c zX4_takeBack) 126 = .ok (.aload_n 1, 1) := by decide +kernel
theorem dX4_takeBack_127 : decode (z_c zX4_takeBack) 127 = .ok (.getfield 40, 3) := by decide +kernel
theorem dX4_takeBack_130 : decode (z_c zX4_takeBack) 130 = .ok (.aload_n 1, 1) := by decide +kernel
theorem dX4_takeBack_131 : decode (z_c zX4_takeBack) 131 = .ok (.getfield 19, 3) := by decide +kernel
theorem dX4_takeBack_134 : decode (z_c zX4_takeBack) 134 = .ok (.invokevirtual 50, 3) := by decide +kernel
theorem dX4_takeBack_137 : decode (z_c zX4_takeBack) 137 = .ok (.aload_n 1, 1) := by decide +kernel
theorem dX4_takeBack_138 : decode (z_c zX4_takeBack) 138 = .ok (.getfield 40, 3) := by decide +kernel
theorem dX4_takeBack_141 : decode (z_c zX4_takeBack) 141 = .ok (.aload_n 1, 1) := by decide +kernel
theorem dX4_takeBack_142 : decode (z_c zX4_takeBack) 142 = .ok (.getfield 34, 3) := by decide +kernel
theorem dX4_takeBack_145 : decode (z_c zX4_takeBack) 145 = .ok (.invokevirtual 50, 3) := by decide +kernel
theorem dX4_takeBack_148 : decode (z_c zX4_takeBack) 148 = .ok (.iconst 1, 1) := by decide +kernel
theorem dX4_takeBack_149 : decode (z_c zX4_takeBack) 149 = .ok (.ireturn, 1) := by decide +kernel
theorem dJ6_bitCount_0f7a4_0 : decode (z_c zJ6_bitCount_0f7a4) 0 = .ok (.iload_n 0, 1) := by decide +kernel
theorem dJ6_bitCount_0f7a4_1 : decode (z_c zJ6_bitCount_0f7a4) 1 = .ok (.iload_n 0, 1) := by decide +kernel
theorem dJ6_bitCount_0f7a4_2 : decode (z_c zJ6_bitCount_0f7a4) 2 = .ok (.iconst 1, 1) := by decide +kernel
theorem dJ6_bitCount_0f7a4_3 : decode (z_c zJ6_bitCount_0f7a4) 3 = .ok (.iushr, 1) := by decide +kernel
theorem dJ6_bitCount_0f7a4_4 : decode (z_c zJ6_bitCount_0f7a4) 4 = .ok (.ldc_w 265, 3) := by decide +kernel
theorem dJ6_bitCount_0f7a4_7 : decode (z_c zJ6_bitCount_0f7a4) 7 = .ok (.iand, 1) := by decide +kernel
theorem dJ6_bitCount_0f7a4_8 : decode (z_c zJ6_bitCount_0f7a4) 8 = .ok (.isub, 1) := by decide +kernel
theorem dJ6_bitCount_0f7a4_9 : decode (z_c zJ6_bitCount_0f7a4) 9 = .ok (.istore_n 0, 1) := by decide +kernel
theorem dJ6_bitCount_0f7a4_10 : decode (z_c zJ6_bitCount_0f7a4) 10 = .ok (.iload_n 0, 1) := by decide +kernel
theorem dJ6_bitCount_0f7a4_11 : decode (z_c zJ6_bitCount_0f7a4) 11 = .ok (.ldc_w 266, 3) := by decide +kernel
theorem dJ6_bitCount_0f7a4_14 : decode (z_c zJ6_bitCount_0f7a4) 14 = .ok (.iand, 1) := by decide +kernel
theorem dJ6_bitCount_0f7a4_15 : decode (z_c zJ6_bitCount_0f7a4) 15 = .ok (.iload_n 0, 1) := by decide +kernel
theorem dJ6_bitCount_0f7a4_16 : decode (z_c zJ6_bitCount_0f7a4) 16 = .ok (.iconst 2, 1) := by decide +kernel
theorem dJ6_bitCount_0f7a4_17 : decode (z_c zJ6_bitCount_0f7a4) 17 = .ok (.iushr, 1) := by decide +kernel
theorem dJ6_bitCount_0f7a4_18 : decode (z_c zJ6_bitCount_0f7a4) 18 = .ok (.ldc_w 266, 3) := by decide +kernel
theorem dJ6_bitCount_0f7a4_21 : decode (z_c zJ6_bitCount_0f7a4) 21 = .ok (.iand, 1) := by decide +kernel
theorem dJ6_bitCount_0f7a4_22 : decode (z_c zJ6_bitCount_0f7a4) 22 = .ok (.iadd, 1) := by decide +kernel
theorem dJ6_bitCount_0f7a4_23 : decode (z_c zJ6_bitCount_0f7a4) 23 = .ok (.istore_n 0, 1) := by decide +kernel
theorem dJ6_bitCount_0f7a4_24 : decode (z_c zJ6_bitCount_0f7a4) 24 = .ok (.iload_n 0, 1) := by decide +kernel
theorem dJ6_bitCount_0f7a4_25 : decode (z_c zJ6_bitCount_0f7a4) 25 = .ok (.iload_n 0, 1) := by decide +kernel
theorem dJ6_bitCount_0f7a4_26 : decode (z_c zJ6_bitCount_0f7a4) 26 = .ok (.iconst 4, 1) := by decide +kernel
theorem dJ6_bitCount_0f7a4_27 : decode (z_c zJ6_bitCount_0f7a4) 27 = .ok (.iushr, 1) := by decide +kernel
theorem dJ6_bitCount_0f7a4_28 : decode (z_c zJ6_bitCount_0f7a4) 28 = .ok (.iadd, 1) := by decide +kernel
theorem dJ6_bitCount_0f7a4_29 : decode (z_c zJ6_bitCount_0f7a4) 29 = .ok (.ldc_w 267, 3) := by decide +kernel
theorem dJ6_bitCount_0f7a4_32 : decode (z_c zJ6_bitCount_0f7a4) 32 = .ok (.iand, 1) := by decide +kernel
theorem dJ6_bitCount_0f7a4_33 : decode (z_c zJ6_bitCount_0f7a4) 33 = .ok (.istore_n 0, 1) := by decide +kernel
theorem dJ6_bitCount_0f7a4_34 : decode (z_c zJ6_bitCount_0f7a4) 34 = .ok (.iload_n 0, 1) := by decide +kernel
theorem dJ6_bitCount_0f7a4_35 : decode (z_c zJ6_bitCount_0f7a4) 35 = .ok (.iload_n 0, 1) := by decide +kernel
theorem dJ6_bitCount_0f7a4_36 : decode (z_c zJ6_bitCount_0f7a4) 36 = .ok (.bipush 8, 2) := by decide +kernel
theorem dJ6_bitCount_0f7a4_38 : decode (z_c zJ6_bitCount_0f7a4) 38 = .ok (.iushr, 1) := by decide +kernel
theorem dJ6_bitCount_0f7a4_39 : decode (z_c zJ6_bitCount_0f7a4) 39 = .ok (.iadd, 1) := by decide +kernel
theorem dJ6_bitCount_0f7a4_40 : decode (z_c zJ6_bitCount_0f7a4) 40 = .ok (.istore_n 0, 1) := by decide +kernel
theorem dJ6_bitCount_0f7a4_41 : decode (z_c zJ6_bitCount_0f7a4) 41 = .ok (.iload_n 0, 1) := by decide +kernel
theorem dJ6_bitCount_0f7a4_42 : decode (z_c zJ6_bitCount_0f7a4) 42 = .ok (.iload_n 0, 1) := by decide +kernel
theorem dJ6_bitCount_0f7a4_43 : decode (z_c zJ6_bitCount_0f7a4) 43 = .ok (.bipush 16, 2) := by decide +kernel
theorem dJ6_bitCount_0f7a4_45 : decode (z_c zJ6_bitCount_0f7a4) 45 = .ok (.iushr, 1) := by decide +kernel
theorem dJ6_bitCount_0f7a4_46 : decode (z_c zJ6_bitCount_0f7a4) 46 = .ok (.iadd, 1) := by decide +kernel
theorem dJ6_bitCount_0f7a4_47 : decode (z_c zJ6_bitCount_0f7a4) 47 = .ok (.istore_n 0, 1) := by decide +kernel
theorem dJ6_bitCount_0f7a4_48 : decode (z_c zJ6_bitCount_0f7a4) 48 = .ok (.iload_n 0, 1) := by decide +kernel
theorem dJ6_bitCount_0f7a4_49 : decode (z_c zJ6_bitCount_0f7a4) 49 = .ok (.bipush 63, 2) := by decide +kernel
theorem dJ6_bitCount_0f7a4_51 : decode (z_c zJ6_bitCount_0f7a4) 51 = .ok (.iand, 1) := by decide +kernel
theorem dJ6_bitCount_0f7a4_52 : decode (z_c zJ6_bitCount_0f7a4) 52 = .ok (.ireturn, 1) := by decide +kernel
theorem dJ13_bitCount_95d88_0 : decode (z_c zJ13_bitCount_95d88) 0 = .ok (.lload_n 0, 1) := by decide +kernel
theorem dJ13_bitCount_95d88_1 : decode (z_c zJ13_bitCount_95d88) 1 = .ok (.lload_n 0, 1) := by decide +kernel
theorem dJ13_bitCount_95d88_2 : decode (z_c zJ13_bitCount_95d88) 2 = .ok (.iconst 1, 1) := by decide +kernel
theorem dJ13_bitCount_95d88_3 : decode (z_c zJ13_bitCount_95d88) 3 = .ok (.lushr, 1) := by decide +kernel
theorem dJ13_bitCount_95d88_4 : decode (z_c zJ13_bitCount_95d88) 4 = .ok (.ldc2_w 314, 3) := by decide +kernel
theorem dJ13_bitCount_95d88_7 : decode (z_c zJ13_bitCount_95d88) 7 = .ok (.land, 1) := by decide +kernel
theorem dJ13_bitCount_95d88_8 : decode (z_c zJ13_bitCount_95d88) 8 = .ok (.lsub, 1) := by decide +kernel
theorem dJ13_bitCount_95d88_9 : decode (z_c zJ13_bitCount_95d88) 9 = .ok (.lstore_n 0, 1) := by decide +kernel
theorem dJ13_bitCount_95d88_10 : decode (z_c zJ13_bitCount_95d88) 10 = .ok (.lload_n 0, 1) := by decide +kernel
theorem dJ13_bitCount_95d88_11 : decode (z_c zJ13_bitCount_95d88) 11 = .ok (.ldc2_w 316, 3) := by decide +kernel
theorem dJ13_bitCount_95d88_14 : decode (z_c zJ13_bitCount_95d88) 14 = .ok (.land, 1) := by decide +kernel
theorem dJ13_bitCount_95d88_15 : decode (z_c zJ13_bitCount_95d88) 15 = .ok (.lload_n 0, 1) := by decide +kernel
theorem dJ13_bitCount_95d88_16 : decode (z_c zJ13_bitCount_95d88) 16 = .ok (.iconst 2, 1) := by decide +kernel
theorem dJ13_bitCount_95d88_17 : decode (z_c zJ13_bitCount_95d88) 17 = .ok (.lushr, 1) := by decide +kernel
theorem dJ13_bitCount_95d88_18 : decode (z_c zJ13_bitCount_95d88) 18 = .ok (.ldc2_w 316, 3) := by decide +kernel
theorem dJ13_bitCount_95d88_21 : decode (z_c zJ13_bitCount_95d88) 21 = .ok (.land, 1) := by decide +kernel
theorem dJ13_bitCount_95d88_22 : decode (z_c zJ13_bitCount_95d88) 22 = .ok (.ladd, 1) := by decide +kernel
theorem dJ13_bitCount_95d88_23 : decode (z_c zJ13_bitCount_95d88) 23 = .ok (.lstore_n 0, 1) := by decide +kernel
theorem dJ13_bitCount_95d88_24 : decode (z_c zJ13_bitCount_95d88) 24 = .ok (.lload_n 0, 1) := by decide +kernel
theorem dJ13_bitCount_95d88_25 : decode (z_c zJ13_bitCount_95d88) 25 = .ok (.lload_n 0, 1) := by decide +kernel
theorem dJ13_bitCount_95d88_26 : decode (z_c zJ13_bitCount_95d88) 26 = .ok (.iconst 4, 1) := by decide +kernel
theorem dJ13_bitCount_95d88_27 : decode (z_c zJ13_bitCount_95d88) 27 = .ok (.lushr, 1) := by decide +kernel
theorem dJ13_bitCount_95d88_28 : decode (z_c zJ13_bitCount_95d88) 28 = .ok (.ladd, 1) := by decide +kernel
theorem dJ13_bitCount_95d88_29 : decode (z_c zJ13_bitCount_95d88) 29 = .ok (.ldc2_w 318, 3) := by decide +kernel
theorem dJ13_bitCount_95d88_32 : decode (z_c zJ13_bitCount_95d88) 32 = .ok (.land, 1) := by decide +kernel
theorem dJ13_bitCount_95d88_33 : decode (z_c zJ13_bitCount_95d88) 33 = .ok (.lstore_n 0, 1) := by decide +kernel
theorem dJ13_bitCount_95d88_34 : decode (z_c zJ13_bitCount_95d88) 34 = .ok (.lload_n 0, 1) := by decide +kernel
theorem dJ13_bitCount_95d88_35 : decode (z_c zJ13_bitCount_95d88) 35 = .ok (.lload_n 0, 1) := by decide +kernel
theorem dJ13_bitCount_95d88_36 : decode (z_c zJ13_bitCount_95d88) 36 = .ok (.bipush 8, 2) := by decide +kernel
theorem dJ13_bitCount_95d88_38 : decode (z_c zJ13_bitCount_95d88) 38 = .ok (.lushr, 1) := by decide +kernel
theorem dJ13_bitCount_95d88_39 : decode (z_c zJ13_bitCount_95d88) 39 = .ok (.ladd, 1) := by decide +kernel
theorem dJ13_bitCount_95d88_40 : decode (z_c zJ13_bitCount_95d88) 40 = .ok (.lstore_n 0, 1) := by decide +kernel
theorem dJ13_bitCount_95d88_41 : decode (z_c zJ13_bitCount_95d88) 41 = .ok (.lload_n 0, 1) := by decide +kernel
theorem dJ13_bitCount_95d88_42 : decode (z_c zJ13_bitCount_95d88) 42 = .ok (.lload_n 0, 1) := by decide +kernel
theorem dJ13_bitCount_95d88_43 : decode (z_c zJ13_bitCount_95d88) 43 = .ok (.bipush 16, 2) := by decide +kernel
theorem dJ13_bitCount_95d88_45 : decode (z_c zJ13_bitCount_95d88) 45 = .ok (.lushr, 1) := by decide +kernel
theorem dJ13_bitCount_95d88_46 : decode (z_c zJ13_bitCount_95d88) 46 = .ok (.ladd, 1) := by decide +kernel
theorem dJ13_bitCount_95d88_47 : decode (z_c zJ13_bitCount_95d88) 47 = .ok (.lstore_n 0, 1) := by decide +kernel
theorem dJ13_bitCount_95d88_48 : decode (z_c zJ13_bitCount_95d88) 48 = .ok (.lload_n 0, 1) := by decide +kernel
theorem dJ13_bitCount_95d88_49 : decode (z_c zJ13_bitCount_95d88) 49 = .ok (.lload_n 0, 1) := by decide +kernel
theorem dJ13_bitCount_95d88_50 : decode (z_c zJ13_bitCount_95d88) 50 = .ok (.bipush 32, 2) := by decide +kernel
theorem dJ13_bitCount_95d88_52 : decode (z_c zJ13_bitCount_95d88) 52 = .ok (.lushr, 1) := by decide +kernel
theorem dJ13_bitCount_95d88_53 : decode (z_c zJ13_bitCount_95d88) 53 = .ok (.ladd, 1) := by decide +kernel
theorem dJ13_bitCount_95d88_54 : decode (z_c zJ13_bitCount_95d88) 54 = .ok (.lstore_n 0, 1) := by decide +kernel
theorem dJ13_bitCount_95d88_55 : decode (z_c zJ13_bitCount_95d88) 55 = .ok (.lload_n 0, 1) := by decide +kernel
theorem dJ13_bitCount_95d88_56 : decode (z_c zJ13_bitCount_95d88) 56 = .ok (.l2i, 1) := by decide +kernel
theorem dJ13_bitCount_95d88_57 : decode (z_c zJ13_bitCount_95d88) 57 = .ok (.bipush 127, 2) := by decide +kernel
theorem dJ13_bitCount_95d88_59 : decode (z_c zJ13_bitCount_95d88) 59 = .ok (.iand, 1) := by decide +kernel
theorem dJ13_bitCount_95d88_60 : decode (z_c zJ13_bitCount_95d88) 60 = .ok (.ireturn, 1) := by decide +kernel
theorem dJ9_max_7cf53_0 : decode (z_c zJ9_max_7cf53) 0 = .ok (.iload_n 0, 1) := by decide +kernel
theorem dJ9_max_7cf53_1 : decode (z_c zJ9_max_7cf53) 1 = .ok (.iload_n 1, 1) := by decide +kernel
theorem dJ9_max_7cf53_2 : decode (z_c zJ9_max_7cf53) 2 = .ok (.if_icmp .lt 7, 3) := by decide +kernel
theorem dJ9_max_7cf53_5 : decode (z_c zJ9_max_7cf53) 5 = .ok (.iload_n 0, 1) := by decide +kernel
theorem dJ9_max_7cf53_6 : decode (z_c zJ9_max_7cf53) 6 = .ok (.goto 4, 3) := by decide +kernel
theorem dJ9_max_7cf53_9 : decode (z_c zJ9_max_7cf53) 9 = .ok (.iload_n 1, 1) := by decide +kernel
theorem dJ9_max_7cf53_10 : decode (z_c zJ9_max_7cf53) 10 = .ok (.ireturn, 1) := by decide +kernel
