theorem dX0_init_0 : decode cX0_init 0 = .ok (.aload_n 0, 1) := by decide +kernel
theorem dX0_init_1 : decode cX0_init 1 = .ok (.invokespecial 3, 3) := by decide +kernel
theorem dX0_init_4 : decode cX0_init 4 = .ok (.return_, 1) := by decide +kernel
theorem dX0_begin_0 : decode cX0_begin 0 = .ok (.aload_n 0, 1) := by decide +kernel
theorem dX0_begin_1 : decode cX0_begin 1 = .ok (.iload_n 1, 1) := by decide +kernel
theorem dX0_begin_2 : decode cX0_begin 2 = .ok (.putfield 9, 3) := by decide +kernel
theorem dX0_begin_5 : decode cX0_begin 5 = .ok (.aload_n 0, 1) := by decide +kernel
theorem dX0_begin_6 : decode cX0_begin 6 = .ok (.iconst (-1), 1) := by decide +kernel
theorem dX0_begin_7 : decode cX0_begin 7 = .ok (.putfield 15, 3) := by decide +kernel
theorem dX0_begin_10 : decode cX0_begin 10 = .ok (.return_, 1) := by decide +kernel
theorem dX0_meet_0 : decode cX0_meet 0 = .ok (.aload_n 1, 1) := by decide +kernel
theorem dX0_meet_1 : decode cX0_meet 1 = .ok (.getfield 18, 3) := by decide +kernel
theorem dX0_meet_4 : decode cX0_meet 4 = .ok (.aload_n 0, 1) := by decide +kernel
theorem dX0_meet_5 : decode cX0_meet 5 = .ok (.getfield 9, 3) := by decide +kernel
theorem dX0_meet_8 : decode cX0_meet 8 = .ok (.if_icmp .eq 4, 3) := by decide +kernel
theorem dX0_meet_11 : decode cX0_meet 11 = .ok (.return_, 1) := by decide +kernel
theorem dX0_meet_12 : decode cX0_meet 12 = .ok (.aload_n 0, 1) := by decide +kernel
theorem dX0_meet_13 : decode cX0_meet 13 = .ok (.getfield 15, 3) := by decide +kernel
theorem dX0_meet_16 : decode cX0_meet 16 = .ok (.iconst (-1), 1) := by decide +kernel
theorem dX0_meet_17 : decode cX0_meet 17 = .ok (.if_icmp .eq 11, 3) := by decide +kernel
theorem dX0_meet_20 : decode cX0_meet 20 = .ok (.iload_n 2, 1) := by decide +kernel
theorem dX0_meet_21 : decode cX0_meet 21 = .ok (.aload_n 0, 1) := by decide +kernel
theorem dX0_meet_22 : decode cX0_meet 22 = .ok (.getfield 15, 3) := by decide +kernel
theorem dX0_meet_25 : decode cX0_meet 25 = .ok (.if_icmp .ge 8, 3) := by decide +kernel
theorem dX0_meet_28 : decode cX0_meet 28 = .ok (.aload_n 0, 1) := by decide +kernel
theorem dX0_meet_29 : decode cX0_meet 29 = .ok (.iload_n 2, 1) := by decide +kernel
theorem dX0_meet_30 : decode cX0_meet 30 = .ok (.putfield 15, 3) := by decide +kernel
theorem dX0_meet_33 : decode cX0_meet 33 = .ok (.return_, 1) := by decide +kernel
theorem dX1_init_0 : decode cX1_init 0 = .ok (.aload_n 0, 1) := by decide +kernel
theorem dX1_init_1 : decode cX1_init 1 = .ok (.invokespecial 3, 3) := by decide +kernel
theorem dX1_init_4 : decode cX1_init 4 = .ok (.aload_n 0, 1) := by decide +kernel
theorem dX1_init_5 : decode cX1_init 5 = .ok (.getstatic 9, 3) := by decide +kernel
theorem dX1_init_8 : decode cX1_init 8 = .ok (.putfield 15, 3) := by decide +kernel
theorem dX1_init_11 : decode cX1_init 11 = .ok (.aload_n 0, 1) := by decide +kernel
theorem dX1_init_12 : decode cX1_init 12 = .ok (.iconst 0, 1) := by decide +kernel
theorem dX1_init_13 : decode cX1_init 13 = .ok (.putfield 20, 3) := by decide +kernel
theorem dX1_init_16 : decode cX1_init 16 = .ok (.aload_n 0, 1) := by decide +kernel
theorem dX1_init_17 : decode cX1_init 17 = .ok (.iconst (-1), 1) := by decide +kernel
theorem dX1_init_18 : decode cX1_init 18 = .ok (.putfield 24, 3) := by decide +kernel
theorem dX1_init_21 : decode cX1_init 21 = .ok (.aload_n 0, 1) := by decide +kernel
theorem dX1_init_22 : decode cX1_init 22 = .ok (.iconst (-1), 1) := by decide +kernel
theorem dX1_init_23 : decode cX1_init 23 = .ok (.putfield 27, 3) := by decide +kernel
theorem dX1_init_26 : decode cX1_init 26 = .ok (.aload_n 0, 1) := by decide +kernel
theorem dX1_init_27 : decode cX1_init 27 = .ok (.iconst (-1), 1) := by decide +kernel
theorem dX1_init_28 : decode cX1_init 28 = .ok (.putfield 30, 3) := by decide +kernel
theorem dX1_init_31 : decode cX1_init 31 = .ok (.return_, 1) := by decide +kernel
theorem dX1_begin_0 : decode cX1_begin 0 = .ok (.aload_n 0, 1) := by decide +kernel
theorem dX1_begin_1 : decode cX1_begin 1 = .ok (.aload_n 1, 1) := by decide +kernel
theorem dX1_begin_2 : decode cX1_begin 2 = .ok (.putfield 15, 3) := by decide +kernel
theorem dX1_begin_5 : decode cX1_begin 5 = .ok (.aload_n 0, 1) := by decide +kernel
theorem dX1_begin_6 : decode cX1_begin 6 = .ok (.iconst 1, 1) := by decide +kernel
theorem dX1_begin_7 : decode cX1_begin 7 = .ok (.putfield 20, 3) := by decide +kernel
theorem dX1_begin_10 : decode cX1_begin 10 = .ok (.aload_n 0, 1) := by decide +kernel
theorem dX1_begin_11 : decode cX1_begin 11 = .ok (.iload_n 2, 1) := by decide +kernel
theorem dX1_begin_12 : decode cX1_begin 12 = .ok (.putfield 24, 3) := by decide +kernel
theorem dX1_begin_15 : decode cX1_begin 15 = .ok (.aload_n 0, 1) := by decide +kernel
theorem dX1_begin_16 : decode cX1_begin 16 = .ok (.iconst (-1), 1) := by decide +kernel
theorem dX1_begin_17 : decode cX1_begin 17 = .ok (.putfield 27, 3) := by decide +kernel
theorem dX1_begin_20 : decode cX1_begin 20 = .ok (.aload_n 0, 1) := by decide +kernel
theorem dX1_begin_21 : decode cX1_begin 21 = .ok (.iconst (-1), 1) := by decide +kernel
theorem dX1_begin_22 : decode cX1_begin 22 = .ok (.putfield 30, 3) := by decide +kernel
theorem dX1_begin_25 : decode cX1_begin 25 = .ok (.return_, 1) := by decide +kernel
theorem dX1_copyFrom_0 : decode cX1_copyFrom 0 = .ok (.aload_n 0, 1) := by decide +kernel
theorem dX1_copyFrom_1 : decode cX1_copyFrom 1 = .ok (.aload_n 1, 1) := by decide +kernel
theorem dX1_copyFrom_2 : decode cX1_copyFrom 2 = .ok (.getfield 15, 3) := by decide +kernel
theorem dX1_copyFrom_5 : decode cX1_copyFrom 5 = .ok (.putfield 15, 3) := by decide +kernel
theorem dX1_copyFrom_8 : decode cX1_copyFrom 8 = .ok (.aload_n 0, 1) := by decide +kernel
theorem dX1_copyFrom_9 : decode cX1_copyFrom 9 = .ok (.aload_n 1, 1) := by decide +kernel
theorem dX1_copyFrom_10 : decode cX1_copyFrom 10 = .ok (.getfield 20, 3) := by decide +kernel
theorem dX1_copyFrom_13 : decode cX1_copyFrom 13 = .ok (.putfield 20, 3) := by decide +kernel
theorem dX1_copyFrom_16 : decode cX1_copyFrom 16 = .ok (.aload_n 0, 1) := by decide +kernel
theorem dX1_copyFrom_17 : decode cX1_copyFrom 17 = .ok (.aload_n 1, 1) := by decide +kernel
theorem dX1_copyFrom_18 : decode cX1_copyFrom 18 = .ok (.getfield 24, 3) := by decide +kernel
theorem dX1_copyFrom_21 : decode cX1_copyFrom 21 = .ok (.putfield 24, 3) := by decide +kernel
theorem dX1_copyFrom_24 : decode cX1_copyFrom 24 = .ok (.aload_n 0, 1) := by decide +kernel
theorem dX1_copyFrom_25 : decode cX1_copyFrom 25 = .ok (.aload_n 1, 1) := by decide +kernel
theorem dX1_copyFrom_26 : decode cX1_copyFrom 26 = .ok (.getfield 27, 3) := by decide +kernel
theorem dX1_copyFrom_29 : decode cX1_copyFrom 29 = .ok (.putfield 27, 3) := by decide +kernel
theorem dX1_copyFrom_32 : decode cX1_copyFrom 32 = .ok (.aload_n 0, 1) := by decide +kernel
theorem dX1_copyFrom_33 : decode cX1_copyFrom 33 = .ok (.aload_n 1, 1) := by decide +kernel
theorem dX1_copyFrom_34 : decode cX1_copyFrom 34 = .ok (.getfield 30, 3) := by decide +kernel
theorem dX1_copyFrom_37 : decode cX1_copyFrom 37 = .ok (.putfield 30, 3) := by decide +kernel
theorem dX1_copyFrom_40 : decode cX1_copyFrom 40 = .ok (.return_, 1) := by decide +kernel
theorem dX1_isGone_0 : decode cX1_isGone 0 = .ok (.aload_n 0, 1) := by decide +kernel
theorem dX1_isGone_1 : decode cX1_isGone 1 = .ok (.getfield 20, 3) := by decide +kernel
theorem dX1_isGone_4 : decode cX1_isGone 4 = .ok (.ifCond .gt 7, 3) := by decide +kernel
theorem dX1_isGone_7 : decode cX1_isGone 7 = .ok (.iconst 1, 1) := by decide +kernel
theorem dX1_isGone_8 : decode cX1_isGone 8 = .ok (.goto 4, 3) := by decide +kernel
theorem dX1_isGone_11 : decode cX1_isGone 11 = .ok (.iconst 0, 1) := by decide +kernel
theorem dX1_isGone_12 : decode cX1_isGone 12 = .ok (.ireturn, 1) := by decide +kernel
theorem dX1_weight_0 : decode cX1_weight 0 = .ok (.aload_n 0, 1) := by decide +kernel
theorem dX1_weight_1 : decode cX1_weight 1 = .ok (.getfield 15, 3) := by decide +kernel
theorem dX1_weight_4 : decode cX1_weight 4 = .ok (.aload_n 0, 1) := by decide +kernel
theorem dX1_weight_5 : decode cX1_weight 5 = .ok (.getfield 20, 3) := by decide +kernel
theorem dX1_weight_8 : decode cX1_weight 8 = .ok (.invokevirtual 33, 3) := by decide +kernel
theorem dX1_weight_11 : decode cX1_weight 11 = .ok (.ireturn, 1) := by decide +kernel
theorem dX1_keepsTo_0 : decode cX1_keepsTo 0 = .ok (.aload_n 0, 1) := by decide +kernel
theorem dX1_keepsTo_1 : decode cX1_keepsTo 1 = .ok (.getfield 30, 3) := by decide +kernel
theorem dX1_keepsTo_4 : decode cX1_keepsTo 4 = .ok (.iconst (-1), 1) := by decide +kernel
theorem dX1_keepsTo_5 : decode cX1_keepsTo 5 = .ok (.if_icmp .eq 14, 3) := by decide +kernel
theorem dX1_keepsTo_8 : decode cX1_keepsTo 8 = .ok (.aload_n 0, 1) := by decide +kernel
theorem dX1_keepsTo_9 : decode cX1_keepsTo 9 = .ok (.getfield 30, 3) := by decide +kernel
theorem dX1_keepsTo_12 : decode cX1_keepsTo 12 = .ok (.iload_n 1, 1) := by decide +kernel
theorem dX1_keepsTo_13 : decode cX1_keepsTo 13 = .ok (.invokestatic 37, 3) := by decide +kernel
theorem dX1_keepsTo_16 : decode cX1_keepsTo 16 = .ok (.if_icmp .ne 7, 3) := by decide +kernel
theorem dX1_keepsTo_19 : decode cX1_keepsTo 19 = .ok (.iconst 1, 1) := by decide +kernel
theorem dX1_keepsTo_20 : decode cX1_keepsTo 20 = .ok (.goto 4, 3) := by decide +kernel
theorem dX1_keepsTo_23 : decode cX1_keepsTo 23 = .ok (.iconst 0, 1) := by decide +kernel
theorem dX1_keepsTo_24 : decode cX1_keepsTo 24 = .ok (.ireturn, 1) := by decide +kernel
theorem dX1_leave_0 : decode cX1_leave 0 = .ok (.aload_n 0, 1) := by decide +kernel
theorem dX1_leave_1 : decode cX1_leave 1 = .ok (.iconst 0, 1) := by decide +kernel
theorem dX1_leave_2 : decode cX1_leave 2 = .ok (.putfield 20, 3) := by decide +kernel
theorem dX1_leave_5 : decode cX1_leave 5 = .ok (.aload_n 0, 1) := by decide +kernel
theorem dX1_leave_6 : decode cX1_leave 6 = .ok (.iconst (-1), 1) := by decide +kernel
theorem dX1_leave_7 : decode cX1_leave 7 = .ok (.putfield 24, 3) := by decide +kernel
theorem dX1_leave_10 : decode cX1_leave 10 = .ok (.aload_n 0, 1) := by decide +kernel
theorem dX1_leave_11 : decode cX1_leave 11 = .ok (.iconst (-1), 1) := by decide +kernel
theorem dX1_leave_12 : decode cX1_leave 12 = .ok (.putfield 27, 3) := by decide +kernel
theorem dX1_leave_15 : decode cX1_leave 15 = .ok (.return_, 1) := by decide +kernel
theorem dX2_isA_0 : decode cX2_isA 0 = .ok (.aload_n 1, 1) := by decide +kernel
theorem dX2_isA_1 : decode cX2_isA 1 = .ok (.aload_n 0, 1) := by decide +kernel
theorem dX2_isA_2 : decode cX2_isA 2 = .ok (.if_acmp .eq 24, 3) := by decide +kernel
theorem dX2_isA_5 : decode cX2_isA 5 = .ok (.aload_n 1, 1) := by decide +kernel
theorem dX2_isA_6 : decode cX2_isA 6 = .ok (.getstatic 3, 3) := by decide +kernel
theorem dX2_isA_9 : decode cX2_isA 9 = .ok (.if_acmp .eq 17, 3) := by decide +kernel
theorem dX2_isA_12 : decode cX2_isA 12 = .ok (.aload_n 0, 1) := by decide +kernel
theorem dX2_isA_13 : decode cX2_isA 13 = .ok (.getstatic 16, 3) := by decide +kernel
theorem dX2_isA_16 : decode cX2_isA 16 = .ok (.if_acmp .ne 14, 3) := by decide +kernel
theorem dX2_isA_19 : decode cX2_isA 19 = .ok (.aload_n 1, 1) := by decide +kernel
theorem dX2_isA_20 : decode cX2_isA 20 = .ok (.getstatic 13, 3) := by decide +kernel
theorem dX2_isA_23 : decode cX2_isA 23 = .ok (.if_acmp .ne 7, 3) := by decide +kernel
theorem dX2_isA_26 : decode cX2_isA 26 = .ok (.iconst 1, 1) := by decide +kernel
theorem dX2_isA_27 : decode cX2_isA 27 = .ok (.goto 4, 3) := by decide +kernel
theorem dX2_isA_30 : decode cX2_isA 30 = .ok (.iconst 0, 1) := by decide +kernel
theorem dX2_isA_31 : decode cX2_isA 31 = .ok (.ireturn, 1) := by decide +kernel
theorem dX2_weight_0 : decode cX2_weight 0 = .ok (.iload_n 1, 1) := by decide +kernel
theorem dX2_weight_1 : decode cX2_weight 1 = .ok (.aload_n 0, 1) := by decide +kernel
theorem dX2_weight_2 : decode cX2_weight 2 = .ok (.getfield 42, 3) := by decide +kernel
theorem dX2_weight_5 : decode cX2_weight 5 = .ok (.imul, 1) := by decide +kernel
theorem dX2_weight_6 : decode cX2_weight 6 = .ok (.ireturn, 1) := by decide +kernel
theorem dX2_breadth_0 : decode cX2_breadth 0 = .ok (.iconst 1, 1) := by decide +kernel
theorem dX2_breadth_1 : decode cX2_breadth 1 = .ok (.iload_n 1, 1) := by decide +kernel
theorem dX2_breadth_2 : decode cX2_breadth 2 = .ok (.bipush 8, 2) := by decide +kernel
theorem dX2_breadth_4 : decode cX2_breadth 4 = .ok (.idiv, 1) := by decide +kernel
theorem dX2_breadth_5 : decode cX2_breadth 5 = .ok (.iadd, 1) := by decide +kernel
theorem dX2_breadth_6 : decode cX2_breadth 6 = .ok (.aload_n 0, 1) := by decide +kernel
theorem dX2_breadth_7 : decode cX2_breadth 7 = .ok (.getfield 45, 3) := by decide +kernel
theorem dX2_breadth_10 : decode cX2_breadth 10 = .ok (.iadd, 1) := by decide +kernel
theorem dX2_breadth_11 : decode cX2_breadth 11 = .ok (.ireturn, 1) := by decide +kernel
theorem dX2_takes_0 : decode cX2_takes 0 = .ok (.aload_n 0, 1) := by decide +kernel
theorem dX2_takes_1 : decode cX2_takes 1 = .ok (.iload_n 1, 1) := by decide +kernel
theorem dX2_takes_2 : decode cX2_takes 2 = .ok (.invokevirtual 57, 3) := by decide +kernel
theorem dX2_takes_5 : decode cX2_takes 5 = .ok (.iload_n 2, 1) := by decide +kernel
theorem dX2_takes_6 : decode cX2_takes 6 = .ok (.invokestatic 61, 3) := by decide +kernel
theorem dX2_takes_9 : decode cX2_takes 9 = .ok (.istore 4, 2) := by decide +kernel
theorem dX2_takes_11 : decode cX2_takes 11 = .ok (.iload_n 3, 1) := by decide +kernel
theorem dX2_takes_12 : decode cX2_takes 12 = .ok (.aload_n 0, 1) := by decide +kernel
theorem dX2_takes_13 : decode cX2_takes 13 = .ok (.getfield 48, 3) := by decide +kernel
theorem dX2_takes_16 : decode cX2_takes 16 = .ok (.if_icmp .ge 12, 3) := by decide +kernel
theorem dX2_takes_19 : decode cX2_takes 19 = .ok (.iload 4, 2) := by decide +kernel
theorem dX2_takes_21 : decode cX2_takes 21 = .ok (.iconst 1, 1) := by decide +kernel
theorem dX2_takes_22 : decode cX2_takes 22 = .ok (.iadd, 1) := by decide +kernel
theorem dX2_takes_23 : decode cX2_takes 23 = .ok (.iconst 2, 1) := by decide +kernel
theorem dX2_takes_24 : decode cX2_takes 24 = .ok (.idiv, 1) := by decide +kernel
theorem dX2_takes_25 : decode cX2_takes 25 = .ok (.goto 5, 3) := by decide +kernel
theorem dX2_takes_28 : decode cX2_takes 28 = .ok (.iload 4, 2) := by decide +kernel
theorem dX2_takes_30 : decode cX2_takes 30 = .ok (.ireturn, 1) := by decide +kernel
theorem dX2_melts_0 : decode cX2_melts 0 = .ok (.iload_n 1, 1) := by decide +kernel
theorem dX2_melts_1 : decode cX2_melts 1 = .ok (.aload_n 0, 1) := by decide +kernel
theorem dX2_melts_2 : decode cX2_melts 2 = .ok (.getfield 51, 3) := by decide +kernel
theorem dX2_melts_5 : decode cX2_melts 5 = .ok (.imul, 1) := by decide +kernel
theorem dX2_melts_6 : decode cX2_melts 6 = .ok (.aload_n 0, 1) := by decide +kernel
theorem dX2_melts_7 : decode cX2_melts 7 = .ok (.getfield 54, 3) := by decide +kernel
theorem dX2_melts_10 : decode cX2_melts 10 = .ok (.iadd, 1) := by decide +kernel
theorem dX2_melts_11 : decode cX2_melts 11 = .ok (.ireturn, 1) := by decide +kernel
theorem dX2_crumbles_0 : decode cX2_crumbles 0 = .ok (.aload_n 0, 1) := by decide +kernel
theorem dX2_crumbles_1 : decode cX2_crumbles 1 = .ok (.getstatic 10, 3) := by decide +kernel
theorem dX2_crumbles_4 : decode cX2_crumbles 4 = .ok (.if_acmp .ne 13, 3) := by decide +kernel
theorem dX2_crumbles_7 : decode cX2_crumbles 7 = .ok (.iload_n 1, 1) := by decide +kernel
theorem dX2_crumbles_8 : decode cX2_crumbles 8 = .ok (.bipush 20, 2) := by decide +kernel
theorem dX2_crumbles_10 : decode cX2_crumbles 10 = .ok (.if_icmp .le 7, 3) := by decide +kernel
theorem dX2_crumbles_13 : decode cX2_crumbles 13 = .ok (.iconst 1, 1) := by decide +kernel
theorem dX2_crumbles_14 : decode cX2_crumbles 14 = .ok (.goto 4, 3) := by decide +kernel
theorem dX2_crumbles_17 : decode cX2_crumbles 17 = .ok (.iconst 0, 1) := by decide +kernel
theorem dX2_crumbles_18 : decode cX2_crumbles 18 = .ok (.ireturn, 1) := by decide +kernel
theorem dX2_sticks_0 : decode cX2_sticks 0 = .ok (.aload_n 0, 1) := by decide +kernel
theorem dX2_sticks_1 : decode cX2_sticks 1 = .ok (.getstatic 7, 3) := by decide +kernel
theorem dX2_sticks_4 : decode cX2_sticks 4 = .ok (.if_acmp .ne 7, 3) := by decide +kernel
theorem dX2_sticks_7 : decode cX2_sticks 7 = .ok (.iconst 1, 1) := by decide +kernel
theorem dX2_sticks_8 : decode cX2_sticks 8 = .ok (.goto 4, 3) := by decide +kernel
theorem dX2_sticks_11 : decode cX2_sticks 11 = .ok (.iconst 0, 1) := by decide +kernel
theorem dX2_sticks_12 : decode cX2_sticks 12 = .ok (.ireturn, 1) := by decide +kernel
theorem dX3_init_0 : decode cX3_init 0 = .ok (.aload_n 0, 1) := by decide +kernel
theorem dX3_init_1 : decode cX3_init 1 = .ok (.invokespecial 3, 3) := by decide +kernel
theorem dX3_init_4 : decode cX3_init 4 = .ok (.return_, 1) := by decide +kernel
theorem dX3_begin_0 : decode cX3_begin 0 = .ok (.aload_n 0, 1) := by decide +kernel
theorem dX3_begin_1 : decode cX3_begin 1 = .ok (.iconst 0, 1) := by decide +kernel
theorem dX3_begin_2 : decode cX3_begin 2 = .ok (.putfield 9, 3) := by decide +kernel
theorem dX3_begin_5 : decode cX3_begin 5 = .ok (.aload_n 0, 1) := by decide +kernel
theorem dX3_begin_6 : decode cX3_begin 6 = .ok (.iconst (-1), 1) := by decide +kernel
theorem dX3_begin_7 : decode cX3_begin 7 = .ok (.putfield 15, 3) := by decide +kernel
theorem dX3_begin_10 : decode cX3_begin 10 = .ok (.aload_n 0, 1) := by decide +kernel
theorem dX3_begin_11 : decode cX3_begin 11 = .ok (.iconst 0, 1) := by decide +kernel
theorem dX3_begin_12 : decode cX3_begin 12 = .ok (.putfield 18, 3) := by decide +kernel
theorem dX3_begin_15 : decode cX3_begin 15 = .ok (.return_, 1) := by decide +kernel
theorem dX3_meet_0 : decode cX3_meet 0 = .ok (.aload_n 1, 1) := by decide +kernel
theorem dX3_meet_1 : decode cX3_meet 1 = .ok (.getfield 21, 3) := by decide +kernel
theorem dX3_meet_4 : decode cX3_meet 4 = .ok (.aload_n 0, 1) := by decide +kernel
theorem dX3_meet_5 : decode cX3_meet 5 = .ok (.getfield 9, 3) := by decide +kernel
theorem dX3_meet_8 : decode cX3_meet 8 = .ok (.if_icmp .lt 22, 3) := by decide +kernel
theorem dX3_meet_11 : decode cX3_meet 11 = .ok (.aload_n 1, 1) := by decide +kernel
theorem dX3_meet_12 : decode cX3_meet 12 = .ok (.getfield 21, 3) := by decide +kernel
theorem dX3_meet_15 : decode cX3_meet 15 = .ok (.aload_n 0, 1) := by decide +kernel
theorem dX3_meet_16 : decode cX3_meet 16 = .ok (.getfield 9, 3) := by decide +kernel
theorem dX3_meet_19 : decode cX3_meet 19 = .ok (.if_icmp .ne 12, 3) := by decide +kernel
theorem dX3_meet_22 : decode cX3_meet 22 = .ok (.iload_n 2, 1) := by decide +kernel
theorem dX3_meet_23 : decode cX3_meet 23 = .ok (.aload_n 0, 1) := by decide +kernel
theorem dX3_meet_24 : decode cX3_meet 24 = .ok (.getfield 18, 3) := by decide +kernel
theorem dX3_meet_27 : decode cX3_meet 27 = .ok (.if_icmp .lt 4, 3) := by decide +kernel
theorem dX3_meet_30 : decode cX3_meet 30 = .ok (.return_, 1) := by decide +kernel
theorem dX3_meet_31 : decode cX3_meet 31 = .ok (.aload_n 0, 1) := by decide +kernel
theorem dX3_meet_32 : decode cX3_meet 32 = .ok (.aload_n 1, 1) := by decide +kernel
theorem dX3_meet_33 : decode cX3_meet 33 = .ok (.getfield 21, 3) := by decide +kernel
theorem dX3_meet_36 : decode cX3_meet 36 = .ok (.putfield 9, 3) := by decide +kernel
theorem dX3_meet_39 : decode cX3_meet 39 = .ok (.aload_n 0, 1) := by decide +kernel
theorem dX3_meet_40 : decode cX3_meet 40 = .ok (.iload_n 2, 1) := by decide +kernel
theorem dX3_meet_41 : decode cX3_meet 41 = .ok (.putfield 18, 3) := by decide +kernel
theorem dX3_meet_44 : decode cX3_meet 44 = .ok (.aload_n 0, 1) := by decide +kernel
theorem dX3_meet_45 : decode cX3_meet 45 = .ok (.iload_n 3, 1) := by decide +kernel
theorem dX3_meet_46 : decode cX3_meet 46 = .ok (.putfield 15, 3) := by decide +kernel
theorem dX3_meet_49 : decode cX3_meet 49 = .ok (.return_, 1) := by decide +kernel
theorem dX4_init_0 : decode cX4_init 0 = .ok (.aload_n 0, 1) := by decide +kernel
theorem dX4_init_1 : decode cX4_init 1 = .ok (.invokespecial 3, 3) := by decide +kernel
theorem dX4_init_4 : decode cX4_init 4 = .ok (.aload_n 0, 1) := by decide +kernel
theorem dX4_init_5 : decode cX4_init 5 = .ok (.bipush 20, 2) := by decide +kernel
theorem dX4_init_7 : decode cX4_init 7 = .ok (.newarray .int, 2) := by decide +kernel
theorem dX4_init_9 : decode cX4_init 9 = .ok (.putfield 9, 3) := by decide +kernel
theorem dX4_init_12 : decode cX4_init 12 = .ok (.aload_n 0, 1) := by decide +kernel
theorem dX4_init_13 : decode cX4_init 13 = .ok (.iconst 5, 1) := by decide +kernel
theorem dX4_init_14 : decode cX4_init 14 = .ok (.anewarray 15, 3) := by decide +kernel
theorem dX4_init_17 : decode cX4_init 17 = .ok (.putfield 17, 3) := by decide +kernel
theorem dX4_init_20 : decode cX4_init 20 = .ok (.iconst 0, 1) := by decide +kernel
theorem dX4_init_21 : decode cX4_init 21 = .ok (.istore_n 1, 1) := by decide +kernel
theorem dX4_init_22 : decode cX4_init 22 = .ok (.iload_n 1, 1) := by decide +kernel
theorem dX4_init_23 : decode cX4_init 23 = .ok (.aload_n 0, 1) := by decide +kernel
theorem dX4_init_24 : decode cX4_init 24 = .ok (.getfield 17, 3) := by decide +kernel
theorem dX4_init_27 : decode cX4_init 27 = .ok (.arraylength, 1) := by decide +kernel
theorem dX4_init_28 : decode cX4_init 28 = .ok (.if_icmp .ge 22, 3) := by decide +kernel
theorem dX4_init_31 : decode cX4_init 31 = .ok (.aload_n 0, 1) := by decide +kernel
theorem dX4_init_32 : decode cX4_init 32 = .ok (.getfield 17, 3) := by decide +kernel
theorem dX4_init_35 : decode cX4_init 35 = .ok (.iload_n 1, 1) := by decide +kernel
theorem dX4_init_36 : decode cX4_init 36 = .ok (.new 15, 3) := by decide +kernel
theorem dX4_init_39 : decode cX4_init 39 = .ok (.dup, 1) := by decide +kernel
theorem dX4_init_40 : decode cX4_init 40 = .ok (.invokespecial 21, 3) := by decide +kernel
theorem dX4_init_43 : decode cX4_init 43 = .ok (.aastore, 1) := by decide +kernel
theorem dX4_init_44 : decode cX4_init 44 = .ok (.iinc 1 1, 3) := by decide +kernel
theorem dX4_init_47 : decode cX4_init 47 = .ok (.goto (-25), 3) := by decide +kernel
theorem dX4_init_50 : decode cX4_init 50 = .ok (.aload_n 0, 1) := by decide +kernel
theorem dX4_init_51 : decode cX4_init 51 = .ok (.bipush 20, 2) := by decide +kernel
theorem dX4_init_53 : decode cX4_init 53 = .ok (.putfield 22, 3) := by decide +kernel
theorem dX4_init_56 : decode cX4_init 56 = .ok (.return_, 1) := by decide +kernel
theorem dX4_clear_0 : decode cX4_clear 0 = .ok (.aload_n 0, 1) := by decide +kernel
theorem dX4_clear_1 : decode cX4_clear 1 = .ok (.iconst 0, 1) := by decide +kernel
theorem dX4_clear_2 : decode cX4_clear 2 = .ok (.putfield 26, 3) := by decide +kernel
theorem dX4_clear_5 : decode cX4_clear 5 = .ok (.aload_n 0, 1) := by decide +kernel
theorem dX4_clear_6 : decode cX4_clear 6 = .ok (.iconst 0, 1) := by decide +kernel
theorem dX4_clear_7 : decode cX4_clear 7 = .ok (.putfield 29, 3) := by decide +kernel
theorem dX4_clear_10 : decode cX4_clear 10 = .ok (.aload_n 0, 1) := by decide +kernel
theorem dX4_clear_11 : decode cX4_clear 11 = .ok (.bipush 20, 2) := by decide +kernel
theorem dX4_clear_13 : decode cX4_clear 13 = .ok (.putfield 22, 3) := by decide +kernel
theorem dX4_clear_16 : decode cX4_clear 16 = .ok (.return_, 1) := by decide +kernel
theorem dX4_copyFrom_0 : decode cX4_copyFrom 0 = .ok (.iconst 0, 1) := by decide +kernel
theorem dX4_copyFrom_1 : decode cX4_copyFrom 1 = .ok (.istore_n 2, 1) := by decide +kernel
theorem dX4_copyFrom_2 : decode cX4_copyFrom 2 = .ok (.iload_n 2, 1) := by decide +kernel
theorem dX4_copyFrom_3 : decode cX4_copyFrom 3 = .ok (.bipush 20, 2) := by decide +kernel
theorem dX4_copyFrom_5 : decode cX4_copyFrom 5 = .ok (.if_icmp .ge 21, 3) := by decide +kernel
theorem dX4_copyFrom_8 : decode cX4_copyFrom 8 = .ok (.aload_n 0, 1) := by decide +kernel
theorem dX4_copyFrom_9 : decode cX4_copyFrom 9 = .ok (.getfield 9, 3) := by decide +kernel
theorem dX4_copyFrom_12 : decode cX4_copyFrom 12 = .ok (.iload_n 2, 1) := by decide +kernel
theorem dX4_copyFrom_13 : decode cX4_copyFrom 13 = .ok (.aload_n 1, 1) := by decide +kernel
theorem dX4_copyFrom_14 : decode cX4_copyFrom 14 = .ok (.getfield 9, 3) := by decide +kernel
theorem dX4_copyFrom_17 : decode cX4_copyFrom 17 = .ok (.iload_n 2, 1) := by decide +kernel
theorem dX4_copyFrom_18 : decode cX4_copyFrom 18 = .ok (.iaload, 1) := by decide +kernel
theorem dX4_copyFrom_19 : decode cX4_copyFrom 19 = .ok (.iastore, 1) := by decide +kernel
theorem dX4_copyFrom_20 : decode cX4_copyFrom 20 = .ok (.iinc 2 1, 3) := by decide +kernel
theorem dX4_copyFrom_23 : decode cX4_copyFrom 23 = .ok (.goto (-21), 3) := by decide +kernel
theorem dX4_copyFrom_26 : decode cX4_copyFrom 26 = .ok (.iconst 0, 1) := by decide +kernel
theorem dX4_copyFrom_27 : decode cX4_copyFrom 27 = .ok (.istore_n 2, 1) := by decide +kernel
theorem dX4_copyFrom_28 : decode cX4_copyFrom 28 = .ok (.iload_n 2, 1) := by decide +kernel
theorem dX4_copyFrom_29 : decode cX4_copyFrom 29 = .ok (.iconst 4, 1) := by decide +kernel
theorem dX4_copyFrom_30 : decode cX4_copyFrom 30 = .ok (.if_icmp .ge 24, 3) := by decide +kernel
theorem dX4_copyFrom_33 : decode cX4_copyFrom 33 = .ok (.aload_n 0, 1) := by decide +kernel
theorem dX4_copyFrom_34 : decode cX4_copyFrom 34 = .ok (.getfield 17, 3) := by decide +kernel
theorem dX4_copyFrom_37 : decode cX4_copyFrom 37 = .ok (.iload_n 2, 1) := by decide +kernel
theorem dX4_copyFrom_38 : decode cX4_copyFrom 38 = .ok (.aaload, 1) := by decide +kernel
theorem dX4_copyFrom_39 : decode cX4_copyFrom 39 = .ok (.aload_n 1, 1) := by decide +kernel
theorem dX4_copyFrom_40 : decode cX4_copyFrom 40 = .ok (.getfield 17, 3) := by decide +kernel
theorem dX4_copyFrom_43 : decode cX4_copyFrom 43 = .ok (.iload_n 2, 1) := by decide +kernel
theorem dX4_copyFrom_44 : decode cX4_copyFrom 44 = .ok (.aaload, 1) := by decide +kernel
theorem dX4_copyFrom_45 : decode cX4_copyFrom 45 = .ok (.invokevirtual 32, 3) := by decide +kernel
theorem dX4_copyFrom_48 : decode cX4_copyFrom 48 = .ok (.iinc 2 1, 3) := by decide +kernel
theorem dX4_copyFrom_51 : decode cX4_copyFrom 51 = .ok (.goto (-23), 3) := by decide +kernel
theorem dX4_copyFrom_54 : decode cX4_copyFrom 54 = .ok (.aload_n 0, 1) := by decide +kernel
theorem dX4_copyFrom_55 : decode cX4_copyFrom 55 = .ok (.aload_n 1, 1) := by decide +kernel
theorem dX4_copyFrom_56 : decode cX4_copyFrom 56 = .ok (.getfield 26, 3) := by decide +kernel
theorem dX4_copyFrom_59 : decode cX4_copyFrom 59 = .ok (.putfield 26, 3) := by decide +kernel
theorem dX4_copyFrom_62 : decode cX4_copyFrom 62 = .ok (.aload_n 0, 1) := by decide +kernel
theorem dX4_copyFrom_63 : decode cX4_copyFrom 63 = .ok (.aload_n 1, 1) := by decide +kernel
theorem dX4_copyFrom_64 : decode cX4_copyFrom 64 = .ok (.getfield 36, 3) := by decide +kernel
theorem dX4_copyFrom_67 : decode cX4_copyFrom 67 = .ok (.putfield 36, 3) := by decide +kernel
theorem dX4_copyFrom_70 : decode cX4_copyFrom 70 = .ok (.aload_n 0, 1) := by decide +kernel
theorem dX4_copyFrom_71 : decode cX4_copyFrom 71 = .ok (.aload_n 1, 1) := by decide +kernel
theorem dX4_copyFrom_72 : decode cX4_copyFrom 72 = .ok (.getfield 22, 3) := by decide +kernel
theorem dX4_copyFrom_75 : decode cX4_copyFrom 75 = .ok (.putfield 22, 3) := by decide +kernel
theorem dX4_copyFrom_78 : decode cX4_copyFrom 78 = .ok (.aload_n 0, 1) := by decide +kernel
theorem dX4_copyFrom_79 : decode cX4_copyFrom 79 = .ok (.aload_n 1, 1) := by decide +kernel
theorem dX4_copyFrom_80 : decode cX4_copyFrom 80 = .ok (.getfield 29, 3) := by decide +kernel
theorem dX4_copyFrom_83 : decode cX4_copyFrom 83 = .ok (.putfield 29, 3) := by decide +kernel
theorem dX4_copyFrom_86 : decode cX4_copyFrom 86 = .ok (.return_, 1) := by decide +kernel
theorem dX4_allDepths_0 : decode cX4_allDepths 0 = .ok (.iconst 0, 1) := by decide +kernel
theorem dX4_allDepths_1 : decode cX4_allDepths 1 = .ok (.istore_n 1, 1) := by decide +kernel
theorem dX4_allDepths_2 : decode cX4_allDepths 2 = .ok (.aload_n 0, 1) := by decide +kernel
theorem dX4_allDepths_3 : decode cX4_allDepths 3 = .ok (.getfield 9, 3) := by decide +kernel
theorem dX4_allDepths_6 : decode cX4_allDepths 6 = .ok (.astore_n 2, 1) := by decide +kernel
theorem dX4_allDepths_7 : decode cX4_allDepths 7 = .ok (.aload_n 2, 1) := by decide +kernel
theorem dX4_allDepths_8 : decode cX4_allDepths 8 = .ok (.arraylength, 1) := by decide +kernel
theorem dX4_allDepths_9 : decode cX4_allDepths 9 = .ok (.istore_n 3, 1) := by decide +kernel
theorem dX4_allDepths_10 : decode cX4_allDepths 10 = .ok (.iconst 0, 1) := by decide +kernel
theorem dX4_allDepths_11 : decode cX4_allDepths 11 = .ok (.istore 4, 2) := by decide +kernel
theorem dX4_allDepths_13 : decode cX4_allDepths 13 = .ok (.iload 4, 2) := by decide +kernel
theorem dX4_allDepths_15 : decode cX4_allDepths 15 = .ok (.iload_n 3, 1) := by decide +kernel
theorem dX4_allDepths_16 : decode cX4_allDepths 16 = .ok (.if_icmp .ge 20, 3) := by decide +kernel
theorem dX4_allDepths_19 : decode cX4_allDepths 19 = .ok (.aload_n 2, 1) := by decide +kernel
theorem dX4_allDepths_20 : decode cX4_allDepths 20 = .ok (.iload 4, 2) := by decide +kernel
theorem dX4_allDepths_22 : decode cX4_allDepths 22 = .ok (.iaload, 1) := by decide +kernel
theorem dX4_allDepths_23 : decode cX4_allDepths 23 = .ok (.istore 5, 2) := by decide +kernel
theorem dX4_allDepths_25 : decode cX4_allDepths 25 = .ok (.iload_n 1, 1) := by decide +kernel
theorem dX4_allDepths_26 : decode cX4_allDepths 26 = .ok (.iload 5, 2) := by decide +kernel
theorem dX4_allDepths_28 : decode cX4_allDepths 28 = .ok (.iadd, 1) := by decide +kernel
theorem dX4_allDepths_29 : decode cX4_allDepths 29 = .ok (.istore_n 1, 1) := by decide +kernel
theorem dX4_allDepths_30 : decode cX4_allDepths 30 = .ok (.iinc 4 1, 3) := by decide +kernel
theorem dX4_allDepths_33 : decode cX4_allDepths 33 = .ok (.goto (-20), 3) := by decide +kernel
theorem dX4_allDepths_36 : decode cX4_allDepths 36 = .ok (.iload_n 1, 1) := by decide +kernel
theorem dX4_allDepths_37 : decode cX4_allDepths 37 = .ok (.ireturn, 1) := by decide +kernel
theorem dX4_greenPlaces_0 : decode cX4_greenPlaces 0 = .ok (.iconst 0, 1) := by decide +kernel
theorem dX4_greenPlaces_1 : decode cX4_greenPlaces 1 = .ok (.istore_n 1, 1) := by decide +kernel
theorem dX4_greenPlaces_2 : decode cX4_greenPlaces 2 = .ok (.aload_n 0, 1) := by decide +kernel
theorem dX4_greenPlaces_3 : decode cX4_greenPlaces 3 = .ok (.getfield 9, 3) := by decide +kernel
theorem dX4_greenPlaces_6 : decode cX4_greenPlaces 6 = .ok (.astore_n 2, 1) := by decide +kernel
theorem dX4_greenPlaces_7 : decode cX4_greenPlaces 7 = .ok (.aload_n 2, 1) := by decide +kernel
theorem dX4_greenPlaces_8 : decode cX4_greenPlaces 8 = .ok (.arraylength, 1) := by decide +kernel
theorem dX4_greenPlaces_9 : decode cX4_greenPlaces 9 = .ok (.istore_n 3, 1) := by decide +kernel
theorem dX4_greenPlaces_10 : decode cX4_greenPlaces 10 = .ok (.iconst 0, 1) := by decide +kernel
theorem dX4_greenPlaces_11 : decode cX4_greenPlaces 11 = .ok (.istore 4, 2) := by decide +kernel
theorem dX4_greenPlaces_13 : decode cX4_greenPlaces 13 = .ok (.iload 4, 2) := by decide +kernel
theorem dX4_greenPlaces_15 : decode cX4_greenPlaces 15 = .ok (.iload_n 3, 1) := by decide +kernel
theorem dX4_greenPlaces_16 : decode cX4_greenPlaces 16 = .ok (.if_icmp .ge 28, 3) := by decide +kernel
theorem dX4_greenPlaces_19 : decode cX4_greenPlaces 19 = .ok (.aload_n 2, 1) := by decide +kernel
theorem dX4_greenPlaces_20 : decode cX4_greenPlaces 20 = .ok (.iload 4, 2) := by decide +kernel
theorem dX4_greenPlaces_22 : decode cX4_greenPlaces 22 = .ok (.iaload, 1) := by decide +kernel
theorem dX4_greenPlaces_23 : decode cX4_greenPlaces 23 = .ok (.istore 5, 2) := by decide +kernel
theorem dX4_greenPlaces_25 : decode cX4_greenPlaces 25 = .ok (.iload_n 1, 1) := by decide +kernel
theorem dX4_greenPlaces_26 : decode cX4_greenPlaces 26 = .ok (.iload 5, 2) := by decide +kernel
theorem dX4_greenPlaces_28 : decode cX4_greenPlaces 28 = .ok (.ifCond .ne 7, 3) := by decide +kernel
theorem dX4_greenPlaces_31 : decode cX4_greenPlaces 31 = .ok (.iconst 1, 1) := by decide +kernel
theorem dX4_greenPlaces_32 : decode cX4_greenPlaces 32 = .ok (.goto 4, 3) := by decide +kernel
theorem dX4_greenPlaces_35 : decode cX4_greenPlaces 35 = .ok (.iconst 0, 1) := by decide +kernel
theorem dX4_greenPlaces_36 : decode cX4_greenPlaces 36 = .ok (.iadd, 1) := by decide +kernel
theorem dX4_greenPlaces_37 : decode cX4_greenPlaces 37 = .ok (.istore_n 1, 1) := by decide +kernel
theorem dX4_greenPlaces_38 : decode cX4_greenPlaces 38 = .ok (.iinc 4 1, 3) := by decide +kernel
theorem dX4_greenPlaces_41 : decode cX4_greenPlaces 41 = .ok (.goto (-28), 3) := by decide +kernel
theorem dX4_greenPlaces_44 : decode cX4_greenPlaces 44 = .ok (.iload_n 1, 1) := by decide +kernel
theorem dX4_greenPlaces_45 : decode cX4_greenPlaces 45 = .ok (.ireturn, 1) := by decide +kernel
theorem dX4_allSizes_0 : decode cX4_allSizes 0 = .ok (.iconst 0, 1) := by decide +kernel
theorem dX4_allSizes_1 : decode cX4_allSizes 1 = .ok (.istore_n 1, 1) := by decide +kernel
theorem dX4_allSizes_2 : decode cX4_allSizes 2 = .ok (.iconst 0, 1) := by decide +kernel
theorem dX4_allSizes_3 : decode cX4_allSizes 3 = .ok (.istore_n 2, 1) := by decide +kernel
theorem dX4_allSizes_4 : decode cX4_allSizes 4 = .ok (.iload_n 2, 1) := by decide +kernel
theorem dX4_allSizes_5 : decode cX4_allSizes 5 = .ok (.aload_n 0, 1) := by decide +kernel
theorem dX4_allSizes_6 : decode cX4_allSizes 6 = .ok (.getfield 26, 3) := by decide +kernel
theorem dX4_allSizes_9 : decode cX4_allSizes 9 = .ok (.if_icmp .ge 21, 3) := by decide +kernel
theorem dX4_allSizes_12 : decode cX4_allSizes 12 = .ok (.iload_n 1, 1) := by decide +kernel
theorem dX4_allSizes_13 : decode cX4_allSizes 13 = .ok (.aload_n 0, 1) := by decide +kernel
theorem dX4_allSizes_14 : decode cX4_allSizes 14 = .ok (.getfield 17, 3) := by decide +kernel
theorem dX4_allSizes_17 : decode cX4_allSizes 17 = .ok (.iload_n 2, 1) := by decide +kernel
theorem dX4_allSizes_18 : decode cX4_allSizes 18 = .ok (.aaload, 1) := by decide +kernel
theorem dX4_allSizes_19 : decode cX4_allSizes 19 = .ok (.getfield 39, 3) := by decide +kernel
theorem dX4_allSizes_22 : decode cX4_allSizes 22 = .ok (.iadd, 1) := by decide +kernel
theorem dX4_allSizes_23 : decode cX4_allSizes 23 = .ok (.istore_n 1, 1) := by decide +kernel
theorem dX4_allSizes_24 : decode cX4_allSizes 24 = .ok (.iinc 2 1, 3) := by decide +kernel
theorem dX4_allSizes_27 : decode cX4_allSizes 27 = .ok (.goto (-23), 3) := by decide +kernel
theorem dX4_allSizes_30 : decode cX4_allSizes 30 = .ok (.iload_n 1, 1) := by decide +kernel
theorem dX4_allSizes_31 : decode cX4_allSizes 31 = .ok (.ireturn, 1) := by decide +kernel
theorem dX4_goneBalls_0 : decode cX4_goneBalls 0 = .ok (.iconst 0, 1) := by decide +kernel
theorem dX4_goneBalls_1 : decode cX4_goneBalls 1 = .ok (.istore_n 1, 1) := by decide +kernel
theorem dX4_goneBalls_2 : decode cX4_goneBalls 2 = .ok (.iconst 0, 1) := by decide +kernel
theorem dX4_goneBalls_3 : decode cX4_goneBalls 3 = .ok (.istore_n 2, 1) := by decide +kernel
theorem dX4_goneBalls_4 : decode cX4_goneBalls 4 = .ok (.iload_n 2, 1) := by decide +kernel
theorem dX4_goneBalls_5 : decode cX4_goneBalls 5 = .ok (.aload_n 0, 1) := by decide +kernel
theorem dX4_goneBalls_6 : decode cX4_goneBalls 6 = .ok (.getfield 26, 3) := by decide +kernel
theorem dX4_goneBalls_9 : decode cX4_goneBalls 9 = .ok (.if_icmp .ge 29, 3) := by decide +kernel
theorem dX4_goneBalls_12 : decode cX4_goneBalls 12 = .ok (.iload_n 1, 1) := by decide +kernel
theorem dX4_goneBalls_13 : decode cX4_goneBalls 13 = .ok (.aload_n 0, 1) := by decide +kernel
theorem dX4_goneBalls_14 : decode cX4_goneBalls 14 = .ok (.getfield 17, 3) := by decide +kernel
theorem dX4_goneBalls_17 : decode cX4_goneBalls 17 = .ok (.iload_n 2, 1) := by decide +kernel
theorem dX4_goneBalls_18 : decode cX4_goneBalls 18 = .ok (.aaload, 1) := by decide +kernel
theorem dX4_goneBalls_19 : decode cX4_goneBalls 19 = .ok (.invokevirtual 42, 3) := by decide +kernel
theorem dX4_goneBalls_22 : decode cX4_goneBalls 22 = .ok (.ifCond .eq 7, 3) := by decide +kernel
theorem dX4_goneBalls_25 : decode cX4_goneBalls 25 = .ok (.iconst 1, 1) := by decide +kernel
theorem dX4_goneBalls_26 : decode cX4_goneBalls 26 = .ok (.goto 4, 3) := by decide +kernel
theorem dX4_goneBalls_29 : decode cX4_goneBalls 29 = .ok (.iconst 0, 1) := by decide +kernel
theorem dX4_goneBalls_30 : decode cX4_goneBalls 30 = .ok (.iadd, 1) := by decide +kernel
theorem dX4_goneBalls_31 : decode cX4_goneBalls 31 = .ok (.istore_n 1, 1) := by decide +kernel
theorem dX4_goneBalls_32 : decode cX4_goneBalls 32 = .ok (.iinc 2 1, 3) := by decide +kernel
theorem dX4_goneBalls_35 : decode cX4_goneBalls 35 = .ok (.goto (-31), 3) := by decide +kernel
theorem dX4_goneBalls_38 : decode cX4_goneBalls 38 = .ok (.iload_n 1, 1) := by decide +kernel
theorem dX4_goneBalls_39 : decode cX4_goneBalls 39 = .ok (.ireturn, 1) := by decide +kernel
theorem dX4_lowestAt_0 : decode cX4_lowestAt 0 = .ok (.iconst 0, 1) := by decide +kernel
theorem dX4_lowestAt_1 : decode cX4_lowestAt 1 = .ok (.istore_n 2, 1) := by decide +kernel
theorem dX4_lowestAt_2 : decode cX4_lowestAt 2 = .ok (.iload_n 2, 1) := by decide +kernel
theorem dX4_lowestAt_3 : decode cX4_lowestAt 3 = .ok (.aload_n 0, 1) := by decide +kernel
theorem dX4_lowestAt_4 : decode cX4_lowestAt 4 = .ok (.getfield 26, 3) := by decide +kernel
theorem dX4_lowestAt_7 : decode cX4_lowestAt 7 = .ok (.if_icmp .ge 37, 3) := by decide +kernel
theorem dX4_lowestAt_10 : decode cX4_lowestAt 10 = .ok (.aload_n 0, 1) := by decide +kernel
theorem dX4_lowestAt_11 : decode cX4_lowestAt 11 = .ok (.getfield 17, 3) := by decide +kernel
theorem dX4_lowestAt_14 : decode cX4_lowestAt 14 = .ok (.iload_n 2, 1) := by decide +kernel
theorem dX4_lowestAt_15 : decode cX4_lowestAt 15 = .ok (.aaload, 1) := by decide +kernel
theorem dX4_lowestAt_16 : decode cX4_lowestAt 16 = .ok (.getfield 46, 3) := by decide +kernel
theorem dX4_lowestAt_19 : decode cX4_lowestAt 19 = .ok (.iload_n 1, 1) := by decide +kernel
theorem dX4_lowestAt_20 : decode cX4_lowestAt 20 = .ok (.if_icmp .ne 18, 3) := by decide +kernel
theorem dX4_lowestAt_23 : decode cX4_lowestAt 23 = .ok (.aload_n 0, 1) := by decide +kernel
theorem dX4_lowestAt_24 : decode cX4_lowestAt 24 = .ok (.getfield 17, 3) := by decide +kernel
theorem dX4_lowestAt_27 : decode cX4_lowestAt 27 = .ok (.iload_n 2, 1) := by decide +kernel
theorem dX4_lowestAt_28 : decode cX4_lowestAt 28 = .ok (.aaload, 1) := by decide +kernel
theorem dX4_lowestAt_29 : decode cX4_lowestAt 29 = .ok (.getfield 49, 3) := by decide +kernel
theorem dX4_lowestAt_32 : decode cX4_lowestAt 32 = .ok (.iconst (-1), 1) := by decide +kernel
theorem dX4_lowestAt_33 : decode cX4_lowestAt 33 = .ok (.if_icmp .ne 5, 3) := by decide +kernel
theorem dX4_lowestAt_36 : decode cX4_lowestAt 36 = .ok (.iload_n 2, 1) := by decide +kernel
theorem dX4_lowestAt_37 : decode cX4_lowestAt 37 = .ok (.ireturn, 1) := by decide +kernel
theorem dX4_lowestAt_38 : decode cX4_lowestAt 38 = .ok (.iinc 2 1, 3) := by decide +kernel
theorem dX4_lowestAt_41 : decode cX4_lowestAt 41 = .ok (.goto (-39), 3) := by decide +kernel
theorem dX4_lowestAt_44 : decode cX4_lowestAt 44 = .ok (.iconst (-1), 1) := by decide +kernel
theorem dX4_lowestAt_45 : decode cX4_lowestAt 45 = .ok (.ireturn, 1) := by decide +kernel
theorem dX4_manyAt_0 : decode cX4_manyAt 0 = .ok (.iconst 0, 1) := by decide +kernel
theorem dX4_manyAt_1 : decode cX4_manyAt 1 = .ok (.istore_n 2, 1) := by decide +kernel
theorem dX4_manyAt_2 : decode cX4_manyAt 2 = .ok (.iconst 0, 1) := by decide +kernel
theorem dX4_manyAt_3 : decode cX4_manyAt 3 = .ok (.istore_n 3, 1) := by decide +kernel
theorem dX4_manyAt_4 : decode cX4_manyAt 4 = .ok (.iload_n 3, 1) := by decide +kernel
theorem dX4_manyAt_5 : decode cX4_manyAt 5 = .ok (.aload_n 0, 1) := by decide +kernel
theorem dX4_manyAt_6 : decode cX4_manyAt 6 = .ok (.getfield 26, 3) := by decide +kernel
theorem dX4_manyAt_9 : decode cX4_manyAt 9 = .ok (.if_icmp .ge 30, 3) := by decide +kernel
theorem dX4_manyAt_12 : decode cX4_manyAt 12 = .ok (.iload_n 2, 1) := by decide +kernel
theorem dX4_manyAt_13 : decode cX4_manyAt 13 = .ok (.aload_n 0, 1) := by decide +kernel
theorem dX4_manyAt_14 : decode cX4_manyAt 14 = .ok (.getfield 17, 3) := by decide +kernel
theorem dX4_manyAt_17 : decode cX4_manyAt 17 = .ok (.iload_n 3, 1) := by decide +kernel
theorem dX4_manyAt_18 : decode cX4_manyAt 18 = .ok (.aaload, 1) := by decide +kernel
theorem dX4_manyAt_19 : decode cX4_manyAt 19 = .ok (.getfield 46, 3) := by decide +kernel
theorem dX4_manyAt_22 : decode cX4_manyAt 22 = .ok (.iload_n 1, 1) := by decide +kernel
theorem dX4_manyAt_23 : decode cX4_manyAt 23 = .ok (.if_icmp .ne 7, 3) := by decide +kernel
theorem dX4_manyAt_26 : decode cX4_manyAt 26 = .ok (.iconst 1, 1) := by decide +kernel
theorem dX4_manyAt_27 : decode cX4_manyAt 27 = .ok (.goto 4, 3) := by decide +kernel
theorem dX4_manyAt_30 : decode cX4_manyAt 30 = .ok (.iconst 0, 1) := by decide +kernel
theorem dX4_manyAt_31 : decode cX4_manyAt 31 = .ok (.iadd, 1) := by decide +kernel
theorem dX4_manyAt_32 : decode cX4_manyAt 32 = .ok (.istore_n 2, 1) := by decide +kernel
theorem dX4_manyAt_33 : decode cX4_manyAt 33 = .ok (.iinc 3 1, 3) := by decide +kernel
theorem dX4_manyAt_36 : decode cX4_manyAt 36 = .ok (.goto (-32), 3) := by decide +kernel
theorem dX4_manyAt_39 : decode cX4_manyAt 39 = .ok (.iload_n 2, 1) := by decide +kernel
theorem dX4_manyAt_40 : decode cX4_manyAt 40 = .ok (.ireturn, 1) := by decide +kernel
theorem dX4_heightAt_0 : decode cX4_heightAt 0 = .ok (.iconst 0, 1) := by decide +kernel
theorem dX4_heightAt_1 : decode cX4_heightAt 1 = .ok (.istore_n 2, 1) := by decide +kernel
theorem dX4_heightAt_2 : decode cX4_heightAt 2 = .ok (.iconst 0, 1) := by decide +kernel
theorem dX4_heightAt_3 : decode cX4_heightAt 3 = .ok (.istore_n 3, 1) := by decide +kernel
theorem dX4_heightAt_4 : decode cX4_heightAt 4 = .ok (.iload_n 3, 1) := by decide +kernel
theorem dX4_heightAt_5 : decode cX4_heightAt 5 = .ok (.aload_n 0, 1) := by decide +kernel
theorem dX4_heightAt_6 : decode cX4_heightAt 6 = .ok (.getfield 26, 3) := by decide +kernel
theorem dX4_heightAt_9 : decode cX4_heightAt 9 = .ok (.if_icmp .ge 37, 3) := by decide +kernel
theorem dX4_heightAt_12 : decode cX4_heightAt 12 = .ok (.aload_n 0, 1) := by decide +kernel
theorem dX4_heightAt_13 : decode cX4_heightAt 13 = .ok (.getfield 17, 3) := by decide +kernel
theorem dX4_heightAt_16 : decode cX4_heightAt 16 = .ok (.iload_n 3, 1) := by decide +kernel
theorem dX4_heightAt_17 : decode cX4_heightAt 17 = .ok (.aaload, 1) := by decide +kernel
theorem dX4_heightAt_18 : decode cX4_heightAt 18 = .ok (.getfield 46, 3) := by decide +kernel
theorem dX4_heightAt_21 : decode cX4_heightAt 21 = .ok (.iload_n 1, 1) := by decide +kernel
theorem dX4_heightAt_22 : decode cX4_heightAt 22 = .ok (.if_icmp .ne 18, 3) := by decide +kernel
theorem dX4_heightAt_25 : decode cX4_heightAt 25 = .ok (.iload_n 2, 1) := by decide +kernel
theorem dX4_heightAt_26 : decode cX4_heightAt 26 = .ok (.aload_n 0, 1) := by decide +kernel
theorem dX4_heightAt_27 : decode cX4_heightAt 27 = .ok (.getfield 17, 3) := by decide +kernel
theorem dX4_heightAt_30 : decode cX4_heightAt 30 = .ok (.iload_n 3, 1) := by decide +kernel
theorem dX4_heightAt_31 : decode cX4_heightAt 31 = .ok (.aaload, 1) := by decide +kernel
theorem dX4_heightAt_32 : decode cX4_heightAt 32 = .ok (.getfield 39, 3) := by decide +kernel
theorem dX4_heightAt_35 : decode cX4_heightAt 35 = .ok (.invokestatic 52, 3) := by decide +kernel
theorem dX4_heightAt_38 : decode cX4_heightAt 38 = .ok (.iadd, 1) := by decide +kernel
theorem dX4_heightAt_39 : decode cX4_heightAt 39 = .ok (.istore_n 2, 1) := by decide +kernel
theorem dX4_heightAt_40 : decode cX4_heightAt 40 = .ok (.iinc 3 1, 3) := by decide +kernel
theorem dX4_heightAt_43 : decode cX4_heightAt 43 = .ok (.goto (-39), 3) := by decide +kernel
theorem dX4_heightAt_46 : decode cX4_heightAt 46 = .ok (.iload_n 2, 1) := by decide +kernel
theorem dX4_heightAt_47 : decode cX4_heightAt 47 = .ok (.ireturn, 1) := by decide +kernel
theorem dX4_isFree_0 : decode cX4_isFree 0 = .ok (.aload_n 0, 1) := by decide +kernel
theorem dX4_isFree_1 : decode cX4_isFree 1 = .ok (.iload_n 1, 1) := by decide +kernel
theorem dX4_isFree_2 : decode cX4_isFree 2 = .ok (.invokevirtual 56, 3) := by decide +kernel
theorem dX4_isFree_5 : decode cX4_isFree 5 = .ok (.ifCond .ne 7, 3) := by decide +kernel
theorem dX4_isFree_8 : decode cX4_isFree 8 = .ok (.iconst 1, 1) := by decide +kernel
theorem dX4_isFree_9 : decode cX4_isFree 9 = .ok (.goto 4, 3) := by decide +kernel
theorem dX4_isFree_12 : decode cX4_isFree 12 = .ok (.iconst 0, 1) := by decide +kernel
theorem dX4_isFree_13 : decode cX4_isFree 13 = .ok (.ireturn, 1) := by decide +kernel
theorem dX4_isTopped_0 : decode cX4_isTopped 0 = .ok (.iconst 0, 1) := by decide +kernel
theorem dX4_isTopped_1 : decode cX4_isTopped 1 = .ok (.istore_n 2, 1) := by decide +kernel
theorem dX4_isTopped_2 : decode cX4_isTopped 2 = .ok (.iload_n 2, 1) := by decide +kernel
theorem dX4_isTopped_3 : decode cX4_isTopped 3 = .ok (.aload_n 0, 1) := by decide +kernel
theorem dX4_isTopped_4 : decode cX4_isTopped 4 = .ok (.getfield 26, 3) := by decide +kernel
theorem dX4_isTopped_7 : decode cX4_isTopped 7 = .ok (.if_icmp .ge 24, 3) := by decide +kernel
theorem dX4_isTopped_10 : decode cX4_isTopped 10 = .ok (.aload_n 0, 1) := by decide +kernel
theorem dX4_isTopped_11 : decode cX4_isTopped 11 = .ok (.getfield 17, 3) := by decide +kernel
theorem dX4_isTopped_14 : decode cX4_isTopped 14 = .ok (.iload_n 2, 1) := by decide +kernel
theorem dX4_isTopped_15 : decode cX4_isTopped 15 = .ok (.aaload, 1) := by decide +kernel
theorem dX4_isTopped_16 : decode cX4_isTopped 16 = .ok (.getfield 49, 3) := by decide +kernel
theorem dX4_isTopped_19 : decode cX4_isTopped 19 = .ok (.iload_n 1, 1) := by decide +kernel
theorem dX4_isTopped_20 : decode cX4_isTopped 20 = .ok (.if_icmp .ne 5, 3) := by decide +kernel
theorem dX4_isTopped_23 : decode cX4_isTopped 23 = .ok (.iconst 1, 1) := by decide +kernel
theorem dX4_isTopped_24 : decode cX4_isTopped 24 = .ok (.ireturn, 1) := by decide +kernel
theorem dX4_isTopped_25 : decode cX4_isTopped 25 = .ok (.iinc 2 1, 3) := by decide +kernel
theorem dX4_isTopped_28 : decode cX4_isTopped 28 = .ok (.goto (-26), 3) := by decide +kernel
theorem dX4_isTopped_31 : decode cX4_isTopped 31 = .ok (.iconst 0, 1) := by decide +kernel
theorem dX4_isTopped_32 : decode cX4_isTopped 32 = .ok (.ireturn, 1) := by decide +kernel
theorem dX4_standsAlone_0 : decode cX4_standsAlone 0 = .ok (.aload_n 0, 1) := by decide +kernel
theorem dX4_standsAlone_1 : decode cX4_standsAlone 1 = .ok (.getfield 17, 3) := by decide +kernel
theorem dX4_standsAlone_4 : decode cX4_standsAlone 4 = .ok (.iload_n 1, 1) := by decide +kernel
theorem dX4_standsAlone_5 : decode cX4_standsAlone 5 = .ok (.aaload, 1) := by decide +kernel
theorem dX4_standsAlone_6 : decode cX4_standsAlone 6 = .ok (.astore_n 2, 1) := by decide +kernel
theorem dX4_standsAlone_7 : decode cX4_standsAlone 7 = .ok (.aload_n 2, 1) := by decide +kernel
theorem dX4_standsAlone_8 : decode cX4_standsAlone 8 = .ok (.invokevirtual 42, 3) := by decide +kernel
theorem dX4_standsAlone_11 : decode cX4_standsAlone 11 = .ok (.ifCond .ne 23, 3) := by decide +kernel
theorem dX4_standsAlone_14 : decode cX4_standsAlone 14 = .ok (.aload_n 2, 1) := by decide +kernel
theorem dX4_standsAlone_15 : decode cX4_standsAlone 15 = .ok (.getfield 49, 3) := by decide +kernel
theorem dX4_standsAlone_18 : decode cX4_standsAlone 18 = .ok (.iconst (-1), 1) := by decide +kernel
theorem dX4_standsAlone_19 : decode cX4_standsAlone 19 = .ok (.if_icmp .ne 15, 3) := by decide +kernel
theorem dX4_standsAlone_22 : decode cX4_standsAlone 22 = .ok (.aload_n 0, 1) := by decide +kernel
theorem dX4_standsAlone_23 : decode cX4_standsAlone 23 = .ok (.iload_n 1, 1) := by decide +kernel
theorem dX4_standsAlone_24 : decode cX4_standsAlone 24 = .ok (.invokevirtual 59, 3) := by decide +kernel
theorem dX4_standsAlone_27 : decode cX4_standsAlone 27 = .ok (.ifCond .ne 7, 3) := by decide +kernel
theorem dX4_standsAlone_30 : decode cX4_standsAlone 30 = .ok (.iconst 1, 1) := by decide +kernel
theorem dX4_standsAlone_31 : decode cX4_standsAlone 31 = .ok (.goto 4, 3) := by decide +kernel
theorem dX4_standsAlone_34 : decode cX4_standsAlone 34 = .ok (.iconst 0, 1) := by decide +kernel
theorem dX4_standsAlone_35 : decode cX4_standsAlone 35 = .ok (.ireturn, 1) := by decide +kernel
theorem dX4_canRoll_0 : decode cX4_canRoll 0 = .ok (.aload_n 0, 1) := by decide +kernel
theorem dX4_canRoll_1 : decode cX4_canRoll 1 = .ok (.getfield 17, 3) := by decide +kernel
theorem dX4_canRoll_4 : decode cX4_canRoll 4 = .ok (.iload_n 1, 1) := by decide +kernel
theorem dX4_canRoll_5 : decode cX4_canRoll 5 = .ok (.aaload, 1) := by decide +kernel
theorem dX4_canRoll_6 : decode cX4_canRoll 6 = .ok (.astore_n 3, 1) := by decide +kernel
theorem dX4_canRoll_7 : decode cX4_canRoll 7 = .ok (.aload_n 0, 1) := by decide +kernel
theorem dX4_canRoll_8 : decode cX4_canRoll 8 = .ok (.iload_n 1, 1) := by decide +kernel
theorem dX4_canRoll_9 : decode cX4_canRoll 9 = .ok (.invokevirtual 63, 3) := by decide +kernel
theorem dX4_canRoll_12 : decode cX4_canRoll 12 = .ok (.ifCond .eq 22, 3) := by decide +kernel
theorem dX4_canRoll_15 : decode cX4_canRoll 15 = .ok (.aload_n 3, 1) := by decide +kernel
theorem dX4_canRoll_16 : decode cX4_canRoll 16 = .ok (.invokevirtual 66, 3) := by decide +kernel
theorem dX4_canRoll_19 : decode cX4_canRoll 19 = .ok (.aload_n 0, 1) := by decide +kernel
theorem dX4_canRoll_20 : decode cX4_canRoll 20 = .ok (.getfield 22, 3) := by decide +kernel
theorem dX4_canRoll_23 : decode cX4_canRoll 23 = .ok (.if_icmp .gt 11, 3) := by decide +kernel
theorem dX4_canRoll_26 : decode cX4_canRoll 26 = .ok (.aload_n 3, 1) := by decide +kernel
theorem dX4_canRoll_27 : decode cX4_canRoll 27 = .ok (.iload_n 2, 1) := by decide +kernel
theorem dX4_canRoll_28 : decode cX4_canRoll 28 = .ok (.invokevirtual 70, 3) := by decide +kernel
theorem dX4_canRoll_31 : decode cX4_canRoll 31 = .ok (.ifCond .ne 5, 3) := by decide +kernel
theorem dX4_canRoll_34 : decode cX4_canRoll 34 = .ok (.iconst 0, 1) := by decide +kernel
theorem dX4_canRoll_35 : decode cX4_canRoll 35 = .ok (.ireturn, 1) := by decide +kernel
theorem dX4_canRoll_36 : decode cX4_canRoll 36 = .ok (.aload_n 3, 1) := by decide +kernel
theorem dX4_canRoll_37 : decode cX4_canRoll 37 = .ok (.getfield 46, 3) := by decide +kernel
theorem dX4_canRoll_40 : decode cX4_canRoll 40 = .ok (.iload_n 2, 1) := by decide +kernel
theorem dX4_canRoll_41 : decode cX4_canRoll 41 = .ok (.invokestatic 73, 3) := by decide +kernel
theorem dX4_canRoll_44 : decode cX4_canRoll 44 = .ok (.istore 4, 2) := by decide +kernel
theorem dX4_canRoll_46 : decode cX4_canRoll 46 = .ok (.iload 4, 2) := by decide +kernel
theorem dX4_canRoll_48 : decode cX4_canRoll 48 = .ok (.iconst (-1), 1) := by decide +kernel
theorem dX4_canRoll_49 : decode cX4_canRoll 49 = .ok (.if_icmp .eq 16, 3) := by decide +kernel
theorem dX4_canRoll_52 : decode cX4_canRoll 52 = .ok (.aload_n 0, 1) := by decide +kernel
theorem dX4_canRoll_53 : decode cX4_canRoll 53 = .ok (.iload 4, 2) := by decide +kernel
theorem dX4_canRoll_55 : decode cX4_canRoll 55 = .ok (.invokevirtual 77, 3) := by decide +kernel
theorem dX4_canRoll_58 : decode cX4_canRoll 58 = .ok (.ifCond .eq 7, 3) := by decide +kernel
theorem dX4_canRoll_61 : decode cX4_canRoll 61 = .ok (.iconst 1, 1) := by decide +kernel
theorem dX4_canRoll_62 : decode cX4_canRoll 62 = .ok (.goto 4, 3) := by decide +kernel
theorem dX4_canRoll_65 : decode cX4_canRoll 65 = .ok (.iconst 0, 1) := by decide +kernel
theorem dX4_canRoll_66 : decode cX4_canRoll 66 = .ok (.ireturn, 1) := by decide +kernel
theorem dX4_push_0 : decode cX4_push 0 = .ok (.aload_n 0, 1) := by decide +kernel
theorem dX4_push_1 : decode cX4_push 1 = .ok (.getfield 17, 3) := by decide +kernel
theorem dX4_push_4 : decode cX4_push 4 = .ok (.iload_n 1, 1) := by decide +kernel
theorem dX4_push_5 : decode cX4_push 5 = .ok (.aaload, 1) := by decide +kernel
theorem dX4_push_6 : decode cX4_push 6 = .ok (.astore_n 3, 1) := by decide +kernel
theorem dX4_push_7 : decode cX4_push 7 = .ok (.aload_n 3, 1) := by decide +kernel
theorem dX4_push_8 : decode cX4_push 8 = .ok (.getfield 46, 3) := by decide +kernel
theorem dX4_push_11 : decode cX4_push 11 = .ok (.iload_n 2, 1) := by decide +kernel
theorem dX4_push_12 : decode cX4_push 12 = .ok (.invokestatic 73, 3) := by decide +kernel
theorem dX4_push_15 : decode cX4_push 15 = .ok (.istore 4, 2) := by decide +kernel
theorem dX4_push_17 : decode cX4_push 17 = .ok (.iload 4, 2) := by decide +kernel
theorem dX4_push_19 : decode cX4_push 19 = .ok (.iconst (-1), 1) := by decide +kernel
theorem dX4_push_20 : decode cX4_push 20 = .ok (.if_icmp .ne 8, 3) := by decide +kernel
theorem dX4_push_23 : decode cX4_push 23 = .ok (.aload_n 3, 1) := by decide +kernel
theorem dX4_push_24 : decode cX4_push 24 = .ok (.getfield 39, 3) := by decide +kernel
theorem dX4_push_27 : decode cX4_push 27 = .ok (.ireturn, 1) := by decide +kernel
theorem dX4_push_28 : decode cX4_push 28 = .ok (.aload_n 3, 1) := by decide +kernel
theorem dX4_push_29 : decode cX4_push 29 = .ok (.getfield 80, 3) := by decide +kernel
theorem dX4_push_32 : decode cX4_push 32 = .ok (.aload_n 3, 1) := by decide +kernel
theorem dX4_push_33 : decode cX4_push 33 = .ok (.getfield 39, 3) := by decide +kernel
theorem dX4_push_36 : decode cX4_push 36 = .ok (.aload_n 0, 1) := by decide +kernel
theorem dX4_push_37 : decode cX4_push 37 = .ok (.getfield 9, 3) := by decide +kernel
theorem dX4_push_40 : decode cX4_push 40 = .ok (.iload 4, 2) := by decide +kernel
theorem dX4_push_42 : decode cX4_push 42 = .ok (.iaload, 1) := by decide +kernel
theorem dX4_push_43 : decode cX4_push 43 = .ok (.aload_n 0, 1) := by decide +kernel
theorem dX4_push_44 : decode cX4_push 44 = .ok (.getfield 36, 3) := by decide +kernel
theorem dX4_push_47 : decode cX4_push 47 = .ok (.invokevirtual 84, 3) := by decide +kernel
theorem dX4_push_50 : decode cX4_push 50 = .ok (.istore 5, 2) := by decide +kernel
theorem dX4_push_52 : decode cX4_push 52 = .ok (.aload_n 0, 1) := by decide +kernel
theorem dX4_push_53 : decode cX4_push 53 = .ok (.getfield 9, 3) := by decide +kernel
theorem dX4_push_56 : decode cX4_push 56 = .ok (.iload 4, 2) := by decide +kernel
theorem dX4_push_58 : decode cX4_push 58 = .ok (.dup2, 1) := by decide +kernel
theorem dX4_push_59 : decode cX4_push 59 = .ok (.iaload, 1) := by decide +kernel
theorem dX4_push_60 : decode cX4_push 60 = .ok (.iload 5, 2) := by decide +kernel
theorem dX4_push_62 : decode cX4_push 62 = .ok (.isub, 1) := by decide +kernel
theorem dX4_push_63 : decode cX4_push 63 = .ok (.iastore, 1) := by decide +kernel
theorem dX4_push_64 : decode cX4_push 64 = .ok (.aload_n 3, 1) := by decide +kernel
theorem dX4_push_65 : decode cX4_push 65 = .ok (.dup, 1) := by decide +kernel
theorem dX4_push_66 : decode cX4_push 66 = .ok (.getfield 39, 3) := by decide +kernel
theorem dX4_push_69 : decode cX4_push 69 = .ok (.iload 5, 2) := by decide +kernel
theorem dX4_push_71 : decode cX4_push 71 = .ok (.iadd, 1) := by decide +kernel
theorem dX4_push_72 : decode cX4_push 72 = .ok (.putfield 39, 3) := by decide +kernel
theorem dX4_push_75 : decode cX4_push 75 = .ok (.aload_n 3, 1) := by decide +kernel
theorem dX4_push_76 : decode cX4_push 76 = .ok (.iload 4, 2) := by decide +kernel
theorem dX4_push_78 : decode cX4_push 78 = .ok (.putfield 46, 3) := by decide +kernel
theorem dX4_push_81 : decode cX4_push 81 = .ok (.aload_n 3, 1) := by decide +kernel
theorem dX4_push_82 : decode cX4_push 82 = .ok (.getfield 80, 3) := by decide +kernel
theorem dX4_push_85 : decode cX4_push 85 = .ok (.invokevirtual 90, 3) := by decide +kernel
theorem dX4_push_88 : decode cX4_push 88 = .ok (.ifCond .eq 11, 3) := by decide +kernel
theorem dX4_push_91 : decode cX4_push 91 = .ok (.aload_n 3, 1) := by decide +kernel
theorem dX4_push_92 : decode cX4_push 92 = .ok (.iload_n 2, 1) := by decide +kernel
theorem dX4_push_93 : decode cX4_push 93 = .ok (.invokestatic 93, 3) := by decide +kernel
theorem dX4_push_96 : decode cX4_push 96 = .ok (.putfield 96, 3) := by decide +kernel
theorem dX4_push_99 : decode cX4_push 99 = .ok (.aload_n 3, 1) := by decide +kernel
theorem dX4_push_100 : decode cX4_push 100 = .ok (.getfield 80, 3) := by decide +kernel
theorem dX4_push_103 : decode cX4_push 103 = .ok (.aload_n 3, 1) := by decide +kernel
theorem dX4_push_104 : decode cX4_push 104 = .ok (.getfield 39, 3) := by decide +kernel
theorem dX4_push_107 : decode cX4_push 107 = .ok (.invokevirtual 99, 3) := by decide +kernel
theorem dX4_push_110 : decode cX4_push 110 = .ok (.ifCond .eq 7, 3) := by decide +kernel
theorem dX4_push_113 : decode cX4_push 113 = .ok (.aload_n 3, 1) := by decide +kernel
theorem dX4_push_114 : decode cX4_push 114 = .ok (.invokevirtual 102, 3) := by decide +kernel
theorem dX4_push_117 : decode cX4_push 117 = .ok (.aload_n 3, 1) := by decide +kernel
theorem dX4_push_118 : decode cX4_push 118 = .ok (.getfield 39, 3) := by decide +kernel
theorem dX4_push_121 : decode cX4_push 121 = .ok (.ireturn, 1) := by decide +kernel
theorem dX4_canLift_0 : decode cX4_canLift 0 = .ok (.aload_n 0, 1) := by decide +kernel
theorem dX4_canLift_1 : decode cX4_canLift 1 = .ok (.getfield 17, 3) := by decide +kernel
theorem dX4_canLift_4 : decode cX4_canLift 4 = .ok (.iload_n 1, 1) := by decide +kernel
theorem dX4_canLift_5 : decode cX4_canLift 5 = .ok (.aaload, 1) := by decide +kernel
theorem dX4_canLift_6 : decode cX4_canLift 6 = .ok (.astore_n 3, 1) := by decide +kernel
theorem dX4_canLift_7 : decode cX4_canLift 7 = .ok (.aload_n 0, 1) := by decide +kernel
theorem dX4_canLift_8 : decode cX4_canLift 8 = .ok (.getfield 17, 3) := by decide +kernel
theorem dX4_canLift_11 : decode cX4_canLift 11 = .ok (.iload_n 2, 1) := by decide +kernel
theorem dX4_canLift_12 : decode cX4_canLift 12 = .ok (.aaload, 1) := by decide +kernel
theorem dX4_canLift_13 : decode cX4_canLift 13 = .ok (.astore 4, 2) := by decide +kernel
theorem dX4_canLift_15 : decode cX4_canLift 15 = .ok (.aload_n 0, 1) := by decide +kernel
theorem dX4_canLift_16 : decode cX4_canLift 16 = .ok (.iload_n 1, 1) := by decide +kernel
theorem dX4_canLift_17 : decode cX4_canLift 17 = .ok (.invokevirtual 63, 3) := by decide +kernel
theorem dX4_canLift_20 : decode cX4_canLift 20 = .ok (.ifCond .eq 16, 3) := by decide +kernel
theorem dX4_canLift_23 : decode cX4_canLift 23 = .ok (.iconst 2, 1) := by decide +kernel
theorem dX4_canLift_24 : decode cX4_canLift 24 = .ok (.aload_n 3, 1) := by decide +kernel
theorem dX4_canLift_25 : decode cX4_canLift 25 = .ok (.invokevirtual 66, 3) := by decide +kernel
theorem dX4_canLift_28 : decode cX4_canLift 28 = .ok (.imul, 1) := by decide +kernel
theorem dX4_canLift_29 : decode cX4_canLift 29 = .ok (.aload_n 0, 1) := by decide +kernel
theorem dX4_canLift_30 : decode cX4_canLift 30 = .ok (.getfield 22, 3) := by decide +kernel
theorem dX4_canLift_33 : decode cX4_canLift 33 = .ok (.if_icmp .le 5, 3) := by decide +kernel
theorem dX4_canLift_36 : decode cX4_canLift 36 = .ok (.iconst 0, 1) := by decide +kernel
theorem dX4_canLift_37 : decode cX4_canLift 37 = .ok (.ireturn, 1) := by decide +kernel
theorem dX4_canLift_38 : decode cX4_canLift 38 = .ok (.aload 4, 2) := by decide +kernel
theorem dX4_canLift_40 : decode cX4_canLift 40 = .ok (.invokevirtual 42, 3) := by decide +kernel
theorem dX4_canLift_43 : decode cX4_canLift 43 = .ok (.ifCond .ne 23, 3) := by decide +kernel
theorem dX4_canLift_46 : decode cX4_canLift 46 = .ok (.aload_n 0, 1) := by decide +kernel
theorem dX4_canLift_47 : decode cX4_canLift 47 = .ok (.iload_n 2, 1) := by decide +kernel
theorem dX4_canLift_48 : decode cX4_canLift 48 = .ok (.invokevirtual 59, 3) := by decide +kernel
theorem dX4_canLift_51 : decode cX4_canLift 51 = .ok (.ifCond .ne 15, 3) := by decide +kernel
theorem dX4_canLift_54 : decode cX4_canLift 54 = .ok (.aload 4, 2) := by decide +kernel
theorem dX4_canLift_56 : decode cX4_canLift 56 = .ok (.getfield 39, 3) := by decide +kernel
theorem dX4_canLift_59 : decode cX4_canLift 59 = .ok (.aload_n 3, 1) := by decide +kernel
theorem dX4_canLift_60 : decode cX4_canLift 60 = .ok (.getfield 39, 3) := by decide +kernel
theorem dX4_canLift_63 : decode cX4_canLift 63 = .ok (.if_icmp .gt 5, 3) := by decide +kernel
theorem dX4_canLift_66 : decode cX4_canLift 66 = .ok (.iconst 0, 1) := by decide +kernel
theorem dX4_canLift_67 : decode cX4_canLift 67 = .ok (.ireturn, 1) := by decide +kernel
theorem dX4_canLift_68 : decode cX4_canLift 68 = .ok (.aload_n 3, 1) := by decide +kernel
theorem dX4_canLift_69 : decode cX4_canLift 69 = .ok (.getfield 46, 3) := by decide +kernel
theorem dX4_canLift_72 : decode cX4_canLift 72 = .ok (.aload 4, 2) := by decide +kernel
theorem dX4_canLift_74 : decode cX4_canLift 74 = .ok (.getfield 46, 3) := by decide +kernel
theorem dX4_canLift_77 : decode cX4_canLift 77 = .ok (.invokestatic 105, 3) := by decide +kernel
theorem dX4_canLift_80 : decode cX4_canLift 80 = .ok (.ifCond .eq 20, 3) := by decide +kernel
theorem dX4_canLift_83 : decode cX4_canLift 83 = .ok (.aload_n 0, 1) := by decide +kernel
theorem dX4_canLift_84 : decode cX4_canLift 84 = .ok (.aload 4, 2) := by decide +kernel
theorem dX4_canLift_86 : decode cX4_canLift 86 = .ok (.getfield 46, 3) := by decide +kernel
theorem dX4_canLift_89 : decode cX4_canLift 89 = .ok (.invokevirtual 56, 3) := by decide +kernel
theorem dX4_canLift_92 : decode cX4_canLift 92 = .ok (.iconst 3, 1) := by decide +kernel
theorem dX4_canLift_93 : decode cX4_canLift 93 = .ok (.if_icmp .ge 7, 3) := by decide +kernel
theorem dX4_canLift_96 : decode cX4_canLift 96 = .ok (.iconst 1, 1) := by decide +kernel
theorem dX4_canLift_97 : decode cX4_canLift 97 = .ok (.goto 4, 3) := by decide +kernel
theorem dX4_canLift_100 : decode cX4_canLift 100 = .ok (.iconst 0, 1) := by decide +kernel
theorem dX4_canLift_101 : decode cX4_canLift 101 = .ok (.ireturn, 1) := by decide +kernel
theorem dX4_raise_0 : decode cX4_raise 0 = .ok (.aload_n 0, 1) := by decide +kernel
theorem dX4_raise_1 : decode cX4_raise 1 = .ok (.getfield 17, 3) := by decide +kernel
theorem dX4_raise_4 : decode cX4_raise 4 = .ok (.iload_n 1, 1) := by decide +kernel
theorem dX4_raise_5 : decode cX4_raise 5 = .ok (.aaload, 1) := by decide +kernel
theorem dX4_raise_6 : decode cX4_raise 6 = .ok (.aload_n 0, 1) := by decide +kernel
theorem dX4_raise_7 : decode cX4_raise 7 = .ok (.getfield 17, 3) := by decide +kernel
theorem dX4_raise_10 : decode cX4_raise 10 = .ok (.iload_n 2, 1) := by decide +kernel
theorem dX4_raise_11 : decode cX4_raise 11 = .ok (.aaload, 1) := by decide +kernel
theorem dX4_raise_12 : decode cX4_raise 12 = .ok (.getfield 46, 3) := by decide +kernel
theorem dX4_raise_15 : decode cX4_raise 15 = .ok (.putfield 46, 3) := by decide +kernel
theorem dX4_raise_18 : decode cX4_raise 18 = .ok (.aload_n 0, 1) := by decide +kernel
theorem dX4_raise_19 : decode cX4_raise 19 = .ok (.getfield 17, 3) := by decide +kernel
theorem dX4_raise_22 : decode cX4_raise 22 = .ok (.iload_n 1, 1) := by decide +kernel
theorem dX4_raise_23 : decode cX4_raise 23 = .ok (.aaload, 1) := by decide +kernel
theorem dX4_raise_24 : decode cX4_raise 24 = .ok (.iload_n 2, 1) := by decide +kernel
theorem dX4_raise_25 : decode cX4_raise 25 = .ok (.putfield 49, 3) := by decide +kernel
theorem dX4_raise_28 : decode cX4_raise 28 = .ok (.aload_n 0, 1) := by decide +kernel
theorem dX4_raise_29 : decode cX4_raise 29 = .ok (.aload_n 0, 1) := by decide +kernel
theorem dX4_raise_30 : decode cX4_raise 30 = .ok (.getfield 17, 3) := by decide +kernel
theorem dX4_raise_33 : decode cX4_raise 33 = .ok (.iload_n 2, 1) := by decide +kernel
theorem dX4_raise_34 : decode cX4_raise 34 = .ok (.aaload, 1) := by decide +kernel
theorem dX4_raise_35 : decode cX4_raise 35 = .ok (.getfield 46, 3) := by decide +kernel
theorem dX4_raise_38 : decode cX4_raise 38 = .ok (.invokevirtual 109, 3) := by decide +kernel
theorem dX4_raise_41 : decode cX4_raise 41 = .ok (.ireturn, 1) := by decide +kernel
theorem dX4_melt_0 : decode cX4_melt 0 = .ok (.iconst 0, 1) := by decide +kernel
theorem dX4_melt_1 : decode cX4_melt 1 = .ok (.istore_n 2, 1) := by decide +kernel
theorem dX4_melt_2 : decode cX4_melt 2 = .ok (.iconst 0, 1) := by decide +kernel
theorem dX4_melt_3 : decode cX4_melt 3 = .ok (.istore_n 3, 1) := by decide +kernel
theorem dX4_melt_4 : decode cX4_melt 4 = .ok (.iload_n 3, 1) := by decide +kernel
theorem dX4_melt_5 : decode cX4_melt 5 = .ok (.aload_n 0, 1) := by decide +kernel
theorem dX4_melt_6 : decode cX4_melt 6 = .ok (.getfield 26, 3) := by decide +kernel
theorem dX4_melt_9 : decode cX4_melt 9 = .ok (.if_icmp .ge 82, 3) := by decide +kernel
theorem dX4_melt_12 : decode cX4_melt 12 = .ok (.aload_n 0, 1) := by decide +kernel
theorem dX4_melt_13 : decode cX4_melt 13 = .ok (.getfield 17, 3) := by decide +kernel
theorem dX4_melt_16 : decode cX4_melt 16 = .ok (.iload_n 3, 1) := by decide +kernel
theorem dX4_melt_17 : decode cX4_melt 17 = .ok (.aaload, 1) := by decide +kernel
theorem dX4_melt_18 : decode cX4_melt 18 = .ok (.astore 4, 2) := by decide +kernel
theorem dX4_melt_20 : decode cX4_melt 20 = .ok (.aload 4, 2) := by decide +kernel
theorem dX4_melt_22 : decode cX4_melt 22 = .ok (.invokevirtual 42, 3) := by decide +kernel
theorem dX4_melt_25 : decode cX4_melt 25 = .ok (.ifCond .eq 6, 3) := by decide +kernel
theorem dX4_melt_28 : decode cX4_melt 28 = .ok (.goto 57, 3) := by decide +kernel
theorem dX4_melt_31 : decode cX4_melt 31 = .ok (.aload 4, 2) := by decide +kernel
theorem dX4_melt_33 : decode cX4_melt 33 = .ok (.getfield 80, 3) := by decide +kernel
theorem dX4_melt_36 : decode cX4_melt 36 = .ok (.iload_n 1, 1) := by decide +kernel
theorem dX4_melt_37 : decode cX4_melt 37 = .ok (.invokevirtual 112, 3) := by decide +kernel
theorem dX4_melt_40 : decode cX4_melt 40 = .ok (.istore 5, 2) := by decide +kernel
theorem dX4_melt_42 : decode cX4_melt 42 = .ok (.iload 5, 2) := by decide +kernel
theorem dX4_melt_44 : decode cX4_melt 44 = .ok (.aload 4, 2) := by decide +kernel
theorem dX4_melt_46 : decode cX4_melt 46 = .ok (.getfield 39, 3) := by decide +kernel
theorem dX4_melt_49 : decode cX4_melt 49 = .ok (.if_icmp .ge 18, 3) := by decide +kernel
theorem dX4_melt_52 : decode cX4_melt 52 = .ok (.aload 4, 2) := by decide +kernel
theorem dX4_melt_54 : decode cX4_melt 54 = .ok (.dup, 1) := by decide +kernel
theorem dX4_melt_55 : decode cX4_melt 55 = .ok (.getfield 39, 3) := by decide +kernel
theorem dX4_melt_58 : decode cX4_melt 58 = .ok (.iload 5, 2) := by decide +kernel
theorem dX4_melt_60 : decode cX4_melt 60 = .ok (.isub, 1) := by decide +kernel
theorem dX4_melt_61 : decode cX4_melt 61 = .ok (.putfield 39, 3) := by decide +kernel
theorem dX4_melt_64 : decode cX4_melt 64 = .ok (.goto 21, 3) := by decide +kernel
theorem dX4_melt_67 : decode cX4_melt 67 = .ok (.aload_n 0, 1) := by decide +kernel
theorem dX4_melt_68 : decode cX4_melt 68 = .ok (.iload_n 3, 1) := by decide +kernel
theorem dX4_melt_69 : decode cX4_melt 69 = .ok (.aload 4, 2) := by decide +kernel
theorem dX4_melt_71 : decode cX4_melt 71 = .ok (.getfield 49, 3) := by decide +kernel
theorem dX4_melt_74 : decode cX4_melt 74 = .ok (.invokevirtual 115, 3) := by decide +kernel
theorem dX4_melt_77 : decode cX4_melt 77 = .ok (.aload 4, 2) := by decide +kernel
theorem dX4_melt_79 : decode cX4_melt 79 = .ok (.invokevirtual 102, 3) := by decide +kernel
theorem dX4_melt_82 : decode cX4_melt 82 = .ok (.iinc 2 1, 3) := by decide +kernel
theorem dX4_melt_85 : decode cX4_melt 85 = .ok (.iinc 3 1, 3) := by decide +kernel
theorem dX4_melt_88 : decode cX4_melt 88 = .ok (.goto (-84), 3) := by decide +kernel
theorem dX4_melt_91 : decode cX4_melt 91 = .ok (.aload_n 0, 1) := by decide +kernel
theorem dX4_melt_92 : decode cX4_melt 92 = .ok (.dup, 1) := by decide +kernel
theorem dX4_melt_93 : decode cX4_melt 93 = .ok (.getfield 29, 3) := by decide +kernel
theorem dX4_melt_96 : decode cX4_melt 96 = .ok (.iconst 1, 1) := by decide +kernel
theorem dX4_melt_97 : decode cX4_melt 97 = .ok (.iadd, 1) := by decide +kernel
theorem dX4_melt_98 : decode cX4_melt 98 = .ok (.putfield 29, 3) := by decide +kernel
theorem dX4_melt_101 : decode cX4_melt 101 = .ok (.iload_n 2, 1) := by decide +kernel
theorem dX4_melt_102 : decode cX4_melt 102 = .ok (.ireturn, 1) := by decide +kernel
theorem dX4_lower_0 : decode cX4_lower 0 = .ok (.iconst 0, 1) := by decide +kernel
theorem dX4_lower_1 : decode cX4_lower 1 = .ok (.istore_n 3, 1) := by decide +kernel
theorem dX4_lower_2 : decode cX4_lower 2 = .ok (.iload_n 3, 1) := by decide +kernel
theorem dX4_lower_3 : decode cX4_lower 3 = .ok (.aload_n 0, 1) := by decide +kernel
theorem dX4_lower_4 : decode cX4_lower 4 = .ok (.getfield 26, 3) := by decide +kernel
theorem dX4_lower_7 : decode cX4_lower 7 = .ok (.if_icmp .ge 32, 3) := by decide +kernel
theorem dX4_lower_10 : decode cX4_lower 10 = .ok (.aload_n 0, 1) := by decide +kernel
theorem dX4_lower_11 : decode cX4_lower 11 = .ok (.getfield 17, 3) := by decide +kernel
theorem dX4_lower_14 : decode cX4_lower 14 = .ok (.iload_n 3, 1) := by decide +kernel
theorem dX4_lower_15 : decode cX4_lower 15 = .ok (.aaload, 1) := by decide +kernel
theorem dX4_lower_16 : decode cX4_lower 16 = .ok (.getfield 49, 3) := by decide +kernel
theorem dX4_lower_19 : decode cX4_lower 19 = .ok (.iload_n 1, 1) := by decide +kernel
theorem dX4_lower_20 : decode cX4_lower 20 = .ok (.if_icmp .ne 13, 3) := by decide +kernel
theorem dX4_lower_23 : decode cX4_lower 23 = .ok (.aload_n 0, 1) := by decide +kernel
theorem dX4_lower_24 : decode cX4_lower 24 = .ok (.getfield 17, 3) := by decide +kernel
theorem dX4_lower_27 : decode cX4_lower 27 = .ok (.iload_n 3, 1) := by decide +kernel
theorem dX4_lower_28 : decode cX4_lower 28 = .ok (.aaload, 1) := by decide +kernel
theorem dX4_lower_29 : decode cX4_lower 29 = .ok (.iload_n 2, 1) := by decide +kernel
theorem dX4_lower_30 : decode cX4_lower 30 = .ok (.putfield 49, 3) := by decide +kernel
theorem dX4_lower_33 : decode cX4_lower 33 = .ok (.iinc 3 1, 3) := by decide +kernel
theorem dX4_lower_36 : decode cX4_lower 36 = .ok (.goto (-34), 3) := by decide +kernel
theorem dX4_lower_39 : decode cX4_lower 39 = .ok (.return_, 1) := by decide +kernel
theorem dX4_daysToFirstGone_0 : decode cX4_daysToFirstGone 0 = .ok (.iconst (-1), 1) := by decide +kernel
theorem dX4_daysToFirstGone_1 : decode cX4_daysToFirstGone 1 = .ok (.istore_n 2, 1) := by decide +kernel
theorem dX4_daysToFirstGone_2 : decode cX4_daysToFirstGone 2 = .ok (.iconst 0, 1) := by decide +kernel
theorem dX4_daysToFirstGone_3 : decode cX4_daysToFirstGone 3 = .ok (.istore_n 3, 1) := by decide +kernel
theorem dX4_daysToFirstGone_4 : decode cX4_daysToFirstGone 4 = .ok (.iload_n 3, 1) := by decide +kernel
theorem dX4_daysToFirstGone_5 : decode cX4_daysToFirstGone 5 = .ok (.aload_n 0, 1) := by decide +kernel
theorem dX4_daysToFirstGone_6 : decode cX4_daysToFirstGone 6 = .ok (.getfield 26, 3) := by decide +kernel
theorem dX4_daysToFirstGone_9 : decode cX4_daysToFirstGone 9 = .ok (.if_icmp .ge 73, 3) := by decide +kernel
theorem dX4_daysToFirstGone_12 : decode cX4_daysToFirstGone 12 = .ok (.aload_n 0, 1) := by decide +kernel
theorem dX4_daysToFirstGone_13 : decode cX4_daysToFirstGone 13 = .ok (.getfield 17, 3) := by decide +kernel
theorem dX4_daysToFirstGone_16 : decode cX4_daysToFirstGone 16 = .ok (.iload_n 3, 1) := by decide +kernel
theorem dX4_daysToFirstGone_17 : decode cX4_daysToFirstGone 17 = .ok (.aaload, 1) := by decide +kernel
theorem dX4_daysToFirstGone_18 : decode cX4_daysToFirstGone 18 = .ok (.astore 4, 2) := by decide +kernel
theorem dX4_daysToFirstGone_20 : decode cX4_daysToFirstGone 20 = .ok (.aload 4, 2) := by decide +kernel
theorem dX4_daysToFirstGone_22 : decode cX4_daysToFirstGone 22 = .ok (.getfield 80, 3) := by decide +kernel
theorem dX4_daysToFirstGone_25 : decode cX4_daysToFirstGone 25 = .ok (.iload_n 1, 1) := by decide +kernel
theorem dX4_daysToFirstGone_26 : decode cX4_daysToFirstGone 26 = .ok (.invokevirtual 112, 3) := by decide +kernel
theorem dX4_daysToFirstGone_29 : decode cX4_daysToFirstGone 29 = .ok (.istore 5, 2) := by decide +kernel
theorem dX4_daysToFirstGone_31 : decode cX4_daysToFirstGone 31 = .ok (.aload 4, 2) := by decide +kernel
theorem dX4_daysToFirstGone_33 : decode cX4_daysToFirstGone 33 = .ok (.invokevirtual 42, 3) := by decide +kernel
theorem dX4_daysToFirstGone_36 : decode cX4_daysToFirstGone 36 = .ok (.ifCond .ne 40, 3) := by decide +kernel
theorem dX4_daysToFirstGone_39 : decode cX4_daysToFirstGone 39 = .ok (.iload 5, 2) := by decide +kernel
theorem dX4_daysToFirstGone_41 : decode cX4_daysToFirstGone 41 = .ok (.ifCond .gt 6, 3) := by decide +kernel
theorem dX4_daysToFirstGone_44 : decode cX4_daysToFirstGone 44 = .ok (.goto 32, 3) := by decide +kernel
theorem dX4_daysToFirstGone_47 : decode cX4_daysToFirstGone 47 = .ok (.aload 4, 2) := by decide +kernel
theorem dX4_daysToFirstGone_49 : decode cX4_daysToFirstGone 49 = .ok (.getfield 39, 3) := by decide +kernel
theorem dX4_daysToFirstGone_52 : decode cX4_daysToFirstGone 52 = .ok (.iload 5, 2) := by decide +kernel
theorem dX4_daysToFirstGone_54 : decode cX4_daysToFirstGone 54 = .ok (.iadd, 1) := by decide +kernel
theorem dX4_daysToFirstGone_55 : decode cX4_daysToFirstGone 55 = .ok (.iconst 1, 1) := by decide +kernel
theorem dX4_daysToFirstGone_56 : decode cX4_daysToFirstGone 56 = .ok (.isub, 1) := by decide +kernel
theorem dX4_daysToFirstGone_57 : decode cX4_daysToFirstGone 57 = .ok (.iload 5, 2) := by decide +kernel
theorem dX4_daysToFirstGone_59 : decode cX4_daysToFirstGone 59 = .ok (.idiv, 1) := by decide +kernel
theorem dX4_daysToFirstGone_60 : decode cX4_daysToFirstGone 60 = .ok (.istore 6, 2) := by decide +kernel
theorem dX4_daysToFirstGone_62 : decode cX4_daysToFirstGone 62 = .ok (.iload_n 2, 1) := by decide +kernel
theorem dX4_daysToFirstGone_63 : decode cX4_daysToFirstGone 63 = .ok (.iconst (-1), 1) := by decide +kernel
theorem dX4_daysToFirstGone_64 : decode cX4_daysToFirstGone 64 = .ok (.if_icmp .eq 9, 3) := by decide +kernel
theorem dX4_daysToFirstGone_67 : decode cX4_daysToFirstGone 67 = .ok (.iload 6, 2) := by decide +kernel
theorem dX4_daysToFirstGone_69 : decode cX4_daysToFirstGone 69 = .ok (.iload_n 2, 1) := by decide +kernel
theorem dX4_daysToFirstGone_70 : decode cX4_daysToFirstGone 70 = .ok (.if_icmp .ge 6, 3) := by decide +kernel
theorem dX4_daysToFirstGone_73 : decode cX4_daysToFirstGone 73 = .ok (.iload 6, 2) := by decide +kernel
theorem dX4_daysToFirstGone_75 : decode cX4_daysToFirstGone 75 = .ok (.istore_n 2, 1) := by decide +kernel
theorem dX4_daysToFirstGone_76 : decode cX4_daysToFirstGone 76 = .ok (.iinc 3 1, 3) := by decide +kernel
theorem dX4_daysToFirstGone_79 : decode cX4_daysToFirstGone 79 = .ok (.goto (-75), 3) := by decide +kernel
theorem dX4_daysToFirstGone_82 : decode cX4_daysToFirstGone 82 = .ok (.iload_n 2, 1) := by decide +kernel
theorem dX4_daysToFirstGone_83 : decode cX4_daysToFirstGone 83 = .ok (.ireturn, 1) := by decide +kernel
theorem dX4_highestThree_0 : decode cX4_highestThree 0 = .ok (.iconst (-1), 1) := by decide +kernel
theorem dX4_highestThree_1 : decode cX4_highestThree 1 = .ok (.istore_n 1, 1) := by decide +kernel
theorem dX4_highestThree_2 : decode cX4_highestThree 2 = .ok (.iconst 0, 1) := by decide +kernel
theorem dX4_highestThree_3 : decode cX4_highestThree 3 = .ok (.istore_n 2, 1) := by decide +kernel
theorem dX4_highestThree_4 : decode cX4_highestThree 4 = .ok (.iconst 0, 1) := by decide +kernel
theorem dX4_highestThree_5 : decode cX4_highestThree 5 = .ok (.istore_n 3, 1) := by decide +kernel
theorem dX4_highestThree_6 : decode cX4_highestThree 6 = .ok (.iload_n 3, 1) := by decide +kernel
theorem dX4_highestThree_7 : decode cX4_highestThree 7 = .ok (.iconst 1, 1) := by decide +kernel
theorem dX4_highestThree_8 : decode cX4_highestThree 8 = .ok (.aload_n 0, 1) := by decide +kernel
theorem dX4_highestThree_9 : decode cX4_highestThree 9 = .ok (.getfield 26, 3) := by decide +kernel
theorem dX4_highestThree_12 : decode cX4_highestThree 12 = .ok (.ishl, 1) := by decide +kernel
theorem dX4_highestThree_13 : decode cX4_highestThree 13 = .ok (.if_icmp .ge 51, 3) := by decide +kernel
theorem dX4_highestThree_16 : decode cX4_highestThree 16 = .ok (.iload_n 3, 1) := by decide +kernel
theorem dX4_highestThree_17 : decode cX4_highestThree 17 = .ok (.invokestatic 119, 3) := by decide +kernel
theorem dX4_highestThree_20 : decode cX4_highestThree 20 = .ok (.iconst 3, 1) := by decide +kernel
theorem dX4_highestThree_21 : decode cX4_highestThree 21 = .ok (.if_icmp .ne 37, 3) := by decide +kernel
theorem dX4_highestThree_24 : decode cX4_highestThree 24 = .ok (.aload_n 0, 1) := by decide +kernel
theorem dX4_highestThree_25 : decode cX4_highestThree 25 = .ok (.iload_n 3, 1) := by decide +kernel
theorem dX4_highestThree_26 : decode cX4_highestThree 26 = .ok (.invokevirtual 124, 3) := by decide +kernel
theorem dX4_highestThree_29 : decode cX4_highestThree 29 = .ok (.ifCond .ne 6, 3) := by decide +kernel
theorem dX4_highestThree_32 : decode cX4_highestThree 32 = .ok (.goto 26, 3) := by decide +kernel
theorem dX4_highestThree_35 : decode cX4_highestThree 35 = .ok (.aload_n 0, 1) := by decide +kernel
theorem dX4_highestThree_36 : decode cX4_highestThree 36 = .ok (.iload_n 3, 1) := by decide +kernel
theorem dX4_highestThree_37 : decode cX4_highestThree 37 = .ok (.invokevirtual 127, 3) := by decide +kernel
theorem dX4_highestThree_40 : decode cX4_highestThree 40 = .ok (.istore 4, 2) := by decide +kernel
theorem dX4_highestThree_42 : decode cX4_highestThree 42 = .ok (.iload_n 1, 1) := by decide +kernel
theorem dX4_highestThree_43 : decode cX4_highestThree 43 = .ok (.iconst (-1), 1) := by decide +kernel
theorem dX4_highestThree_44 : decode cX4_highestThree 44 = .ok (.if_icmp .eq 9, 3) := by decide +kernel
theorem dX4_highestThree_47 : decode cX4_highestThree 47 = .ok (.iload 4, 2) := by decide +kernel
theorem dX4_highestThree_49 : decode cX4_highestThree 49 = .ok (.iload_n 2, 1) := by decide +kernel
theorem dX4_highestThree_50 : decode cX4_highestThree 50 = .ok (.if_icmp .le 8, 3) := by decide +kernel
theorem dX4_highestThree_53 : decode cX4_highestThree 53 = .ok (.iload_n 3, 1) := by decide +kernel
theorem dX4_highestThree_54 : decode cX4_highestThree 54 = .ok (.istore_n 1, 1) := by decide +kernel
theorem dX4_highestThree_55 : decode cX4_highestThree 55 = .ok (.iload 4, 2) := by decide +kernel
theorem dX4_highestThree_57 : decode cX4_highestThree 57 = .ok (.istore_n 2, 1) := by decide +kernel
theorem dX4_highestThree_58 : decode cX4_highestThree 58 = .ok (.iinc 3 1, 3) := by decide +kernel
theorem dX4_highestThree_61 : decode cX4_highestThree 61 = .ok (.goto (-55), 3) := by decide +kernel
theorem dX4_highestThree_64 : decode cX4_highestThree 64 = .ok (.iload_n 1, 1) := by decide +kernel
theorem dX4_highestThree_65 : decode cX4_highestThree 65 = .ok (.ireturn, 1) := by decide +kernel
theorem dX4_heightOfAll_0 : decode cX4_heightOfAll 0 = .ok (.iconst 0, 1) := by decide +kernel
theorem dX4_heightOfAll_1 : decode cX4_heightOfAll 1 = .ok (.istore_n 2, 1) := by decide +kernel
theorem dX4_heightOfAll_2 : decode cX4_heightOfAll 2 = .ok (.iconst 0, 1) := by decide +kernel
theorem dX4_heightOfAll_3 : decode cX4_heightOfAll 3 = .ok (.istore_n 3, 1) := by decide +kernel
theorem dX4_heightOfAll_4 : decode cX4_heightOfAll 4 = .ok (.iload_n 3, 1) := by decide +kernel
theorem dX4_heightOfAll_5 : decode cX4_heightOfAll 5 = .ok (.aload_n 0, 1) := by decide +kernel
theorem dX4_heightOfAll_6 : decode cX4_heightOfAll 6 = .ok (.getfield 26, 3) := by decide +kernel
theorem dX4_heightOfAll_9 : decode cX4_heightOfAll 9 = .ok (.if_icmp .ge 32, 3) := by decide +kernel
theorem dX4_heightOfAll_12 : decode cX4_heightOfAll 12 = .ok (.iload_n 1, 1) := by decide +kernel
theorem dX4_heightOfAll_13 : decode cX4_heightOfAll 13 = .ok (.iload_n 3, 1) := by decide +kernel
theorem dX4_heightOfAll_14 : decode cX4_heightOfAll 14 = .ok (.invokestatic 130, 3) := by decide +kernel
theorem dX4_heightOfAll_17 : decode cX4_heightOfAll 17 = .ok (.ifCond .eq 18, 3) := by decide +kernel
theorem dX4_heightOfAll_20 : decode cX4_heightOfAll 20 = .ok (.iload_n 2, 1) := by decide +kernel
theorem dX4_heightOfAll_21 : decode cX4_heightOfAll 21 = .ok (.aload_n 0, 1) := by decide +kernel
theorem dX4_heightOfAll_22 : decode cX4_heightOfAll 22 = .ok (.getfield 17, 3) := by decide +kernel
theorem dX4_heightOfAll_25 : decode cX4_heightOfAll 25 = .ok (.iload_n 3, 1) := by decide +kernel
theorem dX4_heightOfAll_26 : decode cX4_heightOfAll 26 = .ok (.aaload, 1) := by decide +kernel
theorem dX4_heightOfAll_27 : decode cX4_heightOfAll 27 = .ok (.getfield 39, 3) := by decide +kernel
theorem dX4_heightOfAll_30 : decode cX4_heightOfAll 30 = .ok (.invokestatic 52, 3) := by decide +kernel
theorem dX4_heightOfAll_33 : decode cX4_heightOfAll 33 = .ok (.iadd, 1) := by decide +kernel
theorem dX4_heightOfAll_34 : decode cX4_heightOfAll 34 = .ok (.istore_n 2, 1) := by decide +kernel
theorem dX4_heightOfAll_35 : decode cX4_heightOfAll 35 = .ok (.iinc 3 1, 3) := by decide +kernel
theorem dX4_heightOfAll_38 : decode cX4_heightOfAll 38 = .ok (.goto (-34), 3) := by decide +kernel
theorem dX4_heightOfAll_41 : decode cX4_heightOfAll 41 = .ok (.iload_n 2, 1) := by decide +kernel
theorem dX4_heightOfAll_42 : decode cX4_heightOfAll 42 = .ok (.ireturn, 1) := by decide +kernel
theorem dX4_couldStack_0 : decode cX4_couldStack 0 = .ok (.iconst 0, 1) := by decide +kernel
theorem dX4_couldStack_1 : decode cX4_couldStack 1 = .ok (.istore_n 2, 1) := by decide +kernel
theorem dX4_couldStack_2 : decode cX4_couldStack 2 = .ok (.iload_n 2, 1) := by decide +kernel
theorem dX4_couldStack_3 : decode cX4_couldStack 3 = .ok (.aload_n 0, 1) := by decide +kernel
theorem dX4_couldStack_4 : decode cX4_couldStack 4 = .ok (.getfield 26, 3) := by decide +kernel
theorem dX4_couldStack_7 : decode cX4_couldStack 7 = .ok (.if_icmp .ge 40, 3) := by decide +kernel
theorem dX4_couldStack_10 : decode cX4_couldStack 10 = .ok (.iload_n 1, 1) := by decide +kernel
theorem dX4_couldStack_11 : decode cX4_couldStack 11 = .ok (.iload_n 2, 1) := by decide +kernel
theorem dX4_couldStack_12 : decode cX4_couldStack 12 = .ok (.invokestatic 130, 3) := by decide +kernel
theorem dX4_couldStack_15 : decode cX4_couldStack 15 = .ok (.ifCond .eq 26, 3) := by decide +kernel
theorem dX4_couldStack_18 : decode cX4_couldStack 18 = .ok (.aload_n 0, 1) := by decide +kernel
theorem dX4_couldStack_19 : decode cX4_couldStack 19 = .ok (.getfield 17, 3) := by decide +kernel
theorem dX4_couldStack_22 : decode cX4_couldStack 22 = .ok (.iload_n 2, 1) := by decide +kernel
theorem dX4_couldStack_23 : decode cX4_couldStack 23 = .ok (.aaload, 1) := by decide +kernel
theorem dX4_couldStack_24 : decode cX4_couldStack 24 = .ok (.invokevirtual 42, 3) := by decide +kernel
theorem dX4_couldStack_27 : decode cX4_couldStack 27 = .ok (.ifCond .ne 12, 3) := by decide +kernel
theorem dX4_couldStack_30 : decode cX4_couldStack 30 = .ok (.aload_n 0, 1) := by decide +kernel
theorem dX4_couldStack_31 : decode cX4_couldStack 31 = .ok (.iload_n 1, 1) := by decide +kernel
theorem dX4_couldStack_32 : decode cX4_couldStack 32 = .ok (.iload_n 2, 1) := by decide +kernel
theorem dX4_couldStack_33 : decode cX4_couldStack 33 = .ok (.invokevirtual 133, 3) := by decide +kernel
theorem dX4_couldStack_36 : decode cX4_couldStack 36 = .ok (.ifCond .ne 5, 3) := by decide +kernel
theorem dX4_couldStack_39 : decode cX4_couldStack 39 = .ok (.iconst 0, 1) := by decide +kernel
theorem dX4_couldStack_40 : decode cX4_couldStack 40 = .ok (.ireturn, 1) := by decide +kernel
theorem dX4_couldStack_41 : decode cX4_couldStack 41 = .ok (.iinc 2 1, 3) := by decide +kernel
theorem dX4_couldStack_44 : decode cX4_couldStack 44 = .ok (.goto (-42), 3) := by decide +kernel
theorem dX4_couldStack_47 : decode cX4_couldStack 47 = .ok (.iconst 1, 1) := by decide +kernel
theorem dX4_couldStack_48 : decode cX4_couldStack 48 = .ok (.ireturn, 1) := by decide +kernel
theorem dX4_couldJoin_0 : decode cX4_couldJoin 0 = .ok (.iconst 1, 1) := by decide +kernel
theorem dX4_couldJoin_1 : decode cX4_couldJoin 1 = .ok (.istore_n 3, 1) := by decide +kernel
theorem dX4_couldJoin_2 : decode cX4_couldJoin 2 = .ok (.iconst 0, 1) := by decide +kernel
theorem dX4_couldJoin_3 : decode cX4_couldJoin 3 = .ok (.istore 4, 2) := by decide +kernel
theorem dX4_couldJoin_5 : decode cX4_couldJoin 5 = .ok (.iload 4, 2) := by decide +kernel
theorem dX4_couldJoin_7 : decode cX4_couldJoin 7 = .ok (.aload_n 0, 1) := by decide +kernel
theorem dX4_couldJoin_8 : decode cX4_couldJoin 8 = .ok (.getfield 26, 3) := by decide +kernel
theorem dX4_couldJoin_11 : decode cX4_couldJoin 11 = .ok (.if_icmp .ge 75, 3) := by decide +kernel
theorem dX4_couldJoin_14 : decode cX4_couldJoin 14 = .ok (.iload 4, 2) := by decide +kernel
theorem dX4_couldJoin_16 : decode cX4_couldJoin 16 = .ok (.iload_n 2, 1) := by decide +kernel
theorem dX4_couldJoin_17 : decode cX4_couldJoin 17 = .ok (.if_icmp .eq 63, 3) := by decide +kernel
theorem dX4_couldJoin_20 : decode cX4_couldJoin 20 = .ok (.iload_n 1, 1) := by decide +kernel
theorem dX4_couldJoin_21 : decode cX4_couldJoin 21 = .ok (.iload 4, 2) := by decide +kernel
theorem dX4_couldJoin_23 : decode cX4_couldJoin 23 = .ok (.invokestatic 130, 3) := by decide +kernel
theorem dX4_couldJoin_26 : decode cX4_couldJoin 26 = .ok (.ifCond .ne 6, 3) := by decide +kernel
theorem dX4_couldJoin_29 : decode cX4_couldJoin 29 = .ok (.goto 51, 3) := by decide +kernel
theorem dX4_couldJoin_32 : decode cX4_couldJoin 32 = .ok (.aload_n 0, 1) := by decide +kernel
theorem dX4_couldJoin_33 : decode cX4_couldJoin 33 = .ok (.getfield 17, 3) := by decide +kernel
theorem dX4_couldJoin_36 : decode cX4_couldJoin 36 = .ok (.iload 4, 2) := by decide +kernel
theorem dX4_couldJoin_38 : decode cX4_couldJoin 38 = .ok (.aaload, 1) := by decide +kernel
theorem dX4_couldJoin_39 : decode cX4_couldJoin 39 = .ok (.getfield 39, 3) := by decide +kernel
theorem dX4_couldJoin_42 : decode cX4_couldJoin 42 = .ok (.aload_n 0, 1) := by decide +kernel
theorem dX4_couldJoin_43 : decode cX4_couldJoin 43 = .ok (.getfield 17, 3) := by decide +kernel
theorem dX4_couldJoin_46 : decode cX4_couldJoin 46 = .ok (.iload_n 2, 1) := by decide +kernel
theorem dX4_couldJoin_47 : decode cX4_couldJoin 47 = .ok (.aaload, 1) := by decide +kernel
theorem dX4_couldJoin_48 : decode cX4_couldJoin 48 = .ok (.getfield 39, 3) := by decide +kernel
theorem dX4_couldJoin_51 : decode cX4_couldJoin 51 = .ok (.if_icmp .ne 5, 3) := by decide +kernel
theorem dX4_couldJoin_54 : decode cX4_couldJoin 54 = .ok (.iconst 0, 1) := by decide +kernel
theorem dX4_couldJoin_55 : decode cX4_couldJoin 55 = .ok (.ireturn, 1) := by decide +kernel
theorem dX4_couldJoin_56 : decode cX4_couldJoin 56 = .ok (.aload_n 0, 1) := by decide +kernel
theorem dX4_couldJoin_57 : decode cX4_couldJoin 57 = .ok (.getfield 17, 3) := by decide +kernel
theorem dX4_couldJoin_60 : decode cX4_couldJoin 60 = .ok (.iload 4, 2) := by decide +kernel
theorem dX4_couldJoin_62 : decode cX4_couldJoin 62 = .ok (.aaload, 1) := by decide +kernel
theorem dX4_couldJoin_63 : decode cX4_couldJoin 63 = .ok (.getfield 39, 3) := by decide +kernel
theorem dX4_couldJoin_66 : decode cX4_couldJoin 66 = .ok (.aload_n 0, 1) := by decide +kernel
theorem dX4_couldJoin_67 : decode cX4_couldJoin 67 = .ok (.getfield 17, 3) := by decide +kernel
theorem dX4_couldJoin_70 : decode cX4_couldJoin 70 = .ok (.iload_n 2, 1) := by decide +kernel
theorem dX4_couldJoin_71 : decode cX4_couldJoin 71 = .ok (.aaload, 1) := by decide +kernel
theorem dX4_couldJoin_72 : decode cX4_couldJoin 72 = .ok (.getfield 39, 3) := by decide +kernel
theorem dX4_couldJoin_75 : decode cX4_couldJoin 75 = .ok (.if_icmp .le 5, 3) := by decide +kernel
theorem dX4_couldJoin_78 : decode cX4_couldJoin 78 = .ok (.iconst 0, 1) := by decide +kernel
theorem dX4_couldJoin_79 : decode cX4_couldJoin 79 = .ok (.istore_n 3, 1) := by decide +kernel
theorem dX4_couldJoin_80 : decode cX4_couldJoin 80 = .ok (.iinc 4 1, 3) := by decide +kernel
theorem dX4_couldJoin_83 : decode cX4_couldJoin 83 = .ok (.goto (-78), 3) := by decide +kernel
theorem dX4_couldJoin_86 : decode cX4_couldJoin 86 = .ok (.iload_n 3, 1) := by decide +kernel
theorem dX4_couldJoin_87 : decode cX4_couldJoin 87 = .ok (.ifCond .ne 21, 3) := by decide +kernel
theorem dX4_couldJoin_90 : decode cX4_couldJoin 90 = .ok (.iconst 2, 1) := by decide +kernel
theorem dX4_couldJoin_91 : decode cX4_couldJoin 91 = .ok (.aload_n 0, 1) := by decide +kernel
theorem dX4_couldJoin_92 : decode cX4_couldJoin 92 = .ok (.getfield 17, 3) := by decide +kernel
theorem dX4_couldJoin_95 : decode cX4_couldJoin 95 = .ok (.iload_n 2, 1) := by decide +kernel
theorem dX4_couldJoin_96 : decode cX4_couldJoin 96 = .ok (.aaload, 1) := by decide +kernel
theorem dX4_couldJoin_97 : decode cX4_couldJoin 97 = .ok (.invokevirtual 66, 3) := by decide +kernel
theorem dX4_couldJoin_100 : decode cX4_couldJoin 100 = .ok (.imul, 1) := by decide +kernel
theorem dX4_couldJoin_101 : decode cX4_couldJoin 101 = .ok (.aload_n 0, 1) := by decide +kernel
theorem dX4_couldJoin_102 : decode cX4_couldJoin 102 = .ok (.getfield 22, 3) := by decide +kernel
theorem dX4_couldJoin_105 : decode cX4_couldJoin 105 = .ok (.if_icmp .gt 7, 3) := by decide +kernel
theorem dX4_couldJoin_108 : decode cX4_couldJoin 108 = .ok (.iconst 1, 1) := by decide +kernel
theorem dX4_couldJoin_109 : decode cX4_couldJoin 109 = .ok (.goto 4, 3) := by decide +kernel
theorem dX4_couldJoin_112 : decode cX4_couldJoin 112 = .ok (.iconst 0, 1) := by decide +kernel
theorem dX4_couldJoin_113 : decode cX4_couldJoin 113 = .ok (.ireturn, 1) := by decide +kernel
theorem dX4_isIn_0 : decode cX4_isIn 0 = .ok (.iload_n 0, 1) := by decide +kernel
theorem dX4_isIn_1 : decode cX4_isIn 1 = .ok (.iload_n 1, 1) := by decide +kernel
theorem dX4_isIn_2 : decode cX4_isIn 2 = .ok (.ishr, 1) := by decide +kernel
theorem dX4_isIn_3 : decode cX4_isIn 3 = .ok (.iconst 1, 1) := by decide +kernel
theorem dX4_isIn_4 : decode cX4_isIn 4 = .ok (.iand, 1) := by decide +kernel
theorem dX4_isIn_5 : decode cX4_isIn 5 = .ok (.iconst 1, 1) := by decide +kernel
theorem dX4_isIn_6 : decode cX4_isIn 6 = .ok (.if_icmp .ne 7, 3) := by decide +kernel
theorem dX4_isIn_9 : decode cX4_isIn 9 = .ok (.iconst 1, 1) := by decide +kernel
theorem dX4_isIn_10 : decode cX4_isIn 10 = .ok (.goto 4, 3) := by decide +kernel
theorem dX4_isIn_13 : decode cX4_isIn 13 = .ok (.iconst 0, 1) := by decide +kernel
theorem dX4_isIn_14 : decode cX4_isIn 14 = .ok (.ireturn, 1) := by decide +kernel
theorem dX5_init_0 : decode cX5_init 0 = .ok (.aload_n 0, 1) := by decide +kernel
theorem dX5_init_1 : decode cX5_init 1 = .ok (.invokespecial 1, 3) := by decide +kernel
theorem dX5_init_4 : decode cX5_init 4 = .ok (.return_, 1) := by decide +kernel
theorem dX6_init_0 : decode cX6_init 0 = .ok (.aload_n 0, 1) := by decide +kernel
theorem dX6_init_1 : decode cX6_init 1 = .ok (.invokespecial 1, 3) := by decide +kernel
theorem dX6_init_4 : decode cX6_init 4 = .ok (.return_, 1) := by decide +kernel
theorem dX6_begin_0 : decode cX6_begin 0 = .ok (.aload_n 0, 1) := by decide +kernel
theorem dX6_begin_1 : decode cX6_begin 1 = .ok (.iload_n 1, 1) := by decide +kernel
theorem dX6_begin_2 : decode cX6_begin 2 = .ok (.putfield 7, 3) := by decide +kernel
theorem dX6_begin_5 : decode cX6_begin 5 = .ok (.aload_n 0, 1) := by decide +kernel
theorem dX6_begin_6 : decode cX6_begin 6 = .ok (.iload_n 2, 1) := by decide +kernel
theorem dX6_begin_7 : decode cX6_begin 7 = .ok (.putfield 13, 3) := by decide +kernel
theorem dX6_begin_10 : decode cX6_begin 10 = .ok (.aload_n 0, 1) := by decide +kernel
theorem dX6_begin_11 : decode cX6_begin 11 = .ok (.iconst 0, 1) := by decide +kernel
theorem dX6_begin_12 : decode cX6_begin 12 = .ok (.putfield 16, 3) := by decide +kernel
theorem dX6_begin_15 : decode cX6_begin 15 = .ok (.return_, 1) := by decide +kernel
theorem dX6_meet_0 : decode cX6_meet 0 = .ok (.iload_n 2, 1) := by decide +kernel
theorem dX6_meet_1 : decode cX6_meet 1 = .ok (.aload_n 0, 1) := by decide +kernel
theorem dX6_meet_2 : decode cX6_meet 2 = .ok (.getfield 7, 3) := by decide +kernel
theorem dX6_meet_5 : decode cX6_meet 5 = .ok (.if_icmp .ne 24, 3) := by decide +kernel
theorem dX6_meet_8 : decode cX6_meet 8 = .ok (.aload_n 1, 1) := by decide +kernel
theorem dX6_meet_9 : decode cX6_meet 9 = .ok (.getfield 19, 3) := by decide +kernel
theorem dX6_meet_12 : decode cX6_meet 12 = .ok (.aload_n 0, 1) := by decide +kernel
theorem dX6_meet_13 : decode cX6_meet 13 = .ok (.getfield 13, 3) := by decide +kernel
theorem dX6_meet_16 : decode cX6_meet 16 = .ok (.if_icmp .ne 13, 3) := by decide +kernel
theorem dX6_meet_19 : decode cX6_meet 19 = .ok (.aload_n 0, 1) := by decide +kernel
theorem dX6_meet_20 : decode cX6_meet 20 = .ok (.dup, 1) := by decide +kernel
theorem dX6_meet_21 : decode cX6_meet 21 = .ok (.getfield 16, 3) := by decide +kernel
theorem dX6_meet_24 : decode cX6_meet 24 = .ok (.iconst 1, 1) := by decide +kernel
theorem dX6_meet_25 : decode cX6_meet 25 = .ok (.iadd, 1) := by decide +kernel
theorem dX6_meet_26 : decode cX6_meet 26 = .ok (.putfield 16, 3) := by decide +kernel
theorem dX6_meet_29 : decode cX6_meet 29 = .ok (.return_, 1) := by decide +kernel
theorem dJ6_bitCount_0f7a4_0 : decode cJ6_bitCount_0f7a4 0 = .ok (.iload_n 0, 1) := by decide +kernel
theorem dJ6_bitCount_0f7a4_1 : decode cJ6_bitCount_0f7a4 1 = .ok (.iload_n 0, 1) := by decide +kernel
theorem dJ6_bitCount_0f7a4_2 : decode cJ6_bitCount_0f7a4 2 = .ok (.iconst 1, 1) := by decide +kernel
theorem dJ6_bitCount_0f7a4_3 : decode cJ6_bitCount_0f7a4 3 = .ok (.iushr, 1) := by decide +kernel
theorem dJ6_bitCount_0f7a4_4 : decode cJ6_bitCount_0f7a4 4 = .ok (.ldc_w 265, 3) := by decide +kernel
theorem dJ6_bitCount_0f7a4_7 : decode cJ6_bitCount_0f7a4 7 = .ok (.iand, 1) := by decide +kernel
theorem dJ6_bitCount_0f7a4_8 : decode cJ6_bitCount_0f7a4 8 = .ok (.isub, 1) := by decide +kernel
theorem dJ6_bitCount_0f7a4_9 : decode cJ6_bitCount_0f7a4 9 = .ok (.istore_n 0, 1) := by decide +kernel
theorem dJ6_bitCount_0f7a4_10 : decode cJ6_bitCount_0f7a4 10 = .ok (.iload_n 0, 1) := by decide +kernel
theorem dJ6_bitCount_0f7a4_11 : decode cJ6_bitCount_0f7a4 11 = .ok (.ldc_w 266, 3) := by decide +kernel
theorem dJ6_bitCount_0f7a4_14 : decode cJ6_bitCount_0f7a4 14 = .ok (.iand, 1) := by decide +kernel
theorem dJ6_bitCount_0f7a4_15 : decode cJ6_bitCount_0f7a4 15 = .ok (.iload_n 0, 1) := by decide +kernel
theorem dJ6_bitCount_0f7a4_16 : decode cJ6_bitCount_0f7a4 16 = .ok (.iconst 2, 1) := by decide +kernel
theorem dJ6_bitCount_0f7a4_17 : decode cJ6_bitCount_0f7a4 17 = .ok (.iushr, 1) := by decide +kernel
theorem dJ6_bitCount_0f7a4_18 : decode cJ6_bitCount_0f7a4 18 = .ok (.ldc_w 266, 3) := by decide +kernel
theorem dJ6_bitCount_0f7a4_21 : decode cJ6_bitCount_0f7a4 21 = .ok (.iand, 1) := by decide +kernel
theorem dJ6_bitCount_0f7a4_22 : decode cJ6_bitCount_0f7a4 22 = .ok (.iadd, 1) := by decide +kernel
theorem dJ6_bitCount_0f7a4_23 : decode cJ6_bitCount_0f7a4 23 = .ok (.istore_n 0, 1) := by decide +kernel
theorem dJ6_bitCount_0f7a4_24 : decode cJ6_bitCount_0f7a4 24 = .ok (.iload_n 0, 1) := by decide +kernel
theorem dJ6_bitCount_0f7a4_25 : decode cJ6_bitCount_0f7a4 25 = .ok (.iload_n 0, 1) := by decide +kernel
theorem dJ6_bitCount_0f7a4_26 : decode cJ6_bitCount_0f7a4 26 = .ok (.iconst 4, 1) := by decide +kernel
theorem dJ6_bitCount_0f7a4_27 : decode cJ6_bitCount_0f7a4 27 = .ok (.iushr, 1) := by decide +kernel
theorem dJ6_bitCount_0f7a4_28 : decode cJ6_bitCount_0f7a4 28 = .ok (.iadd, 1) := by decide +kernel
theorem dJ6_bitCount_0f7a4_29 : decode cJ6_bitCount_0f7a4 29 = .ok (.ldc_w 267, 3) := by decide +kernel
theorem dJ6_bitCount_0f7a4_32 : decode cJ6_bitCount_0f7a4 32 = .ok (.iand, 1) := by decide +kernel
theorem dJ6_bitCount_0f7a4_33 : decode cJ6_bitCount_0f7a4 33 = .ok (.istore_n 0, 1) := by decide +kernel
theorem dJ6_bitCount_0f7a4_34 : decode cJ6_bitCount_0f7a4 34 = .ok (.iload_n 0, 1) := by decide +kernel
theorem dJ6_bitCount_0f7a4_35 : decode cJ6_bitCount_0f7a4 35 = .ok (.iload_n 0, 1) := by decide +kernel
theorem dJ6_bitCount_0f7a4_36 : decode cJ6_bitCount_0f7a4 36 = .ok (.bipush 8, 2) := by decide +kernel
theorem dJ6_bitCount_0f7a4_38 : decode cJ6_bitCount_0f7a4 38 = .ok (.iushr, 1) := by decide +kernel
theorem dJ6_bitCount_0f7a4_39 : decode cJ6_bitCount_0f7a4 39 = .ok (.iadd, 1) := by decide +kernel
theorem dJ6_bitCount_0f7a4_40 : decode cJ6_bitCount_0f7a4 40 = .ok (.istore_n 0, 1) := by decide +kernel
theorem dJ6_bitCount_0f7a4_41 : decode cJ6_bitCount_0f7a4 41 = .ok (.iload_n 0, 1) := by decide +kernel
theorem dJ6_bitCount_0f7a4_42 : decode cJ6_bitCount_0f7a4 42 = .ok (.iload_n 0, 1) := by decide +kernel
theorem dJ6_bitCount_0f7a4_43 : decode cJ6_bitCount_0f7a4 43 = .ok (.bipush 16, 2) := by decide +kernel
theorem dJ6_bitCount_0f7a4_45 : decode cJ6_bitCount_0f7a4 45 = .ok (.iushr, 1) := by decide +kernel
theorem dJ6_bitCount_0f7a4_46 : decode cJ6_bitCount_0f7a4 46 = .ok (.iadd, 1) := by decide +kernel
theorem dJ6_bitCount_0f7a4_47 : decode cJ6_bitCount_0f7a4 47 = .ok (.istore_n 0, 1) := by decide +kernel
theorem dJ6_bitCount_0f7a4_48 : decode cJ6_bitCount_0f7a4 48 = .ok (.iload_n 0, 1) := by decide +kernel
theorem dJ6_bitCount_0f7a4_49 : decode cJ6_bitCount_0f7a4 49 = .ok (.bipush 63, 2) := by decide +kernel
theorem dJ6_bitCount_0f7a4_51 : decode cJ6_bitCount_0f7a4 51 = .ok (.iand, 1) := by decide +kernel
theorem dJ6_bitCount_0f7a4_52 : decode cJ6_bitCount_0f7a4 52 = .ok (.ireturn, 1) := by decide +kernel
theorem dJ9_min_7cf53_0 : decode cJ9_min_7cf53 0 = .ok (.iload_n 0, 1) := by decide +kernel
theorem dJ9_min_7cf53_1 : decode cJ9_min_7cf53 1 = .ok (.iload_n 1, 1) := by decide +kernel
theorem dJ9_min_7cf53_2 : decode cJ9_min_7cf53 2 = .ok (.if_icmp .gt 7, 3) := by decide +kernel
theorem dJ9_min_7cf53_5 : decode cJ9_min_7cf53 5 = .ok (.iload_n 0, 1) := by decide +kernel
theorem dJ9_min_7cf53_6 : decode cJ9_min_7cf53 6 = .ok (.goto 4, 3) := by decide +kernel
theorem dJ9_min_7cf53_9 : decode cJ9_min_7cf53 9 = .ok (.iload_n 1, 1) := by decide +kernel
theorem dJ9_min_7cf53_10 : decode cJ9_min_7cf53 10 = .ok (.ireturn, 1) := by decide +kernel
