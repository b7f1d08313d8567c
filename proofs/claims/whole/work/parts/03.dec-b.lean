theorem dX7_init_0 : decode cX7_init 0 = .ok (.aload_n 0, 1) := by decide +kernel
theorem dX7_init_1 : decode cX7_init 1 = .ok (.invokespecial 3, 3) := by decide +kernel
theorem dX7_init_4 : decode cX7_init 4 = .ok (.aload_n 0, 1) := by decide +kernel
theorem dX7_init_5 : decode cX7_init 5 = .ok (.bipush 26, 2) := by decide +kernel
theorem dX7_init_7 : decode cX7_init 7 = .ok (.newarray .char, 2) := by decide +kernel
theorem dX7_init_9 : decode cX7_init 9 = .ok (.putfield 9, 3) := by decide +kernel
theorem dX7_init_12 : decode cX7_init 12 = .ok (.aload_n 0, 1) := by decide +kernel
theorem dX7_init_13 : decode cX7_init 13 = .ok (.new 13, 3) := by decide +kernel
theorem dX7_init_16 : decode cX7_init 16 = .ok (.dup, 1) := by decide +kernel
theorem dX7_init_17 : decode cX7_init 17 = .ok (.invokespecial 15, 3) := by decide +kernel
theorem dX7_init_20 : decode cX7_init 20 = .ok (.putfield 16, 3) := by decide +kernel
theorem dX7_init_23 : decode cX7_init 23 = .ok (.aload_n 0, 1) := by decide +kernel
theorem dX7_init_24 : decode cX7_init 24 = .ok (.new 13, 3) := by decide +kernel
theorem dX7_init_27 : decode cX7_init 27 = .ok (.dup, 1) := by decide +kernel
theorem dX7_init_28 : decode cX7_init 28 = .ok (.invokespecial 15, 3) := by decide +kernel
theorem dX7_init_31 : decode cX7_init 31 = .ok (.putfield 20, 3) := by decide +kernel
theorem dX7_init_34 : decode cX7_init 34 = .ok (.aload_n 0, 1) := by decide +kernel
theorem dX7_init_35 : decode cX7_init 35 = .ok (.new 13, 3) := by decide +kernel
theorem dX7_init_38 : decode cX7_init 38 = .ok (.dup, 1) := by decide +kernel
theorem dX7_init_39 : decode cX7_init 39 = .ok (.invokespecial 15, 3) := by decide +kernel
theorem dX7_init_42 : decode cX7_init 42 = .ok (.putfield 23, 3) := by decide +kernel
theorem dX7_init_45 : decode cX7_init 45 = .ok (.aload_n 0, 1) := by decide +kernel
theorem dX7_init_46 : decode cX7_init 46 = .ok (.new 26, 3) := by decide +kernel
theorem dX7_init_49 : decode cX7_init 49 = .ok (.dup, 1) := by decide +kernel
theorem dX7_init_50 : decode cX7_init 50 = .ok (.invokespecial 28, 3) := by decide +kernel
theorem dX7_init_53 : decode cX7_init 53 = .ok (.putfield 29, 3) := by decide +kernel
theorem dX7_init_56 : decode cX7_init 56 = .ok (.aload_n 0, 1) := by decide +kernel
theorem dX7_init_57 : decode cX7_init 57 = .ok (.new 33, 3) := by decide +kernel
theorem dX7_init_60 : decode cX7_init 60 = .ok (.dup, 1) := by decide +kernel
theorem dX7_init_61 : decode cX7_init 61 = .ok (.invokespecial 35, 3) := by decide +kernel
theorem dX7_init_64 : decode cX7_init 64 = .ok (.putfield 36, 3) := by decide +kernel
theorem dX7_init_67 : decode cX7_init 67 = .ok (.aload_n 0, 1) := by decide +kernel
theorem dX7_init_68 : decode cX7_init 68 = .ok (.new 40, 3) := by decide +kernel
theorem dX7_init_71 : decode cX7_init 71 = .ok (.dup, 1) := by decide +kernel
theorem dX7_init_72 : decode cX7_init 72 = .ok (.invokespecial 42, 3) := by decide +kernel
theorem dX7_init_75 : decode cX7_init 75 = .ok (.putfield 43, 3) := by decide +kernel
theorem dX7_init_78 : decode cX7_init 78 = .ok (.return_, 1) := by decide +kernel
theorem dX7_letter_0 : decode cX7_letter 0 = .ok (.iload_n 1, 1) := by decide +kernel
theorem dX7_letter_1 : decode cX7_letter 1 = .ok (.bipush 32, 2) := by decide +kernel
theorem dX7_letter_3 : decode cX7_letter 3 = .ok (.bipush 126, 2) := by decide +kernel
theorem dX7_letter_5 : decode cX7_letter 5 = .ok (.invokestatic 47, 3) := by decide +kernel
theorem dX7_letter_8 : decode cX7_letter 8 = .ok (.ifCond .eq 6, 3) := by decide +kernel
theorem dX7_letter_11 : decode cX7_letter 11 = .ok (.bipush (-102), 2) := by decide +kernel
theorem dX7_letter_13 : decode cX7_letter 13 = .ok (.ireturn, 1) := by decide +kernel
theorem dX7_letter_14 : decode cX7_letter 14 = .ok (.aload_n 0, 1) := by decide +kernel
theorem dX7_letter_15 : decode cX7_letter 15 = .ok (.getfield 51, 3) := by decide +kernel
theorem dX7_letter_18 : decode cX7_letter 18 = .ok (.bipush 26, 2) := by decide +kernel
theorem dX7_letter_20 : decode cX7_letter 20 = .ok (.if_icmp .lt 6, 3) := by decide +kernel
theorem dX7_letter_23 : decode cX7_letter 23 = .ok (.bipush (-104), 2) := by decide +kernel
theorem dX7_letter_25 : decode cX7_letter 25 = .ok (.ireturn, 1) := by decide +kernel
theorem dX7_letter_26 : decode cX7_letter 26 = .ok (.aload_n 0, 1) := by decide +kernel
theorem dX7_letter_27 : decode cX7_letter 27 = .ok (.getfield 9, 3) := by decide +kernel
theorem dX7_letter_30 : decode cX7_letter 30 = .ok (.aload_n 0, 1) := by decide +kernel
theorem dX7_letter_31 : decode cX7_letter 31 = .ok (.getfield 51, 3) := by decide +kernel
theorem dX7_letter_34 : decode cX7_letter 34 = .ok (.iload_n 1, 1) := by decide +kernel
theorem dX7_letter_35 : decode cX7_letter 35 = .ok (.i2c, 1) := by decide +kernel
theorem dX7_letter_36 : decode cX7_letter 36 = .ok (.castore, 1) := by decide +kernel
theorem dX7_letter_37 : decode cX7_letter 37 = .ok (.aload_n 0, 1) := by decide +kernel
theorem dX7_letter_38 : decode cX7_letter 38 = .ok (.dup, 1) := by decide +kernel
theorem dX7_letter_39 : decode cX7_letter 39 = .ok (.getfield 51, 3) := by decide +kernel
theorem dX7_letter_42 : decode cX7_letter 42 = .ok (.iconst 1, 1) := by decide +kernel
theorem dX7_letter_43 : decode cX7_letter 43 = .ok (.iadd, 1) := by decide +kernel
theorem dX7_letter_44 : decode cX7_letter 44 = .ok (.putfield 51, 3) := by decide +kernel
theorem dX7_letter_47 : decode cX7_letter 47 = .ok (.aload_n 0, 1) := by decide +kernel
theorem dX7_letter_48 : decode cX7_letter 48 = .ok (.getfield 51, 3) := by decide +kernel
theorem dX7_letter_51 : decode cX7_letter 51 = .ok (.ireturn, 1) := by decide +kernel
theorem dX7_blank_0 : decode cX7_blank 0 = .ok (.aload_n 0, 1) := by decide +kernel
theorem dX7_blank_1 : decode cX7_blank 1 = .ok (.getfield 51, 3) := by decide +kernel
theorem dX7_blank_4 : decode cX7_blank 4 = .ok (.istore_n 1, 1) := by decide +kernel
theorem dX7_blank_5 : decode cX7_blank 5 = .ok (.aload_n 0, 1) := by decide +kernel
theorem dX7_blank_6 : decode cX7_blank 6 = .ok (.iconst 0, 1) := by decide +kernel
theorem dX7_blank_7 : decode cX7_blank 7 = .ok (.putfield 51, 3) := by decide +kernel
theorem dX7_blank_10 : decode cX7_blank 10 = .ok (.iload_n 1, 1) := by decide +kernel
theorem dX7_blank_11 : decode cX7_blank 11 = .ok (.ireturn, 1) := by decide +kernel
theorem dX7_fault_0 : decode cX7_fault 0 = .ok (.iconst 0, 1) := by decide +kernel
theorem dX7_fault_1 : decode cX7_fault 1 = .ok (.istore_n 1, 1) := by decide +kernel
theorem dX7_fault_2 : decode cX7_fault 2 = .ok (.iload_n 1, 1) := by decide +kernel
theorem dX7_fault_3 : decode cX7_fault 3 = .ok (.aload_n 0, 1) := by decide +kernel
theorem dX7_fault_4 : decode cX7_fault 4 = .ok (.getfield 51, 3) := by decide +kernel
theorem dX7_fault_7 : decode cX7_fault 7 = .ok (.if_icmp .ge 24, 3) := by decide +kernel
theorem dX7_fault_10 : decode cX7_fault 10 = .ok (.iload_n 1, 1) := by decide +kernel
theorem dX7_fault_11 : decode cX7_fault 11 = .ok (.aload_n 0, 1) := by decide +kernel
theorem dX7_fault_12 : decode cX7_fault 12 = .ok (.getfield 9, 3) := by decide +kernel
theorem dX7_fault_15 : decode cX7_fault 15 = .ok (.iload_n 1, 1) := by decide +kernel
theorem dX7_fault_16 : decode cX7_fault 16 = .ok (.caload, 1) := by decide +kernel
theorem dX7_fault_17 : decode cX7_fault 17 = .ok (.invokestatic 55, 3) := by decide +kernel
theorem dX7_fault_20 : decode cX7_fault 20 = .ok (.ifCond .ne 5, 3) := by decide +kernel
theorem dX7_fault_23 : decode cX7_fault 23 = .ok (.iload_n 1, 1) := by decide +kernel
theorem dX7_fault_24 : decode cX7_fault 24 = .ok (.ireturn, 1) := by decide +kernel
theorem dX7_fault_25 : decode cX7_fault 25 = .ok (.iinc 1 1, 3) := by decide +kernel
theorem dX7_fault_28 : decode cX7_fault 28 = .ok (.goto (-26), 3) := by decide +kernel
theorem dX7_fault_31 : decode cX7_fault 31 = .ok (.aload_n 0, 1) := by decide +kernel
theorem dX7_fault_32 : decode cX7_fault 32 = .ok (.getfield 51, 3) := by decide +kernel
theorem dX7_fault_35 : decode cX7_fault 35 = .ok (.ireturn, 1) := by decide +kernel
theorem dX7_lawn_0 : decode cX7_lawn 0 = .ok (.aload_n 0, 1) := by decide +kernel
theorem dX7_lawn_1 : decode cX7_lawn 1 = .ok (.getfield 51, 3) := by decide +kernel
theorem dX7_lawn_4 : decode cX7_lawn 4 = .ok (.bipush 25, 2) := by decide +kernel
theorem dX7_lawn_6 : decode cX7_lawn 6 = .ok (.if_icmp .ne 12, 3) := by decide +kernel
theorem dX7_lawn_9 : decode cX7_lawn 9 = .ok (.aload_n 0, 1) := by decide +kernel
theorem dX7_lawn_10 : decode cX7_lawn 10 = .ok (.invokevirtual 59, 3) := by decide +kernel
theorem dX7_lawn_13 : decode cX7_lawn 13 = .ok (.bipush 25, 2) := by decide +kernel
theorem dX7_lawn_15 : decode cX7_lawn 15 = .ok (.if_icmp .eq 6, 3) := by decide +kernel
theorem dX7_lawn_18 : decode cX7_lawn 18 = .ok (.bipush (-103), 2) := by decide +kernel
theorem dX7_lawn_20 : decode cX7_lawn 20 = .ok (.ireturn, 1) := by decide +kernel
theorem dX7_lawn_21 : decode cX7_lawn 21 = .ok (.aload_n 0, 1) := by decide +kernel
theorem dX7_lawn_22 : decode cX7_lawn 22 = .ok (.getfield 16, 3) := by decide +kernel
theorem dX7_lawn_25 : decode cX7_lawn 25 = .ok (.invokevirtual 63, 3) := by decide +kernel
theorem dX7_lawn_28 : decode cX7_lawn 28 = .ok (.iconst 0, 1) := by decide +kernel
theorem dX7_lawn_29 : decode cX7_lawn 29 = .ok (.istore_n 1, 1) := by decide +kernel
theorem dX7_lawn_30 : decode cX7_lawn 30 = .ok (.iload_n 1, 1) := by decide +kernel
theorem dX7_lawn_31 : decode cX7_lawn 31 = .ok (.bipush 20, 2) := by decide +kernel
theorem dX7_lawn_33 : decode cX7_lawn 33 = .ok (.if_icmp .ge 30, 3) := by decide +kernel
theorem dX7_lawn_36 : decode cX7_lawn 36 = .ok (.aload_n 0, 1) := by decide +kernel
theorem dX7_lawn_37 : decode cX7_lawn 37 = .ok (.getfield 16, 3) := by decide +kernel
theorem dX7_lawn_40 : decode cX7_lawn 40 = .ok (.getfield 66, 3) := by decide +kernel
theorem dX7_lawn_43 : decode cX7_lawn 43 = .ok (.iload_n 1, 1) := by decide +kernel
theorem dX7_lawn_44 : decode cX7_lawn 44 = .ok (.aload_n 0, 1) := by decide +kernel
theorem dX7_lawn_45 : decode cX7_lawn 45 = .ok (.getfield 9, 3) := by decide +kernel
theorem dX7_lawn_48 : decode cX7_lawn 48 = .ok (.iload_n 1, 1) := by decide +kernel
theorem dX7_lawn_49 : decode cX7_lawn 49 = .ok (.invokestatic 70, 3) := by decide +kernel
theorem dX7_lawn_52 : decode cX7_lawn 52 = .ok (.caload, 1) := by decide +kernel
theorem dX7_lawn_53 : decode cX7_lawn 53 = .ok (.bipush 48, 2) := by decide +kernel
theorem dX7_lawn_55 : decode cX7_lawn 55 = .ok (.isub, 1) := by decide +kernel
theorem dX7_lawn_56 : decode cX7_lawn 56 = .ok (.iastore, 1) := by decide +kernel
theorem dX7_lawn_57 : decode cX7_lawn 57 = .ok (.iinc 1 1, 3) := by decide +kernel
theorem dX7_lawn_60 : decode cX7_lawn 60 = .ok (.goto (-30), 3) := by decide +kernel
theorem dX7_lawn_63 : decode cX7_lawn 63 = .ok (.aload_n 0, 1) := by decide +kernel
theorem dX7_lawn_64 : decode cX7_lawn 64 = .ok (.getfield 16, 3) := by decide +kernel
theorem dX7_lawn_67 : decode cX7_lawn 67 = .ok (.aload_n 0, 1) := by decide +kernel
theorem dX7_lawn_68 : decode cX7_lawn 68 = .ok (.getfield 9, 3) := by decide +kernel
theorem dX7_lawn_71 : decode cX7_lawn 71 = .ok (.bipush 24, 2) := by decide +kernel
theorem dX7_lawn_73 : decode cX7_lawn 73 = .ok (.caload, 1) := by decide +kernel
theorem dX7_lawn_74 : decode cX7_lawn 74 = .ok (.bipush 48, 2) := by decide +kernel
theorem dX7_lawn_76 : decode cX7_lawn 76 = .ok (.isub, 1) := by decide +kernel
theorem dX7_lawn_77 : decode cX7_lawn 77 = .ok (.putfield 74, 3) := by decide +kernel
theorem dX7_lawn_80 : decode cX7_lawn 80 = .ok (.aload_n 0, 1) := by decide +kernel
theorem dX7_lawn_81 : decode cX7_lawn 81 = .ok (.iconst 0, 1) := by decide +kernel
theorem dX7_lawn_82 : decode cX7_lawn 82 = .ok (.putfield 51, 3) := by decide +kernel
theorem dX7_lawn_85 : decode cX7_lawn 85 = .ok (.aload_n 0, 1) := by decide +kernel
theorem dX7_lawn_86 : decode cX7_lawn 86 = .ok (.dup, 1) := by decide +kernel
theorem dX7_lawn_87 : decode cX7_lawn 87 = .ok (.getfield 77, 3) := by decide +kernel
theorem dX7_lawn_90 : decode cX7_lawn 90 = .ok (.iconst 1, 1) := by decide +kernel
theorem dX7_lawn_91 : decode cX7_lawn 91 = .ok (.iadd, 1) := by decide +kernel
theorem dX7_lawn_92 : decode cX7_lawn 92 = .ok (.putfield 77, 3) := by decide +kernel
theorem dX7_lawn_95 : decode cX7_lawn 95 = .ok (.aload_n 0, 1) := by decide +kernel
theorem dX7_lawn_96 : decode cX7_lawn 96 = .ok (.iconst 0, 1) := by decide +kernel
theorem dX7_lawn_97 : decode cX7_lawn 97 = .ok (.putfield 80, 3) := by decide +kernel
theorem dX7_lawn_100 : decode cX7_lawn 100 = .ok (.aload_n 0, 1) := by decide +kernel
theorem dX7_lawn_101 : decode cX7_lawn 101 = .ok (.getfield 16, 3) := by decide +kernel
theorem dX7_lawn_104 : decode cX7_lawn 104 = .ok (.invokevirtual 84, 3) := by decide +kernel
theorem dX7_lawn_107 : decode cX7_lawn 107 = .ok (.ireturn, 1) := by decide +kernel
theorem dX7_place_0 : decode cX7_place 0 = .ok (.iload_n 1, 1) := by decide +kernel
theorem dX7_place_1 : decode cX7_place 1 = .ok (.invokestatic 87, 3) := by decide +kernel
theorem dX7_place_4 : decode cX7_place 4 = .ok (.ifCond .ne 6, 3) := by decide +kernel
theorem dX7_place_7 : decode cX7_place 7 = .ok (.bipush (-101), 2) := by decide +kernel
theorem dX7_place_9 : decode cX7_place 9 = .ok (.ireturn, 1) := by decide +kernel
theorem dX7_place_10 : decode cX7_place 10 = .ok (.iload_n 2, 1) := by decide +kernel
theorem dX7_place_11 : decode cX7_place 11 = .ok (.iconst 0, 1) := by decide +kernel
theorem dX7_place_12 : decode cX7_place 12 = .ok (.iconst 2, 1) := by decide +kernel
theorem dX7_place_13 : decode cX7_place 13 = .ok (.invokestatic 47, 3) := by decide +kernel
theorem dX7_place_16 : decode cX7_place 16 = .ok (.ifCond .eq 6, 3) := by decide +kernel
theorem dX7_place_19 : decode cX7_place 19 = .ok (.bipush (-102), 2) := by decide +kernel
theorem dX7_place_21 : decode cX7_place 21 = .ok (.ireturn, 1) := by decide +kernel
theorem dX7_place_22 : decode cX7_place 22 = .ok (.aload_n 0, 1) := by decide +kernel
theorem dX7_place_23 : decode cX7_place 23 = .ok (.invokevirtual 91, 3) := by decide +kernel
theorem dX7_place_26 : decode cX7_place 26 = .ok (.ifCond .ne 6, 3) := by decide +kernel
theorem dX7_place_29 : decode cX7_place 29 = .ok (.bipush (-103), 2) := by decide +kernel
theorem dX7_place_31 : decode cX7_place 31 = .ok (.ireturn, 1) := by decide +kernel
theorem dX7_place_32 : decode cX7_place 32 = .ok (.iload_n 2, 1) := by decide +kernel
theorem dX7_place_33 : decode cX7_place 33 = .ok (.ifCond .ne 13, 3) := by decide +kernel
theorem dX7_place_36 : decode cX7_place 36 = .ok (.aload_n 0, 1) := by decide +kernel
theorem dX7_place_37 : decode cX7_place 37 = .ok (.getfield 16, 3) := by decide +kernel
theorem dX7_place_40 : decode cX7_place 40 = .ok (.getfield 66, 3) := by decide +kernel
theorem dX7_place_43 : decode cX7_place 43 = .ok (.iload_n 1, 1) := by decide +kernel
theorem dX7_place_44 : decode cX7_place 44 = .ok (.iaload, 1) := by decide +kernel
theorem dX7_place_45 : decode cX7_place 45 = .ok (.ireturn, 1) := by decide +kernel
theorem dX7_place_46 : decode cX7_place 46 = .ok (.iload_n 2, 1) := by decide +kernel
theorem dX7_place_47 : decode cX7_place 47 = .ok (.iconst 1, 1) := by decide +kernel
theorem dX7_place_48 : decode cX7_place 48 = .ok (.if_icmp .ne 14, 3) := by decide +kernel
theorem dX7_place_51 : decode cX7_place 51 = .ok (.aload_n 0, 1) := by decide +kernel
theorem dX7_place_52 : decode cX7_place 52 = .ok (.getfield 16, 3) := by decide +kernel
theorem dX7_place_55 : decode cX7_place 55 = .ok (.iload_n 1, 1) := by decide +kernel
theorem dX7_place_56 : decode cX7_place 56 = .ok (.invokevirtual 95, 3) := by decide +kernel
theorem dX7_place_59 : decode cX7_place 59 = .ok (.goto 11, 3) := by decide +kernel
theorem dX7_place_62 : decode cX7_place 62 = .ok (.aload_n 0, 1) := by decide +kernel
theorem dX7_place_63 : decode cX7_place 63 = .ok (.getfield 16, 3) := by decide +kernel
theorem dX7_place_66 : decode cX7_place 66 = .ok (.iload_n 1, 1) := by decide +kernel
theorem dX7_place_67 : decode cX7_place 67 = .ok (.invokevirtual 98, 3) := by decide +kernel
theorem dX7_place_70 : decode cX7_place 70 = .ok (.ireturn, 1) := by decide +kernel
theorem dX7_strength_0 : decode cX7_strength 0 = .ok (.iload_n 1, 1) := by decide +kernel
theorem dX7_strength_1 : decode cX7_strength 1 = .ok (.iconst 1, 1) := by decide +kernel
theorem dX7_strength_2 : decode cX7_strength 2 = .ok (.bipush 99, 2) := by decide +kernel
theorem dX7_strength_4 : decode cX7_strength 4 = .ok (.invokestatic 47, 3) := by decide +kernel
theorem dX7_strength_7 : decode cX7_strength 7 = .ok (.ifCond .eq 6, 3) := by decide +kernel
theorem dX7_strength_10 : decode cX7_strength 10 = .ok (.bipush (-102), 2) := by decide +kernel
theorem dX7_strength_12 : decode cX7_strength 12 = .ok (.ireturn, 1) := by decide +kernel
theorem dX7_strength_13 : decode cX7_strength 13 = .ok (.aload_n 0, 1) := by decide +kernel
theorem dX7_strength_14 : decode cX7_strength 14 = .ok (.invokevirtual 91, 3) := by decide +kernel
theorem dX7_strength_17 : decode cX7_strength 17 = .ok (.ifCond .ne 6, 3) := by decide +kernel
theorem dX7_strength_20 : decode cX7_strength 20 = .ok (.bipush (-103), 2) := by decide +kernel
theorem dX7_strength_22 : decode cX7_strength 22 = .ok (.ireturn, 1) := by decide +kernel
theorem dX7_strength_23 : decode cX7_strength 23 = .ok (.aload_n 0, 1) := by decide +kernel
theorem dX7_strength_24 : decode cX7_strength 24 = .ok (.getfield 16, 3) := by decide +kernel
theorem dX7_strength_27 : decode cX7_strength 27 = .ok (.getfield 101, 3) := by decide +kernel
theorem dX7_strength_30 : decode cX7_strength 30 = .ok (.istore_n 2, 1) := by decide +kernel
theorem dX7_strength_31 : decode cX7_strength 31 = .ok (.aload_n 0, 1) := by decide +kernel
theorem dX7_strength_32 : decode cX7_strength 32 = .ok (.getfield 16, 3) := by decide +kernel
theorem dX7_strength_35 : decode cX7_strength 35 = .ok (.iload_n 1, 1) := by decide +kernel
theorem dX7_strength_36 : decode cX7_strength 36 = .ok (.putfield 101, 3) := by decide +kernel
theorem dX7_strength_39 : decode cX7_strength 39 = .ok (.iload_n 2, 1) := by decide +kernel
theorem dX7_strength_40 : decode cX7_strength 40 = .ok (.ireturn, 1) := by decide +kernel
theorem dX7_ball_0 : decode cX7_ball 0 = .ok (.iload_n 2, 1) := by decide +kernel
theorem dX7_ball_1 : decode cX7_ball 1 = .ok (.invokestatic 87, 3) := by decide +kernel
theorem dX7_ball_4 : decode cX7_ball 4 = .ok (.ifCond .ne 6, 3) := by decide +kernel
theorem dX7_ball_7 : decode cX7_ball 7 = .ok (.bipush (-101), 2) := by decide +kernel
theorem dX7_ball_9 : decode cX7_ball 9 = .ok (.ireturn, 1) := by decide +kernel
theorem dX7_ball_10 : decode cX7_ball 10 = .ok (.iload_n 1, 1) := by decide +kernel
theorem dX7_ball_11 : decode cX7_ball 11 = .ok (.invokestatic 104, 3) := by decide +kernel
theorem dX7_ball_14 : decode cX7_ball 14 = .ok (.ifCond .ne 6, 3) := by decide +kernel
theorem dX7_ball_17 : decode cX7_ball 17 = .ok (.bipush (-102), 2) := by decide +kernel
theorem dX7_ball_19 : decode cX7_ball 19 = .ok (.ireturn, 1) := by decide +kernel
theorem dX7_ball_20 : decode cX7_ball 20 = .ok (.aload_n 0, 1) := by decide +kernel
theorem dX7_ball_21 : decode cX7_ball 21 = .ok (.invokevirtual 91, 3) := by decide +kernel
theorem dX7_ball_24 : decode cX7_ball 24 = .ok (.ifCond .eq 14, 3) := by decide +kernel
theorem dX7_ball_27 : decode cX7_ball 27 = .ok (.aload_n 0, 1) := by decide +kernel
theorem dX7_ball_28 : decode cX7_ball 28 = .ok (.getfield 16, 3) := by decide +kernel
theorem dX7_ball_31 : decode cX7_ball 31 = .ok (.iload_n 2, 1) := by decide +kernel
theorem dX7_ball_32 : decode cX7_ball 32 = .ok (.invokevirtual 107, 3) := by decide +kernel
theorem dX7_ball_35 : decode cX7_ball 35 = .ok (.ifCond .ne 6, 3) := by decide +kernel
theorem dX7_ball_38 : decode cX7_ball 38 = .ok (.bipush (-103), 2) := by decide +kernel
theorem dX7_ball_40 : decode cX7_ball 40 = .ok (.ireturn, 1) := by decide +kernel
theorem dX7_ball_41 : decode cX7_ball 41 = .ok (.aload_n 0, 1) := by decide +kernel
theorem dX7_ball_42 : decode cX7_ball 42 = .ok (.getfield 16, 3) := by decide +kernel
theorem dX7_ball_45 : decode cX7_ball 45 = .ok (.getfield 110, 3) := by decide +kernel
theorem dX7_ball_48 : decode cX7_ball 48 = .ok (.iconst 4, 1) := by decide +kernel
theorem dX7_ball_49 : decode cX7_ball 49 = .ok (.if_icmp .lt 6, 3) := by decide +kernel
theorem dX7_ball_52 : decode cX7_ball 52 = .ok (.bipush (-104), 2) := by decide +kernel
theorem dX7_ball_54 : decode cX7_ball 54 = .ok (.ireturn, 1) := by decide +kernel
theorem dX7_ball_55 : decode cX7_ball 55 = .ok (.aload_n 0, 1) := by decide +kernel
theorem dX7_ball_56 : decode cX7_ball 56 = .ok (.getfield 16, 3) := by decide +kernel
theorem dX7_ball_59 : decode cX7_ball 59 = .ok (.getfield 113, 3) := by decide +kernel
theorem dX7_ball_62 : decode cX7_ball 62 = .ok (.aload_n 0, 1) := by decide +kernel
theorem dX7_ball_63 : decode cX7_ball 63 = .ok (.getfield 16, 3) := by decide +kernel
theorem dX7_ball_66 : decode cX7_ball 66 = .ok (.getfield 110, 3) := by decide +kernel
theorem dX7_ball_69 : decode cX7_ball 69 = .ok (.aaload, 1) := by decide +kernel
theorem dX7_ball_70 : decode cX7_ball 70 = .ok (.getstatic 117, 3) := by decide +kernel
theorem dX7_ball_73 : decode cX7_ball 73 = .ok (.iload_n 1, 1) := by decide +kernel
theorem dX7_ball_74 : decode cX7_ball 74 = .ok (.aaload, 1) := by decide +kernel
theorem dX7_ball_75 : decode cX7_ball 75 = .ok (.iload_n 2, 1) := by decide +kernel
theorem dX7_ball_76 : decode cX7_ball 76 = .ok (.invokevirtual 121, 3) := by decide +kernel
theorem dX7_ball_79 : decode cX7_ball 79 = .ok (.aload_n 0, 1) := by decide +kernel
theorem dX7_ball_80 : decode cX7_ball 80 = .ok (.getfield 16, 3) := by decide +kernel
theorem dX7_ball_83 : decode cX7_ball 83 = .ok (.dup, 1) := by decide +kernel
theorem dX7_ball_84 : decode cX7_ball 84 = .ok (.getfield 110, 3) := by decide +kernel
theorem dX7_ball_87 : decode cX7_ball 87 = .ok (.iconst 1, 1) := by decide +kernel
theorem dX7_ball_88 : decode cX7_ball 88 = .ok (.iadd, 1) := by decide +kernel
theorem dX7_ball_89 : decode cX7_ball 89 = .ok (.putfield 110, 3) := by decide +kernel
theorem dX7_ball_92 : decode cX7_ball 92 = .ok (.aload_n 0, 1) := by decide +kernel
theorem dX7_ball_93 : decode cX7_ball 93 = .ok (.getfield 16, 3) := by decide +kernel
theorem dX7_ball_96 : decode cX7_ball 96 = .ok (.getfield 110, 3) := by decide +kernel
theorem dX7_ball_99 : decode cX7_ball 99 = .ok (.iconst 1, 1) := by decide +kernel
theorem dX7_ball_100 : decode cX7_ball 100 = .ok (.isub, 1) := by decide +kernel
theorem dX7_ball_101 : decode cX7_ball 101 = .ok (.ireturn, 1) := by decide +kernel
theorem dX7_about_0 : decode cX7_about 0 = .ok (.aload_n 0, 1) := by decide +kernel
theorem dX7_about_1 : decode cX7_about 1 = .ok (.iload_n 1, 1) := by decide +kernel
theorem dX7_about_2 : decode cX7_about 2 = .ok (.invokevirtual 127, 3) := by decide +kernel
theorem dX7_about_5 : decode cX7_about 5 = .ok (.ifCond .ne 6, 3) := by decide +kernel
theorem dX7_about_8 : decode cX7_about 8 = .ok (.bipush (-101), 2) := by decide +kernel
theorem dX7_about_10 : decode cX7_about 10 = .ok (.ireturn, 1) := by decide +kernel
theorem dX7_about_11 : decode cX7_about 11 = .ok (.iload_n 2, 1) := by decide +kernel
theorem dX7_about_12 : decode cX7_about 12 = .ok (.iconst 0, 1) := by decide +kernel
theorem dX7_about_13 : decode cX7_about 13 = .ok (.bipush 6, 2) := by decide +kernel
theorem dX7_about_15 : decode cX7_about 15 = .ok (.invokestatic 47, 3) := by decide +kernel
theorem dX7_about_18 : decode cX7_about 18 = .ok (.ifCond .eq 6, 3) := by decide +kernel
theorem dX7_about_21 : decode cX7_about 21 = .ok (.bipush (-102), 2) := by decide +kernel
theorem dX7_about_23 : decode cX7_about 23 = .ok (.ireturn, 1) := by decide +kernel
theorem dX7_about_24 : decode cX7_about 24 = .ok (.aload_n 0, 1) := by decide +kernel
theorem dX7_about_25 : decode cX7_about 25 = .ok (.getfield 16, 3) := by decide +kernel
theorem dX7_about_28 : decode cX7_about 28 = .ok (.getfield 113, 3) := by decide +kernel
theorem dX7_about_31 : decode cX7_about 31 = .ok (.iload_n 1, 1) := by decide +kernel
theorem dX7_about_32 : decode cX7_about 32 = .ok (.aaload, 1) := by decide +kernel
theorem dX7_about_33 : decode cX7_about 33 = .ok (.astore_n 3, 1) := by decide +kernel
theorem dX7_about_34 : decode cX7_about 34 = .ok (.iload_n 2, 1) := by decide +kernel
theorem dX7_about_35 : decode cX7_about 35 = .ok (.tableswitch 77 0 5 #[37, 45, 50, 55, 60, 65], 37) := by decide +kernel
theorem dX7_about_72 : decode cX7_about 72 = .ok (.aload_n 3, 1) := by decide +kernel
theorem dX7_about_73 : decode cX7_about 73 = .ok (.getfield 130, 3) := by decide +kernel
theorem dX7_about_76 : decode cX7_about 76 = .ok (.getfield 134, 3) := by decide +kernel
theorem dX7_about_79 : decode cX7_about 79 = .ok (.ireturn, 1) := by decide +kernel
theorem dX7_about_80 : decode cX7_about 80 = .ok (.aload_n 3, 1) := by decide +kernel
theorem dX7_about_81 : decode cX7_about 81 = .ok (.getfield 139, 3) := by decide +kernel
theorem dX7_about_84 : decode cX7_about 84 = .ok (.ireturn, 1) := by decide +kernel
theorem dX7_about_85 : decode cX7_about 85 = .ok (.aload_n 3, 1) := by decide +kernel
theorem dX7_about_86 : decode cX7_about 86 = .ok (.getfield 142, 3) := by decide +kernel
theorem dX7_about_89 : decode cX7_about 89 = .ok (.ireturn, 1) := by decide +kernel
theorem dX7_about_90 : decode cX7_about 90 = .ok (.aload_n 3, 1) := by decide +kernel
theorem dX7_about_91 : decode cX7_about 91 = .ok (.getfield 145, 3) := by decide +kernel
theorem dX7_about_94 : decode cX7_about 94 = .ok (.ireturn, 1) := by decide +kernel
theorem dX7_about_95 : decode cX7_about 95 = .ok (.aload_n 3, 1) := by decide +kernel
theorem dX7_about_96 : decode cX7_about 96 = .ok (.invokevirtual 148, 3) := by decide +kernel
theorem dX7_about_99 : decode cX7_about 99 = .ok (.ireturn, 1) := by decide +kernel
theorem dX7_about_100 : decode cX7_about 100 = .ok (.aload_n 3, 1) := by decide +kernel
theorem dX7_about_101 : decode cX7_about 101 = .ok (.getfield 130, 3) := by decide +kernel
theorem dX7_about_104 : decode cX7_about 104 = .ok (.aload_n 3, 1) := by decide +kernel
theorem dX7_about_105 : decode cX7_about 105 = .ok (.getfield 139, 3) := by decide +kernel
theorem dX7_about_108 : decode cX7_about 108 = .ok (.invokevirtual 151, 3) := by decide +kernel
theorem dX7_about_111 : decode cX7_about 111 = .ok (.ireturn, 1) := by decide +kernel
theorem dX7_about_112 : decode cX7_about 112 = .ok (.aload_n 3, 1) := by decide +kernel
theorem dX7_about_113 : decode cX7_about 113 = .ok (.getfield 154, 3) := by decide +kernel
theorem dX7_about_116 : decode cX7_about 116 = .ok (.ireturn, 1) := by decide +kernel
theorem dX7_as_0 : decode cX7_as 0 = .ok (.aload_n 0, 1) := by decide +kernel
theorem dX7_as_1 : decode cX7_as 1 = .ok (.iload_n 1, 1) := by decide +kernel
theorem dX7_as_2 : decode cX7_as 2 = .ok (.invokevirtual 127, 3) := by decide +kernel
theorem dX7_as_5 : decode cX7_as 5 = .ok (.ifCond .ne 6, 3) := by decide +kernel
theorem dX7_as_8 : decode cX7_as 8 = .ok (.bipush (-101), 2) := by decide +kernel
theorem dX7_as_10 : decode cX7_as 10 = .ok (.ireturn, 1) := by decide +kernel
theorem dX7_as_11 : decode cX7_as 11 = .ok (.iload_n 2, 1) := by decide +kernel
theorem dX7_as_12 : decode cX7_as 12 = .ok (.invokestatic 104, 3) := by decide +kernel
theorem dX7_as_15 : decode cX7_as 15 = .ok (.ifCond .ne 6, 3) := by decide +kernel
theorem dX7_as_18 : decode cX7_as 18 = .ok (.bipush (-102), 2) := by decide +kernel
theorem dX7_as_20 : decode cX7_as 20 = .ok (.ireturn, 1) := by decide +kernel
theorem dX7_as_21 : decode cX7_as 21 = .ok (.aload_n 0, 1) := by decide +kernel
theorem dX7_as_22 : decode cX7_as 22 = .ok (.getfield 16, 3) := by decide +kernel
theorem dX7_as_25 : decode cX7_as 25 = .ok (.getfield 113, 3) := by decide +kernel
theorem dX7_as_28 : decode cX7_as 28 = .ok (.iload_n 1, 1) := by decide +kernel
theorem dX7_as_29 : decode cX7_as 29 = .ok (.aaload, 1) := by decide +kernel
theorem dX7_as_30 : decode cX7_as 30 = .ok (.getfield 130, 3) := by decide +kernel
theorem dX7_as_33 : decode cX7_as 33 = .ok (.getstatic 117, 3) := by decide +kernel
theorem dX7_as_36 : decode cX7_as 36 = .ok (.iload_n 2, 1) := by decide +kernel
theorem dX7_as_37 : decode cX7_as 37 = .ok (.aaload, 1) := by decide +kernel
theorem dX7_as_38 : decode cX7_as 38 = .ok (.invokevirtual 157, 3) := by decide +kernel
theorem dX7_as_41 : decode cX7_as 41 = .ok (.ifCond .eq 7, 3) := by decide +kernel
theorem dX7_as_44 : decode cX7_as 44 = .ok (.iload_n 1, 1) := by decide +kernel
theorem dX7_as_45 : decode cX7_as 45 = .ok (.goto 4, 3) := by decide +kernel
theorem dX7_as_48 : decode cX7_as 48 = .ok (.iconst (-1), 1) := by decide +kernel
theorem dX7_as_49 : decode cX7_as 49 = .ok (.ireturn, 1) := by decide +kernel
theorem dX7_may_0 : decode cX7_may 0 = .ok (.aload_n 0, 1) := by decide +kernel
theorem dX7_may_1 : decode cX7_may 1 = .ok (.iload_n 1, 1) := by decide +kernel
theorem dX7_may_2 : decode cX7_may 2 = .ok (.invokevirtual 127, 3) := by decide +kernel
theorem dX7_may_5 : decode cX7_may 5 = .ok (.ifCond .ne 6, 3) := by decide +kernel
theorem dX7_may_8 : decode cX7_may 8 = .ok (.bipush (-101), 2) := by decide +kernel
theorem dX7_may_10 : decode cX7_may 10 = .ok (.ireturn, 1) := by decide +kernel
theorem dX7_may_11 : decode cX7_may 11 = .ok (.iload_n 2, 1) := by decide +kernel
theorem dX7_may_12 : decode cX7_may 12 = .ok (.invokestatic 161, 3) := by decide +kernel
theorem dX7_may_15 : decode cX7_may 15 = .ok (.ifCond .ne 6, 3) := by decide +kernel
theorem dX7_may_18 : decode cX7_may 18 = .ok (.bipush (-102), 2) := by decide +kernel
theorem dX7_may_20 : decode cX7_may 20 = .ok (.ireturn, 1) := by decide +kernel
theorem dX7_may_21 : decode cX7_may 21 = .ok (.aload_n 0, 1) := by decide +kernel
theorem dX7_may_22 : decode cX7_may 22 = .ok (.getfield 16, 3) := by decide +kernel
theorem dX7_may_25 : decode cX7_may 25 = .ok (.iload_n 1, 1) := by decide +kernel
theorem dX7_may_26 : decode cX7_may 26 = .ok (.iload_n 2, 1) := by decide +kernel
theorem dX7_may_27 : decode cX7_may 27 = .ok (.invokevirtual 164, 3) := by decide +kernel
theorem dX7_may_30 : decode cX7_may 30 = .ok (.ifCond .eq 7, 3) := by decide +kernel
theorem dX7_may_33 : decode cX7_may 33 = .ok (.iconst 1, 1) := by decide +kernel
theorem dX7_may_34 : decode cX7_may 34 = .ok (.goto 4, 3) := by decide +kernel
theorem dX7_may_37 : decode cX7_may 37 = .ok (.iconst 0, 1) := by decide +kernel
theorem dX7_may_38 : decode cX7_may 38 = .ok (.ireturn, 1) := by decide +kernel
theorem dX7_roll_0 : decode cX7_roll 0 = .ok (.aload_n 0, 1) := by decide +kernel
theorem dX7_roll_1 : decode cX7_roll 1 = .ok (.iload_n 1, 1) := by decide +kernel
theorem dX7_roll_2 : decode cX7_roll 2 = .ok (.invokevirtual 127, 3) := by decide +kernel
theorem dX7_roll_5 : decode cX7_roll 5 = .ok (.ifCond .ne 6, 3) := by decide +kernel
theorem dX7_roll_8 : decode cX7_roll 8 = .ok (.bipush (-101), 2) := by decide +kernel
theorem dX7_roll_10 : decode cX7_roll 10 = .ok (.ireturn, 1) := by decide +kernel
theorem dX7_roll_11 : decode cX7_roll 11 = .ok (.iload_n 2, 1) := by decide +kernel
theorem dX7_roll_12 : decode cX7_roll 12 = .ok (.invokestatic 161, 3) := by decide +kernel
theorem dX7_roll_15 : decode cX7_roll 15 = .ok (.ifCond .ne 6, 3) := by decide +kernel
theorem dX7_roll_18 : decode cX7_roll 18 = .ok (.bipush (-102), 2) := by decide +kernel
theorem dX7_roll_20 : decode cX7_roll 20 = .ok (.ireturn, 1) := by decide +kernel
theorem dX7_roll_21 : decode cX7_roll 21 = .ok (.aload_n 0, 1) := by decide +kernel
theorem dX7_roll_22 : decode cX7_roll 22 = .ok (.getfield 16, 3) := by decide +kernel
theorem dX7_roll_25 : decode cX7_roll 25 = .ok (.iload_n 1, 1) := by decide +kernel
theorem dX7_roll_26 : decode cX7_roll 26 = .ok (.iload_n 2, 1) := by decide +kernel
theorem dX7_roll_27 : decode cX7_roll 27 = .ok (.invokevirtual 164, 3) := by decide +kernel
theorem dX7_roll_30 : decode cX7_roll 30 = .ok (.ifCond .ne 6, 3) := by decide +kernel
theorem dX7_roll_33 : decode cX7_roll 33 = .ok (.bipush (-103), 2) := by decide +kernel
theorem dX7_roll_35 : decode cX7_roll 35 = .ok (.ireturn, 1) := by decide +kernel
theorem dX7_roll_36 : decode cX7_roll 36 = .ok (.aload_n 0, 1) := by decide +kernel
theorem dX7_roll_37 : decode cX7_roll 37 = .ok (.getfield 16, 3) := by decide +kernel
theorem dX7_roll_40 : decode cX7_roll 40 = .ok (.iload_n 1, 1) := by decide +kernel
theorem dX7_roll_41 : decode cX7_roll 41 = .ok (.iload_n 2, 1) := by decide +kernel
theorem dX7_roll_42 : decode cX7_roll 42 = .ok (.invokevirtual 168, 3) := by decide +kernel
theorem dX7_roll_45 : decode cX7_roll 45 = .ok (.ireturn, 1) := by decide +kernel
theorem dX7_lift_0 : decode cX7_lift 0 = .ok (.aload_n 0, 1) := by decide +kernel
theorem dX7_lift_1 : decode cX7_lift 1 = .ok (.iload_n 1, 1) := by decide +kernel
theorem dX7_lift_2 : decode cX7_lift 2 = .ok (.invokevirtual 127, 3) := by decide +kernel
theorem dX7_lift_5 : decode cX7_lift 5 = .ok (.ifCond .eq 16, 3) := by decide +kernel
theorem dX7_lift_8 : decode cX7_lift 8 = .ok (.aload_n 0, 1) := by decide +kernel
theorem dX7_lift_9 : decode cX7_lift 9 = .ok (.iload_n 2, 1) := by decide +kernel
theorem dX7_lift_10 : decode cX7_lift 10 = .ok (.invokevirtual 127, 3) := by decide +kernel
theorem dX7_lift_13 : decode cX7_lift 13 = .ok (.ifCond .eq 8, 3) := by decide +kernel
theorem dX7_lift_16 : decode cX7_lift 16 = .ok (.iload_n 1, 1) := by decide +kernel
theorem dX7_lift_17 : decode cX7_lift 17 = .ok (.iload_n 2, 1) := by decide +kernel
theorem dX7_lift_18 : decode cX7_lift 18 = .ok (.if_icmp .ne 6, 3) := by decide +kernel
theorem dX7_lift_21 : decode cX7_lift 21 = .ok (.bipush (-101), 2) := by decide +kernel
theorem dX7_lift_23 : decode cX7_lift 23 = .ok (.ireturn, 1) := by decide +kernel
theorem dX7_lift_24 : decode cX7_lift 24 = .ok (.aload_n 0, 1) := by decide +kernel
theorem dX7_lift_25 : decode cX7_lift 25 = .ok (.getfield 16, 3) := by decide +kernel
theorem dX7_lift_28 : decode cX7_lift 28 = .ok (.iload_n 1, 1) := by decide +kernel
theorem dX7_lift_29 : decode cX7_lift 29 = .ok (.iload_n 2, 1) := by decide +kernel
theorem dX7_lift_30 : decode cX7_lift 30 = .ok (.invokevirtual 172, 3) := by decide +kernel
theorem dX7_lift_33 : decode cX7_lift 33 = .ok (.ifCond .ne 6, 3) := by decide +kernel
theorem dX7_lift_36 : decode cX7_lift 36 = .ok (.bipush (-103), 2) := by decide +kernel
theorem dX7_lift_38 : decode cX7_lift 38 = .ok (.ireturn, 1) := by decide +kernel
theorem dX7_lift_39 : decode cX7_lift 39 = .ok (.aload_n 0, 1) := by decide +kernel
theorem dX7_lift_40 : decode cX7_lift 40 = .ok (.getfield 16, 3) := by decide +kernel
theorem dX7_lift_43 : decode cX7_lift 43 = .ok (.iload_n 1, 1) := by decide +kernel
theorem dX7_lift_44 : decode cX7_lift 44 = .ok (.iload_n 2, 1) := by decide +kernel
theorem dX7_lift_45 : decode cX7_lift 45 = .ok (.invokevirtual 175, 3) := by decide +kernel
theorem dX7_lift_48 : decode cX7_lift 48 = .ok (.ireturn, 1) := by decide +kernel
theorem dX7_day_0 : decode cX7_day 0 = .ok (.iload_n 1, 1) := by decide +kernel
theorem dX7_day_1 : decode cX7_day 1 = .ok (.iconst 0, 1) := by decide +kernel
theorem dX7_day_2 : decode cX7_day 2 = .ok (.bipush 9, 2) := by decide +kernel
theorem dX7_day_4 : decode cX7_day 4 = .ok (.invokestatic 47, 3) := by decide +kernel
theorem dX7_day_7 : decode cX7_day 7 = .ok (.ifCond .eq 6, 3) := by decide +kernel
theorem dX7_day_10 : decode cX7_day 10 = .ok (.bipush (-102), 2) := by decide +kernel
theorem dX7_day_12 : decode cX7_day 12 = .ok (.ireturn, 1) := by decide +kernel
theorem dX7_day_13 : decode cX7_day 13 = .ok (.aload_n 0, 1) := by decide +kernel
theorem dX7_day_14 : decode cX7_day 14 = .ok (.invokevirtual 91, 3) := by decide +kernel
theorem dX7_day_17 : decode cX7_day 17 = .ok (.ifCond .ne 6, 3) := by decide +kernel
theorem dX7_day_20 : decode cX7_day 20 = .ok (.bipush (-103), 2) := by decide +kernel
theorem dX7_day_22 : decode cX7_day 22 = .ok (.ireturn, 1) := by decide +kernel
theorem dX7_day_23 : decode cX7_day 23 = .ok (.aload_n 0, 1) := by decide +kernel
theorem dX7_day_24 : decode cX7_day 24 = .ok (.getfield 16, 3) := by decide +kernel
theorem dX7_day_27 : decode cX7_day 27 = .ok (.iload_n 1, 1) := by decide +kernel
theorem dX7_day_28 : decode cX7_day 28 = .ok (.invokevirtual 178, 3) := by decide +kernel
theorem dX7_day_31 : decode cX7_day 31 = .ok (.ireturn, 1) := by decide +kernel
theorem dX7_largest_0 : decode cX7_largest 0 = .ok (.aload_n 0, 1) := by decide +kernel
theorem dX7_largest_1 : decode cX7_largest 1 = .ok (.iload_n 1, 1) := by decide +kernel
theorem dX7_largest_2 : decode cX7_largest 2 = .ok (.invokevirtual 127, 3) := by decide +kernel
theorem dX7_largest_5 : decode cX7_largest 5 = .ok (.ifCond .ne 6, 3) := by decide +kernel
theorem dX7_largest_8 : decode cX7_largest 8 = .ok (.bipush (-101), 2) := by decide +kernel
theorem dX7_largest_10 : decode cX7_largest 10 = .ok (.ireturn, 1) := by decide +kernel
theorem dX7_largest_11 : decode cX7_largest 11 = .ok (.iload_n 2, 1) := by decide +kernel
theorem dX7_largest_12 : decode cX7_largest 12 = .ok (.iconst 0, 1) := by decide +kernel
theorem dX7_largest_13 : decode cX7_largest 13 = .ok (.bipush 6, 2) := by decide +kernel
theorem dX7_largest_15 : decode cX7_largest 15 = .ok (.invokestatic 47, 3) := by decide +kernel
theorem dX7_largest_18 : decode cX7_largest 18 = .ok (.ifCond .ne 12, 3) := by decide +kernel
theorem dX7_largest_21 : decode cX7_largest 21 = .ok (.iload_n 3, 1) := by decide +kernel
theorem dX7_largest_22 : decode cX7_largest 22 = .ok (.iconst 0, 1) := by decide +kernel
theorem dX7_largest_23 : decode cX7_largest 23 = .ok (.iconst 1, 1) := by decide +kernel
theorem dX7_largest_24 : decode cX7_largest 24 = .ok (.invokestatic 47, 3) := by decide +kernel
theorem dX7_largest_27 : decode cX7_largest 27 = .ok (.ifCond .eq 6, 3) := by decide +kernel
theorem dX7_largest_30 : decode cX7_largest 30 = .ok (.bipush (-102), 2) := by decide +kernel
theorem dX7_largest_32 : decode cX7_largest 32 = .ok (.ireturn, 1) := by decide +kernel
theorem dX7_largest_33 : decode cX7_largest 33 = .ok (.aload_n 0, 1) := by decide +kernel
theorem dX7_largest_34 : decode cX7_largest 34 = .ok (.iload_n 1, 1) := by decide +kernel
theorem dX7_largest_35 : decode cX7_largest 35 = .ok (.invokevirtual 181, 3) := by decide +kernel
theorem dX7_largest_38 : decode cX7_largest 38 = .ok (.ifCond .ne 6, 3) := by decide +kernel
theorem dX7_largest_41 : decode cX7_largest 41 = .ok (.bipush (-103), 2) := by decide +kernel
theorem dX7_largest_43 : decode cX7_largest 43 = .ok (.ireturn, 1) := by decide +kernel
theorem dX7_largest_44 : decode cX7_largest 44 = .ok (.aload_n 0, 1) := by decide +kernel
theorem dX7_largest_45 : decode cX7_largest 45 = .ok (.dup, 1) := by decide +kernel
theorem dX7_largest_46 : decode cX7_largest 46 = .ok (.getfield 184, 3) := by decide +kernel
theorem dX7_largest_49 : decode cX7_largest 49 = .ok (.iconst 1, 1) := by decide +kernel
theorem dX7_largest_50 : decode cX7_largest 50 = .ok (.iadd, 1) := by decide +kernel
theorem dX7_largest_51 : decode cX7_largest 51 = .ok (.putfield 184, 3) := by decide +kernel
theorem dX7_largest_54 : decode cX7_largest 54 = .ok (.aload_n 0, 1) := by decide +kernel
theorem dX7_largest_55 : decode cX7_largest 55 = .ok (.getfield 29, 3) := by decide +kernel
theorem dX7_largest_58 : decode cX7_largest 58 = .ok (.invokevirtual 187, 3) := by decide +kernel
theorem dX7_largest_61 : decode cX7_largest 61 = .ok (.aload_n 0, 1) := by decide +kernel
theorem dX7_largest_62 : decode cX7_largest 62 = .ok (.getfield 23, 3) := by decide +kernel
theorem dX7_largest_65 : decode cX7_largest 65 = .ok (.aload_n 0, 1) := by decide +kernel
theorem dX7_largest_66 : decode cX7_largest 66 = .ok (.getfield 16, 3) := by decide +kernel
theorem dX7_largest_69 : decode cX7_largest 69 = .ok (.invokevirtual 189, 3) := by decide +kernel
theorem dX7_largest_72 : decode cX7_largest 72 = .ok (.aload_n 0, 1) := by decide +kernel
theorem dX7_largest_73 : decode cX7_largest 73 = .ok (.getfield 23, 3) := by decide +kernel
theorem dX7_largest_76 : decode cX7_largest 76 = .ok (.iload_n 1, 1) := by decide +kernel
theorem dX7_largest_77 : decode cX7_largest 77 = .ok (.aload_n 0, 1) := by decide +kernel
theorem dX7_largest_78 : decode cX7_largest 78 = .ok (.getfield 29, 3) := by decide +kernel
theorem dX7_largest_81 : decode cX7_largest 81 = .ok (.iload_n 2, 1) := by decide +kernel
theorem dX7_largest_82 : decode cX7_largest 82 = .ok (.iconst 0, 1) := by decide +kernel
theorem dX7_largest_83 : decode cX7_largest 83 = .ok (.iconst (-1), 1) := by decide +kernel
theorem dX7_largest_84 : decode cX7_largest 84 = .ok (.invokestatic 193, 3) := by decide +kernel
theorem dX7_largest_87 : decode cX7_largest 87 = .ok (.iload_n 3, 1) := by decide +kernel
theorem dX7_largest_88 : decode cX7_largest 88 = .ok (.ifCond .ne 13, 3) := by decide +kernel
theorem dX7_largest_91 : decode cX7_largest 91 = .ok (.aload_n 0, 1) := by decide +kernel
theorem dX7_largest_92 : decode cX7_largest 92 = .ok (.getfield 29, 3) := by decide +kernel
theorem dX7_largest_95 : decode cX7_largest 95 = .ok (.getfield 197, 3) := by decide +kernel
theorem dX7_largest_98 : decode cX7_largest 98 = .ok (.goto 10, 3) := by decide +kernel
theorem dX7_largest_101 : decode cX7_largest 101 = .ok (.aload_n 0, 1) := by decide +kernel
theorem dX7_largest_102 : decode cX7_largest 102 = .ok (.getfield 29, 3) := by decide +kernel
theorem dX7_largest_105 : decode cX7_largest 105 = .ok (.getfield 198, 3) := by decide +kernel
theorem dX7_largest_108 : decode cX7_largest 108 = .ok (.ireturn, 1) := by decide +kernel
theorem dX7_comes_0 : decode cX7_comes 0 = .ok (.aload_n 0, 1) := by decide +kernel
theorem dX7_comes_1 : decode cX7_comes 1 = .ok (.iload_n 1, 1) := by decide +kernel
theorem dX7_comes_2 : decode cX7_comes 2 = .ok (.invokevirtual 127, 3) := by decide +kernel
theorem dX7_comes_5 : decode cX7_comes 5 = .ok (.ifCond .eq 10, 3) := by decide +kernel
theorem dX7_comes_8 : decode cX7_comes 8 = .ok (.iload_n 2, 1) := by decide +kernel
theorem dX7_comes_9 : decode cX7_comes 9 = .ok (.invokestatic 87, 3) := by decide +kernel
theorem dX7_comes_12 : decode cX7_comes 12 = .ok (.ifCond .ne 6, 3) := by decide +kernel
theorem dX7_comes_15 : decode cX7_comes 15 = .ok (.bipush (-101), 2) := by decide +kernel
theorem dX7_comes_17 : decode cX7_comes 17 = .ok (.ireturn, 1) := by decide +kernel
theorem dX7_comes_18 : decode cX7_comes 18 = .ok (.aload_n 0, 1) := by decide +kernel
theorem dX7_comes_19 : decode cX7_comes 19 = .ok (.iload_n 1, 1) := by decide +kernel
theorem dX7_comes_20 : decode cX7_comes 20 = .ok (.invokevirtual 181, 3) := by decide +kernel
theorem dX7_comes_23 : decode cX7_comes 23 = .ok (.ifCond .ne 6, 3) := by decide +kernel
theorem dX7_comes_26 : decode cX7_comes 26 = .ok (.bipush (-103), 2) := by decide +kernel
theorem dX7_comes_28 : decode cX7_comes 28 = .ok (.ireturn, 1) := by decide +kernel
theorem dX7_comes_29 : decode cX7_comes 29 = .ok (.aload_n 0, 1) := by decide +kernel
theorem dX7_comes_30 : decode cX7_comes 30 = .ok (.dup, 1) := by decide +kernel
theorem dX7_comes_31 : decode cX7_comes 31 = .ok (.getfield 184, 3) := by decide +kernel
theorem dX7_comes_34 : decode cX7_comes 34 = .ok (.iconst 1, 1) := by decide +kernel
theorem dX7_comes_35 : decode cX7_comes 35 = .ok (.iadd, 1) := by decide +kernel
theorem dX7_comes_36 : decode cX7_comes 36 = .ok (.putfield 184, 3) := by decide +kernel
theorem dX7_comes_39 : decode cX7_comes 39 = .ok (.aload_n 0, 1) := by decide +kernel
theorem dX7_comes_40 : decode cX7_comes 40 = .ok (.getfield 36, 3) := by decide +kernel
theorem dX7_comes_43 : decode cX7_comes 43 = .ok (.iload_n 2, 1) := by decide +kernel
theorem dX7_comes_44 : decode cX7_comes 44 = .ok (.invokevirtual 201, 3) := by decide +kernel
theorem dX7_comes_47 : decode cX7_comes 47 = .ok (.aload_n 0, 1) := by decide +kernel
theorem dX7_comes_48 : decode cX7_comes 48 = .ok (.getfield 23, 3) := by decide +kernel
theorem dX7_comes_51 : decode cX7_comes 51 = .ok (.aload_n 0, 1) := by decide +kernel
theorem dX7_comes_52 : decode cX7_comes 52 = .ok (.getfield 16, 3) := by decide +kernel
theorem dX7_comes_55 : decode cX7_comes 55 = .ok (.invokevirtual 189, 3) := by decide +kernel
theorem dX7_comes_58 : decode cX7_comes 58 = .ok (.aload_n 0, 1) := by decide +kernel
theorem dX7_comes_59 : decode cX7_comes 59 = .ok (.getfield 23, 3) := by decide +kernel
theorem dX7_comes_62 : decode cX7_comes 62 = .ok (.iload_n 1, 1) := by decide +kernel
theorem dX7_comes_63 : decode cX7_comes 63 = .ok (.aload_n 0, 1) := by decide +kernel
theorem dX7_comes_64 : decode cX7_comes 64 = .ok (.getfield 36, 3) := by decide +kernel
theorem dX7_comes_67 : decode cX7_comes 67 = .ok (.bipush 6, 2) := by decide +kernel
theorem dX7_comes_69 : decode cX7_comes 69 = .ok (.iconst 0, 1) := by decide +kernel
theorem dX7_comes_70 : decode cX7_comes 70 = .ok (.iconst (-1), 1) := by decide +kernel
theorem dX7_comes_71 : decode cX7_comes 71 = .ok (.invokestatic 193, 3) := by decide +kernel
theorem dX7_comes_74 : decode cX7_comes 74 = .ok (.aload_n 0, 1) := by decide +kernel
theorem dX7_comes_75 : decode cX7_comes 75 = .ok (.getfield 36, 3) := by decide +kernel
theorem dX7_comes_78 : decode cX7_comes 78 = .ok (.getfield 204, 3) := by decide +kernel
theorem dX7_comes_81 : decode cX7_comes 81 = .ok (.ireturn, 1) := by decide +kernel
theorem dX7_highest_0 : decode cX7_highest 0 = .ok (.iload_n 1, 1) := by decide +kernel
theorem dX7_highest_1 : decode cX7_highest 1 = .ok (.iconst 0, 1) := by decide +kernel
theorem dX7_highest_2 : decode cX7_highest 2 = .ok (.iconst 1, 1) := by decide +kernel
theorem dX7_highest_3 : decode cX7_highest 3 = .ok (.invokestatic 47, 3) := by decide +kernel
theorem dX7_highest_6 : decode cX7_highest 6 = .ok (.ifCond .eq 6, 3) := by decide +kernel
theorem dX7_highest_9 : decode cX7_highest 9 = .ok (.bipush (-102), 2) := by decide +kernel
theorem dX7_highest_11 : decode cX7_highest 11 = .ok (.ireturn, 1) := by decide +kernel
theorem dX7_highest_12 : decode cX7_highest 12 = .ok (.aload_n 0, 1) := by decide +kernel
theorem dX7_highest_13 : decode cX7_highest 13 = .ok (.getfield 16, 3) := by decide +kernel
theorem dX7_highest_16 : decode cX7_highest 16 = .ok (.invokevirtual 207, 3) := by decide +kernel
theorem dX7_highest_19 : decode cX7_highest 19 = .ok (.istore_n 2, 1) := by decide +kernel
theorem dX7_highest_20 : decode cX7_highest 20 = .ok (.iload_n 1, 1) := by decide +kernel
theorem dX7_highest_21 : decode cX7_highest 21 = .ok (.iconst 1, 1) := by decide +kernel
theorem dX7_highest_22 : decode cX7_highest 22 = .ok (.if_icmp .eq 8, 3) := by decide +kernel
theorem dX7_highest_25 : decode cX7_highest 25 = .ok (.iload_n 2, 1) := by decide +kernel
theorem dX7_highest_26 : decode cX7_highest 26 = .ok (.iconst (-1), 1) := by decide +kernel
theorem dX7_highest_27 : decode cX7_highest 27 = .ok (.if_icmp .ne 7, 3) := by decide +kernel
theorem dX7_highest_30 : decode cX7_highest 30 = .ok (.iload_n 2, 1) := by decide +kernel
theorem dX7_highest_31 : decode cX7_highest 31 = .ok (.goto 11, 3) := by decide +kernel
theorem dX7_highest_34 : decode cX7_highest 34 = .ok (.aload_n 0, 1) := by decide +kernel
theorem dX7_highest_35 : decode cX7_highest 35 = .ok (.getfield 16, 3) := by decide +kernel
theorem dX7_highest_38 : decode cX7_highest 38 = .ok (.iload_n 2, 1) := by decide +kernel
theorem dX7_highest_39 : decode cX7_highest 39 = .ok (.invokevirtual 210, 3) := by decide +kernel
theorem dX7_highest_42 : decode cX7_highest 42 = .ok (.ireturn, 1) := by decide +kernel
theorem dX7_lasts_0 : decode cX7_lasts 0 = .ok (.iload_n 1, 1) := by decide +kernel
theorem dX7_lasts_1 : decode cX7_lasts 1 = .ok (.iconst 1, 1) := by decide +kernel
theorem dX7_lasts_2 : decode cX7_lasts 2 = .ok (.bipush 9, 2) := by decide +kernel
theorem dX7_lasts_4 : decode cX7_lasts 4 = .ok (.invokestatic 47, 3) := by decide +kernel
theorem dX7_lasts_7 : decode cX7_lasts 7 = .ok (.ifCond .eq 6, 3) := by decide +kernel
theorem dX7_lasts_10 : decode cX7_lasts 10 = .ok (.bipush (-102), 2) := by decide +kernel
theorem dX7_lasts_12 : decode cX7_lasts 12 = .ok (.ireturn, 1) := by decide +kernel
theorem dX7_lasts_13 : decode cX7_lasts 13 = .ok (.aload_n 0, 1) := by decide +kernel
theorem dX7_lasts_14 : decode cX7_lasts 14 = .ok (.getfield 16, 3) := by decide +kernel
theorem dX7_lasts_17 : decode cX7_lasts 17 = .ok (.iload_n 1, 1) := by decide +kernel
theorem dX7_lasts_18 : decode cX7_lasts 18 = .ok (.invokevirtual 213, 3) := by decide +kernel
theorem dX7_lasts_21 : decode cX7_lasts 21 = .ok (.ireturn, 1) := by decide +kernel
theorem dX7_book_0 : decode cX7_book 0 = .ok (.iload_n 1, 1) := by decide +kernel
theorem dX7_book_1 : decode cX7_book 1 = .ok (.invokestatic 104, 3) := by decide +kernel
theorem dX7_book_4 : decode cX7_book 4 = .ok (.ifCond .ne 6, 3) := by decide +kernel
theorem dX7_book_7 : decode cX7_book 7 = .ok (.bipush (-102), 2) := by decide +kernel
theorem dX7_book_9 : decode cX7_book 9 = .ok (.ireturn, 1) := by decide +kernel
theorem dX7_book_10 : decode cX7_book 10 = .ok (.iload_n 2, 1) := by decide +kernel
theorem dX7_book_11 : decode cX7_book 11 = .ok (.invokestatic 87, 3) := by decide +kernel
theorem dX7_book_14 : decode cX7_book 14 = .ok (.ifCond .ne 6, 3) := by decide +kernel
theorem dX7_book_17 : decode cX7_book 17 = .ok (.bipush (-101), 2) := by decide +kernel
theorem dX7_book_19 : decode cX7_book 19 = .ok (.ireturn, 1) := by decide +kernel
theorem dX7_book_20 : decode cX7_book 20 = .ok (.iload_n 3, 1) := by decide +kernel
theorem dX7_book_21 : decode cX7_book 21 = .ok (.iconst 0, 1) := by decide +kernel
theorem dX7_book_22 : decode cX7_book 22 = .ok (.iconst 5, 1) := by decide +kernel
theorem dX7_book_23 : decode cX7_book 23 = .ok (.invokestatic 47, 3) := by decide +kernel
theorem dX7_book_26 : decode cX7_book 26 = .ok (.ifCond .ne 14, 3) := by decide +kernel
theorem dX7_book_29 : decode cX7_book 29 = .ok (.iload 4, 2) := by decide +kernel
theorem dX7_book_31 : decode cX7_book 31 = .ok (.iconst 0, 1) := by decide +kernel
theorem dX7_book_32 : decode cX7_book 32 = .ok (.bipush 99, 2) := by decide +kernel
theorem dX7_book_34 : decode cX7_book 34 = .ok (.invokestatic 47, 3) := by decide +kernel
theorem dX7_book_37 : decode cX7_book 37 = .ok (.ifCond .eq 6, 3) := by decide +kernel
theorem dX7_book_40 : decode cX7_book 40 = .ok (.bipush (-102), 2) := by decide +kernel
theorem dX7_book_42 : decode cX7_book 42 = .ok (.ireturn, 1) := by decide +kernel
theorem dX7_book_43 : decode cX7_book 43 = .ok (.aload_n 0, 1) := by decide +kernel
theorem dX7_book_44 : decode cX7_book 44 = .ok (.invokevirtual 91, 3) := by decide +kernel
theorem dX7_book_47 : decode cX7_book 47 = .ok (.ifCond .eq 12, 3) := by decide +kernel
theorem dX7_book_50 : decode cX7_book 50 = .ok (.aload_n 0, 1) := by decide +kernel
theorem dX7_book_51 : decode cX7_book 51 = .ok (.getfield 216, 3) := by decide +kernel
theorem dX7_book_54 : decode cX7_book 54 = .ok (.bipush 60, 2) := by decide +kernel
theorem dX7_book_56 : decode cX7_book 56 = .ok (.if_icmp .lt 6, 3) := by decide +kernel
theorem dX7_book_59 : decode cX7_book 59 = .ok (.bipush (-103), 2) := by decide +kernel
theorem dX7_book_61 : decode cX7_book 61 = .ok (.ireturn, 1) := by decide +kernel
theorem dX7_book_62 : decode cX7_book 62 = .ok (.aload_n 0, 1) := by decide +kernel
theorem dX7_book_63 : decode cX7_book 63 = .ok (.dup, 1) := by decide +kernel
theorem dX7_book_64 : decode cX7_book 64 = .ok (.getfield 216, 3) := by decide +kernel
theorem dX7_book_67 : decode cX7_book 67 = .ok (.iconst 1, 1) := by decide +kernel
theorem dX7_book_68 : decode cX7_book 68 = .ok (.iadd, 1) := by decide +kernel
theorem dX7_book_69 : decode cX7_book 69 = .ok (.putfield 216, 3) := by decide +kernel
theorem dX7_book_72 : decode cX7_book 72 = .ok (.aload_n 0, 1) := by decide +kernel
theorem dX7_book_73 : decode cX7_book 73 = .ok (.getfield 43, 3) := by decide +kernel
theorem dX7_book_76 : decode cX7_book 76 = .ok (.iload_n 3, 1) := by decide +kernel
theorem dX7_book_77 : decode cX7_book 77 = .ok (.iload 4, 2) := by decide +kernel
theorem dX7_book_79 : decode cX7_book 79 = .ok (.invokevirtual 219, 3) := by decide +kernel
theorem dX7_book_82 : decode cX7_book 82 = .ok (.aload_n 0, 1) := by decide +kernel
theorem dX7_book_83 : decode cX7_book 83 = .ok (.getfield 23, 3) := by decide +kernel
theorem dX7_book_86 : decode cX7_book 86 = .ok (.aload_n 0, 1) := by decide +kernel
theorem dX7_book_87 : decode cX7_book 87 = .ok (.getfield 16, 3) := by decide +kernel
theorem dX7_book_90 : decode cX7_book 90 = .ok (.invokevirtual 189, 3) := by decide +kernel
theorem dX7_book_93 : decode cX7_book 93 = .ok (.aload_n 0, 1) := by decide +kernel
theorem dX7_book_94 : decode cX7_book 94 = .ok (.getfield 23, 3) := by decide +kernel
theorem dX7_book_97 : decode cX7_book 97 = .ok (.getfield 113, 3) := by decide +kernel
theorem dX7_book_100 : decode cX7_book 100 = .ok (.iconst 4, 1) := by decide +kernel
theorem dX7_book_101 : decode cX7_book 101 = .ok (.aaload, 1) := by decide +kernel
theorem dX7_book_102 : decode cX7_book 102 = .ok (.getstatic 117, 3) := by decide +kernel
theorem dX7_book_105 : decode cX7_book 105 = .ok (.iload_n 1, 1) := by decide +kernel
theorem dX7_book_106 : decode cX7_book 106 = .ok (.aaload, 1) := by decide +kernel
theorem dX7_book_107 : decode cX7_book 107 = .ok (.iload_n 2, 1) := by decide +kernel
theorem dX7_book_108 : decode cX7_book 108 = .ok (.invokevirtual 121, 3) := by decide +kernel
theorem dX7_book_111 : decode cX7_book 111 = .ok (.aload_n 0, 1) := by decide +kernel
theorem dX7_book_112 : decode cX7_book 112 = .ok (.getfield 23, 3) := by decide +kernel
theorem dX7_book_115 : decode cX7_book 115 = .ok (.iconst 4, 1) := by decide +kernel
theorem dX7_book_116 : decode cX7_book 116 = .ok (.aload_n 0, 1) := by decide +kernel
theorem dX7_book_117 : decode cX7_book 117 = .ok (.getfield 43, 3) := by decide +kernel
theorem dX7_book_120 : decode cX7_book 120 = .ok (.iload_n 3, 1) := by decide +kernel
theorem dX7_book_121 : decode cX7_book 121 = .ok (.iconst 0, 1) := by decide +kernel
theorem dX7_book_122 : decode cX7_book 122 = .ok (.iconst (-1), 1) := by decide +kernel
theorem dX7_book_123 : decode cX7_book 123 = .ok (.invokestatic 193, 3) := by decide +kernel
theorem dX7_book_126 : decode cX7_book 126 = .ok (.aload_n 0, 1) := by decide +kernel
theorem dX7_book_127 : decode cX7_book 127 = .ok (.getfield 43, 3) := by decide +kernel
theorem dX7_book_130 : decode cX7_book 130 = .ok (.getfield 222, 3) := by decide +kernel
theorem dX7_book_133 : decode cX7_book 133 = .ok (.ireturn, 1) := by decide +kernel
theorem dX7_games_0 : decode cX7_games 0 = .ok (.iload_n 1, 1) := by decide +kernel
theorem dX7_games_1 : decode cX7_games 1 = .ok (.iconst 1, 1) := by decide +kernel
theorem dX7_games_2 : decode cX7_games 2 = .ok (.bipush 60, 2) := by decide +kernel
theorem dX7_games_4 : decode cX7_games 4 = .ok (.invokestatic 47, 3) := by decide +kernel
theorem dX7_games_7 : decode cX7_games 7 = .ok (.ifCond .ne 16, 3) := by decide +kernel
theorem dX7_games_10 : decode cX7_games 10 = .ok (.iload_n 2, 1) := by decide +kernel
theorem dX7_games_11 : decode cX7_games 11 = .ok (.ifCond .lt 12, 3) := by decide +kernel
theorem dX7_games_14 : decode cX7_games 14 = .ok (.iload_n 3, 1) := by decide +kernel
theorem dX7_games_15 : decode cX7_games 15 = .ok (.iconst 0, 1) := by decide +kernel
theorem dX7_games_16 : decode cX7_games 16 = .ok (.iconst 3, 1) := by decide +kernel
theorem dX7_games_17 : decode cX7_games 17 = .ok (.invokestatic 47, 3) := by decide +kernel
theorem dX7_games_20 : decode cX7_games 20 = .ok (.ifCond .eq 6, 3) := by decide +kernel
theorem dX7_games_23 : decode cX7_games 23 = .ok (.bipush (-102), 2) := by decide +kernel
theorem dX7_games_25 : decode cX7_games 25 = .ok (.ireturn, 1) := by decide +kernel
theorem dX7_games_26 : decode cX7_games 26 = .ok (.aload_n 0, 1) := by decide +kernel
theorem dX7_games_27 : decode cX7_games 27 = .ok (.invokevirtual 91, 3) := by decide +kernel
theorem dX7_games_30 : decode cX7_games 30 = .ok (.ifCond .eq 13, 3) := by decide +kernel
theorem dX7_games_33 : decode cX7_games 33 = .ok (.aload_n 0, 1) := by decide +kernel
theorem dX7_games_34 : decode cX7_games 34 = .ok (.getfield 16, 3) := by decide +kernel
theorem dX7_games_37 : decode cX7_games 37 = .ok (.getfield 110, 3) := by decide +kernel
theorem dX7_games_40 : decode cX7_games 40 = .ok (.ifCond .ne 6, 3) := by decide +kernel
theorem dX7_games_43 : decode cX7_games 43 = .ok (.bipush (-103), 2) := by decide +kernel
theorem dX7_games_45 : decode cX7_games 45 = .ok (.ireturn, 1) := by decide +kernel
theorem dX7_games_46 : decode cX7_games 46 = .ok (.aload_n 0, 1) := by decide +kernel
theorem dX7_games_47 : decode cX7_games 47 = .ok (.getfield 23, 3) := by decide +kernel
theorem dX7_games_50 : decode cX7_games 50 = .ok (.aload_n 0, 1) := by decide +kernel
theorem dX7_games_51 : decode cX7_games 51 = .ok (.getfield 16, 3) := by decide +kernel
theorem dX7_games_54 : decode cX7_games 54 = .ok (.invokevirtual 189, 3) := by decide +kernel
theorem dX7_games_57 : decode cX7_games 57 = .ok (.iload_n 2, 1) := by decide +kernel
theorem dX7_games_58 : decode cX7_games 58 = .ok (.i2l, 1) := by decide +kernel
theorem dX7_games_59 : decode cX7_games 59 = .ok (.lstore 4, 2) := by decide +kernel
theorem dX7_games_61 : decode cX7_games 61 = .ok (.iconst 0, 1) := by decide +kernel
theorem dX7_games_62 : decode cX7_games 62 = .ok (.istore 6, 2) := by decide +kernel
theorem dX7_games_64 : decode cX7_games 64 = .ok (.iconst 0, 1) := by decide +kernel
theorem dX7_games_65 : decode cX7_games 65 = .ok (.istore 7, 2) := by decide +kernel
theorem dX7_games_67 : decode cX7_games 67 = .ok (.iload 7, 2) := by decide +kernel
theorem dX7_games_69 : decode cX7_games 69 = .ok (.iload_n 1, 1) := by decide +kernel
theorem dX7_games_70 : decode cX7_games 70 = .ok (.if_icmp .ge 74, 3) := by decide +kernel
theorem dX7_games_73 : decode cX7_games 73 = .ok (.lload 4, 2) := by decide +kernel
theorem dX7_games_75 : decode cX7_games 75 = .ok (.invokestatic 225, 3) := by decide +kernel
theorem dX7_games_78 : decode cX7_games 78 = .ok (.lstore 4, 2) := by decide +kernel
theorem dX7_games_80 : decode cX7_games 80 = .ok (.lload 4, 2) := by decide +kernel
theorem dX7_games_82 : decode cX7_games 82 = .ok (.aload_n 0, 1) := by decide +kernel
theorem dX7_games_83 : decode cX7_games 83 = .ok (.getfield 23, 3) := by decide +kernel
theorem dX7_games_86 : decode cX7_games 86 = .ok (.getfield 110, 3) := by decide +kernel
theorem dX7_games_89 : decode cX7_games 89 = .ok (.invokestatic 229, 3) := by decide +kernel
theorem dX7_games_92 : decode cX7_games 92 = .ok (.istore 8, 2) := by decide +kernel
theorem dX7_games_94 : decode cX7_games 94 = .ok (.lload 4, 2) := by decide +kernel
theorem dX7_games_96 : decode cX7_games 96 = .ok (.invokestatic 225, 3) := by decide +kernel
theorem dX7_games_99 : decode cX7_games 99 = .ok (.lstore 4, 2) := by decide +kernel
theorem dX7_games_101 : decode cX7_games 101 = .ok (.lload 4, 2) := by decide +kernel
theorem dX7_games_103 : decode cX7_games 103 = .ok (.iconst 4, 1) := by decide +kernel
theorem dX7_games_104 : decode cX7_games 104 = .ok (.invokestatic 229, 3) := by decide +kernel
theorem dX7_games_107 : decode cX7_games 107 = .ok (.istore 9, 2) := by decide +kernel
theorem dX7_games_109 : decode cX7_games 109 = .ok (.aload_n 0, 1) := by decide +kernel
theorem dX7_games_110 : decode cX7_games 110 = .ok (.getfield 23, 3) := by decide +kernel
theorem dX7_games_113 : decode cX7_games 113 = .ok (.iload 8, 2) := by decide +kernel
theorem dX7_games_115 : decode cX7_games 115 = .ok (.iload 9, 2) := by decide +kernel
theorem dX7_games_117 : decode cX7_games 117 = .ok (.invokevirtual 164, 3) := by decide +kernel
theorem dX7_games_120 : decode cX7_games 120 = .ok (.ifCond .eq 18, 3) := by decide +kernel
theorem dX7_games_123 : decode cX7_games 123 = .ok (.aload_n 0, 1) := by decide +kernel
theorem dX7_games_124 : decode cX7_games 124 = .ok (.getfield 23, 3) := by decide +kernel
theorem dX7_games_127 : decode cX7_games 127 = .ok (.iload 8, 2) := by decide +kernel
theorem dX7_games_129 : decode cX7_games 129 = .ok (.iload 9, 2) := by decide +kernel
theorem dX7_games_131 : decode cX7_games 131 = .ok (.invokevirtual 168, 3) := by decide +kernel
theorem dX7_games_134 : decode cX7_games 134 = .ok (.pop, 1) := by decide +kernel
theorem dX7_games_135 : decode cX7_games 135 = .ok (.iinc 6 1, 3) := by decide +kernel
theorem dX7_games_138 : decode cX7_games 138 = .ok (.iinc 7 1, 3) := by decide +kernel
theorem dX7_games_141 : decode cX7_games 141 = .ok (.goto (-74), 3) := by decide +kernel
theorem dX7_games_144 : decode cX7_games 144 = .ok (.iload_n 3, 1) := by decide +kernel
theorem dX7_games_145 : decode cX7_games 145 = .ok (.tableswitch 46 0 2 #[27, 35, 38], 27) := by decide +kernel
theorem dX7_games_172 : decode cX7_games 172 = .ok (.aload_n 0, 1) := by decide +kernel
theorem dX7_games_173 : decode cX7_games 173 = .ok (.getfield 23, 3) := by decide +kernel
theorem dX7_games_176 : decode cX7_games 176 = .ok (.invokevirtual 233, 3) := by decide +kernel
theorem dX7_games_179 : decode cX7_games 179 = .ok (.ireturn, 1) := by decide +kernel
theorem dX7_games_180 : decode cX7_games 180 = .ok (.iload 6, 2) := by decide +kernel
theorem dX7_games_182 : decode cX7_games 182 = .ok (.ireturn, 1) := by decide +kernel
theorem dX7_games_183 : decode cX7_games 183 = .ok (.aload_n 0, 1) := by decide +kernel
theorem dX7_games_184 : decode cX7_games 184 = .ok (.getfield 23, 3) := by decide +kernel
theorem dX7_games_187 : decode cX7_games 187 = .ok (.invokevirtual 84, 3) := by decide +kernel
theorem dX7_games_190 : decode cX7_games 190 = .ok (.ireturn, 1) := by decide +kernel
theorem dX7_games_191 : decode cX7_games 191 = .ok (.lload 4, 2) := by decide +kernel
theorem dX7_games_193 : decode cX7_games 193 = .ok (.l2i, 1) := by decide +kernel
theorem dX7_games_194 : decode cX7_games 194 = .ok (.ireturn, 1) := by decide +kernel
theorem dX7_image_0 : decode cX7_image 0 = .ok (.aload_n 0, 1) := by decide +kernel
theorem dX7_image_1 : decode cX7_image 1 = .ok (.invokevirtual 91, 3) := by decide +kernel
theorem dX7_image_4 : decode cX7_image 4 = .ok (.ifCond .ne 6, 3) := by decide +kernel
theorem dX7_image_7 : decode cX7_image 7 = .ok (.bipush (-103), 2) := by decide +kernel
theorem dX7_image_9 : decode cX7_image 9 = .ok (.ireturn, 1) := by decide +kernel
theorem dX7_image_10 : decode cX7_image 10 = .ok (.aload_n 0, 1) := by decide +kernel
theorem dX7_image_11 : decode cX7_image 11 = .ok (.getfield 20, 3) := by decide +kernel
theorem dX7_image_14 : decode cX7_image 14 = .ok (.aload_n 0, 1) := by decide +kernel
theorem dX7_image_15 : decode cX7_image 15 = .ok (.getfield 16, 3) := by decide +kernel
theorem dX7_image_18 : decode cX7_image 18 = .ok (.invokevirtual 189, 3) := by decide +kernel
theorem dX7_image_21 : decode cX7_image 21 = .ok (.aload_n 0, 1) := by decide +kernel
theorem dX7_image_22 : decode cX7_image 22 = .ok (.iconst 1, 1) := by decide +kernel
theorem dX7_image_23 : decode cX7_image 23 = .ok (.putfield 80, 3) := by decide +kernel
theorem dX7_image_26 : decode cX7_image 26 = .ok (.aload_n 0, 1) := by decide +kernel
theorem dX7_image_27 : decode cX7_image 27 = .ok (.getfield 20, 3) := by decide +kernel
theorem dX7_image_30 : decode cX7_image 30 = .ok (.getfield 110, 3) := by decide +kernel
theorem dX7_image_33 : decode cX7_image 33 = .ok (.ireturn, 1) := by decide +kernel
theorem dX7_restore_0 : decode cX7_restore 0 = .ok (.aload_n 0, 1) := by decide +kernel
theorem dX7_restore_1 : decode cX7_restore 1 = .ok (.getfield 80, 3) := by decide +kernel
theorem dX7_restore_4 : decode cX7_restore 4 = .ok (.ifCond .ne 6, 3) := by decide +kernel
theorem dX7_restore_7 : decode cX7_restore 7 = .ok (.bipush (-103), 2) := by decide +kernel
theorem dX7_restore_9 : decode cX7_restore 9 = .ok (.ireturn, 1) := by decide +kernel
theorem dX7_restore_10 : decode cX7_restore 10 = .ok (.aload_n 0, 1) := by decide +kernel
theorem dX7_restore_11 : decode cX7_restore 11 = .ok (.getfield 16, 3) := by decide +kernel
theorem dX7_restore_14 : decode cX7_restore 14 = .ok (.aload_n 0, 1) := by decide +kernel
theorem dX7_restore_15 : decode cX7_restore 15 = .ok (.getfield 20, 3) := by decide +kernel
theorem dX7_restore_18 : decode cX7_restore 18 = .ok (.invokevirtual 189, 3) := by decide +kernel
theorem dX7_restore_21 : decode cX7_restore 21 = .ok (.aload_n 0, 1) := by decide +kernel
theorem dX7_restore_22 : decode cX7_restore 22 = .ok (.getfield 16, 3) := by decide +kernel
theorem dX7_restore_25 : decode cX7_restore 25 = .ok (.getfield 110, 3) := by decide +kernel
theorem dX7_restore_28 : decode cX7_restore 28 = .ok (.ireturn, 1) := by decide +kernel
theorem dX7_count_0 : decode cX7_count 0 = .ok (.iload_n 1, 1) := by decide +kernel
theorem dX7_count_1 : decode cX7_count 1 = .ok (.tableswitch 158 0 11 #[63, 71, 79, 87, 106, 114, 122, 130, 138, 143, 148, 153], 63) := by decide +kernel
theorem dX7_count_64 : decode cX7_count 64 = .ok (.aload_n 0, 1) := by decide +kernel
theorem dX7_count_65 : decode cX7_count 65 = .ok (.getfield 16, 3) := by decide +kernel
theorem dX7_count_68 : decode cX7_count 68 = .ok (.invokevirtual 84, 3) := by decide +kernel
theorem dX7_count_71 : decode cX7_count 71 = .ok (.ireturn, 1) := by decide +kernel
theorem dX7_count_72 : decode cX7_count 72 = .ok (.aload_n 0, 1) := by decide +kernel
theorem dX7_count_73 : decode cX7_count 73 = .ok (.getfield 16, 3) := by decide +kernel
theorem dX7_count_76 : decode cX7_count 76 = .ok (.getfield 110, 3) := by decide +kernel
theorem dX7_count_79 : decode cX7_count 79 = .ok (.ireturn, 1) := by decide +kernel
theorem dX7_count_80 : decode cX7_count 80 = .ok (.aload_n 0, 1) := by decide +kernel
theorem dX7_count_81 : decode cX7_count 81 = .ok (.getfield 16, 3) := by decide +kernel
theorem dX7_count_84 : decode cX7_count 84 = .ok (.invokevirtual 236, 3) := by decide +kernel
theorem dX7_count_87 : decode cX7_count 87 = .ok (.ireturn, 1) := by decide +kernel
theorem dX7_count_88 : decode cX7_count 88 = .ok (.aload_n 0, 1) := by decide +kernel
theorem dX7_count_89 : decode cX7_count 89 = .ok (.invokevirtual 91, 3) := by decide +kernel
theorem dX7_count_92 : decode cX7_count 92 = .ok (.ifCond .eq 13, 3) := by decide +kernel
theorem dX7_count_95 : decode cX7_count 95 = .ok (.aload_n 0, 1) := by decide +kernel
theorem dX7_count_96 : decode cX7_count 96 = .ok (.getfield 16, 3) := by decide +kernel
theorem dX7_count_99 : decode cX7_count 99 = .ok (.invokevirtual 239, 3) := by decide +kernel
theorem dX7_count_102 : decode cX7_count 102 = .ok (.goto 4, 3) := by decide +kernel
theorem dX7_count_105 : decode cX7_count 105 = .ok (.iconst 0, 1) := by decide +kernel
theorem dX7_count_106 : decode cX7_count 106 = .ok (.ireturn, 1) := by decide +kernel
theorem dX7_count_107 : decode cX7_count 107 = .ok (.aload_n 0, 1) := by decide +kernel
theorem dX7_count_108 : decode cX7_count 108 = .ok (.getfield 16, 3) := by decide +kernel
theorem dX7_count_111 : decode cX7_count 111 = .ok (.getfield 74, 3) := by decide +kernel
theorem dX7_count_114 : decode cX7_count 114 = .ok (.ireturn, 1) := by decide +kernel
theorem dX7_count_115 : decode cX7_count 115 = .ok (.aload_n 0, 1) := by decide +kernel
theorem dX7_count_116 : decode cX7_count 116 = .ok (.getfield 16, 3) := by decide +kernel
theorem dX7_count_119 : decode cX7_count 119 = .ok (.getfield 101, 3) := by decide +kernel
theorem dX7_count_122 : decode cX7_count 122 = .ok (.ireturn, 1) := by decide +kernel
theorem dX7_count_123 : decode cX7_count 123 = .ok (.aload_n 0, 1) := by decide +kernel
theorem dX7_count_124 : decode cX7_count 124 = .ok (.getfield 16, 3) := by decide +kernel
theorem dX7_count_127 : decode cX7_count 127 = .ok (.getfield 242, 3) := by decide +kernel
theorem dX7_count_130 : decode cX7_count 130 = .ok (.ireturn, 1) := by decide +kernel
theorem dX7_count_131 : decode cX7_count 131 = .ok (.aload_n 0, 1) := by decide +kernel
theorem dX7_count_132 : decode cX7_count 132 = .ok (.getfield 16, 3) := by decide +kernel
theorem dX7_count_135 : decode cX7_count 135 = .ok (.invokevirtual 233, 3) := by decide +kernel
theorem dX7_count_138 : decode cX7_count 138 = .ok (.ireturn, 1) := by decide +kernel
theorem dX7_count_139 : decode cX7_count 139 = .ok (.aload_n 0, 1) := by decide +kernel
theorem dX7_count_140 : decode cX7_count 140 = .ok (.getfield 51, 3) := by decide +kernel
theorem dX7_count_143 : decode cX7_count 143 = .ok (.ireturn, 1) := by decide +kernel
theorem dX7_count_144 : decode cX7_count 144 = .ok (.aload_n 0, 1) := by decide +kernel
theorem dX7_count_145 : decode cX7_count 145 = .ok (.getfield 77, 3) := by decide +kernel
theorem dX7_count_148 : decode cX7_count 148 = .ok (.ireturn, 1) := by decide +kernel
theorem dX7_count_149 : decode cX7_count 149 = .ok (.aload_n 0, 1) := by decide +kernel
theorem dX7_count_150 : decode cX7_count 150 = .ok (.getfield 184, 3) := by decide +kernel
theorem dX7_count_153 : decode cX7_count 153 = .ok (.ireturn, 1) := by decide +kernel
theorem dX7_count_154 : decode cX7_count 154 = .ok (.aload_n 0, 1) := by decide +kernel
theorem dX7_count_155 : decode cX7_count 155 = .ok (.getfield 216, 3) := by decide +kernel
theorem dX7_count_158 : decode cX7_count 158 = .ok (.ireturn, 1) := by decide +kernel
theorem dX7_count_159 : decode cX7_count 159 = .ok (.bipush (-102), 2) := by decide +kernel
theorem dX7_count_161 : decode cX7_count 161 = .ok (.ireturn, 1) := by decide +kernel
theorem dX7_digest_0 : decode cX7_digest 0 = .ok (.aload_n 0, 1) := by decide +kernel
theorem dX7_digest_1 : decode cX7_digest 1 = .ok (.aload_n 0, 1) := by decide +kernel
theorem dX7_digest_2 : decode cX7_digest 2 = .ok (.ldc2_w 245, 3) := by decide +kernel
theorem dX7_digest_5 : decode cX7_digest 5 = .ok (.invokevirtual 247, 3) := by decide +kernel
theorem dX7_digest_8 : decode cX7_digest 8 = .ok (.invokevirtual 250, 3) := by decide +kernel
theorem dX7_digest_11 : decode cX7_digest 11 = .ok (.lstore_n 1, 1) := by decide +kernel
theorem dX7_digest_12 : decode cX7_digest 12 = .ok (.lload_n 1, 1) := by decide +kernel
theorem dX7_digest_13 : decode cX7_digest 13 = .ok (.aload_n 0, 1) := by decide +kernel
theorem dX7_digest_14 : decode cX7_digest 14 = .ok (.iconst 0, 1) := by decide +kernel
theorem dX7_digest_15 : decode cX7_digest 15 = .ok (.invokevirtual 253, 3) := by decide +kernel
theorem dX7_digest_18 : decode cX7_digest 18 = .ok (.i2l, 1) := by decide +kernel
theorem dX7_digest_19 : decode cX7_digest 19 = .ok (.invokestatic 256, 3) := by decide +kernel
theorem dX7_digest_22 : decode cX7_digest 22 = .ok (.lstore_n 1, 1) := by decide +kernel
theorem dX7_digest_23 : decode cX7_digest 23 = .ok (.lload_n 1, 1) := by decide +kernel
theorem dX7_digest_24 : decode cX7_digest 24 = .ok (.aload_n 0, 1) := by decide +kernel
theorem dX7_digest_25 : decode cX7_digest 25 = .ok (.iconst 1, 1) := by decide +kernel
theorem dX7_digest_26 : decode cX7_digest 26 = .ok (.invokevirtual 253, 3) := by decide +kernel
theorem dX7_digest_29 : decode cX7_digest 29 = .ok (.i2l, 1) := by decide +kernel
theorem dX7_digest_30 : decode cX7_digest 30 = .ok (.invokestatic 256, 3) := by decide +kernel
theorem dX7_digest_33 : decode cX7_digest 33 = .ok (.lstore_n 1, 1) := by decide +kernel
theorem dX7_digest_34 : decode cX7_digest 34 = .ok (.lload_n 1, 1) := by decide +kernel
theorem dX7_digest_35 : decode cX7_digest 35 = .ok (.aload_n 0, 1) := by decide +kernel
theorem dX7_digest_36 : decode cX7_digest 36 = .ok (.iconst 1, 1) := by decide +kernel
theorem dX7_digest_37 : decode cX7_digest 37 = .ok (.invokevirtual 260, 3) := by decide +kernel
theorem dX7_digest_40 : decode cX7_digest 40 = .ok (.i2l, 1) := by decide +kernel
theorem dX7_digest_41 : decode cX7_digest 41 = .ok (.invokestatic 256, 3) := by decide +kernel
theorem dX7_digest_44 : decode cX7_digest 44 = .ok (.lstore_n 1, 1) := by decide +kernel
theorem dX7_digest_45 : decode cX7_digest 45 = .ok (.iconst 0, 1) := by decide +kernel
theorem dX7_digest_46 : decode cX7_digest 46 = .ok (.istore_n 3, 1) := by decide +kernel
theorem dX7_digest_47 : decode cX7_digest 47 = .ok (.iload_n 3, 1) := by decide +kernel
theorem dX7_digest_48 : decode cX7_digest 48 = .ok (.aload_n 0, 1) := by decide +kernel
theorem dX7_digest_49 : decode cX7_digest 49 = .ok (.getfield 51, 3) := by decide +kernel
theorem dX7_digest_52 : decode cX7_digest 52 = .ok (.if_icmp .ge 21, 3) := by decide +kernel
theorem dX7_digest_55 : decode cX7_digest 55 = .ok (.lload_n 1, 1) := by decide +kernel
theorem dX7_digest_56 : decode cX7_digest 56 = .ok (.aload_n 0, 1) := by decide +kernel
theorem dX7_digest_57 : decode cX7_digest 57 = .ok (.getfield 9, 3) := by decide +kernel
theorem dX7_digest_60 : decode cX7_digest 60 = .ok (.iload_n 3, 1) := by decide +kernel
theorem dX7_digest_61 : decode cX7_digest 61 = .ok (.caload, 1) := by decide +kernel
theorem dX7_digest_62 : decode cX7_digest 62 = .ok (.i2l, 1) := by decide +kernel
theorem dX7_digest_63 : decode cX7_digest 63 = .ok (.invokestatic 256, 3) := by decide +kernel
theorem dX7_digest_66 : decode cX7_digest 66 = .ok (.lstore_n 1, 1) := by decide +kernel
theorem dX7_digest_67 : decode cX7_digest 67 = .ok (.iinc 3 1, 3) := by decide +kernel
theorem dX7_digest_70 : decode cX7_digest 70 = .ok (.goto (-23), 3) := by decide +kernel
theorem dX7_digest_73 : decode cX7_digest 73 = .ok (.iconst 0, 1) := by decide +kernel
theorem dX7_digest_74 : decode cX7_digest 74 = .ok (.istore_n 3, 1) := by decide +kernel
theorem dX7_digest_75 : decode cX7_digest 75 = .ok (.iload_n 3, 1) := by decide +kernel
theorem dX7_digest_76 : decode cX7_digest 76 = .ok (.bipush 12, 2) := by decide +kernel
theorem dX7_digest_78 : decode cX7_digest 78 = .ok (.if_icmp .ge 20, 3) := by decide +kernel
theorem dX7_digest_81 : decode cX7_digest 81 = .ok (.lload_n 1, 1) := by decide +kernel
theorem dX7_digest_82 : decode cX7_digest 82 = .ok (.aload_n 0, 1) := by decide +kernel
theorem dX7_digest_83 : decode cX7_digest 83 = .ok (.iload_n 3, 1) := by decide +kernel
theorem dX7_digest_84 : decode cX7_digest 84 = .ok (.invokevirtual 263, 3) := by decide +kernel
theorem dX7_digest_87 : decode cX7_digest 87 = .ok (.i2l, 1) := by decide +kernel
theorem dX7_digest_88 : decode cX7_digest 88 = .ok (.invokestatic 256, 3) := by decide +kernel
theorem dX7_digest_91 : decode cX7_digest 91 = .ok (.lstore_n 1, 1) := by decide +kernel
theorem dX7_digest_92 : decode cX7_digest 92 = .ok (.iinc 3 1, 3) := by decide +kernel
theorem dX7_digest_95 : decode cX7_digest 95 = .ok (.goto (-20), 3) := by decide +kernel
theorem dX7_digest_98 : decode cX7_digest 98 = .ok (.lload_n 1, 1) := by decide +kernel
theorem dX7_digest_99 : decode cX7_digest 99 = .ok (.lreturn, 1) := by decide +kernel
theorem dX7_digestOfPlaces_0 : decode cX7_digestOfPlaces 0 = .ok (.lload_n 1, 1) := by decide +kernel
theorem dX7_digestOfPlaces_1 : decode cX7_digestOfPlaces 1 = .ok (.lstore_n 3, 1) := by decide +kernel
theorem dX7_digestOfPlaces_2 : decode cX7_digestOfPlaces 2 = .ok (.aload_n 0, 1) := by decide +kernel
theorem dX7_digestOfPlaces_3 : decode cX7_digestOfPlaces 3 = .ok (.invokevirtual 91, 3) := by decide +kernel
theorem dX7_digestOfPlaces_6 : decode cX7_digestOfPlaces 6 = .ok (.ifCond .ne 5, 3) := by decide +kernel
theorem dX7_digestOfPlaces_9 : decode cX7_digestOfPlaces 9 = .ok (.lload_n 3, 1) := by decide +kernel
theorem dX7_digestOfPlaces_10 : decode cX7_digestOfPlaces 10 = .ok (.lreturn, 1) := by decide +kernel
theorem dX7_digestOfPlaces_11 : decode cX7_digestOfPlaces 11 = .ok (.iconst 0, 1) := by decide +kernel
theorem dX7_digestOfPlaces_12 : decode cX7_digestOfPlaces 12 = .ok (.istore 5, 2) := by decide +kernel
theorem dX7_digestOfPlaces_14 : decode cX7_digestOfPlaces 14 = .ok (.iload 5, 2) := by decide +kernel
theorem dX7_digestOfPlaces_16 : decode cX7_digestOfPlaces 16 = .ok (.bipush 20, 2) := by decide +kernel
theorem dX7_digestOfPlaces_18 : decode cX7_digestOfPlaces 18 = .ok (.if_icmp .ge 38, 3) := by decide +kernel
theorem dX7_digestOfPlaces_21 : decode cX7_digestOfPlaces 21 = .ok (.iconst 0, 1) := by decide +kernel
theorem dX7_digestOfPlaces_22 : decode cX7_digestOfPlaces 22 = .ok (.istore 6, 2) := by decide +kernel
theorem dX7_digestOfPlaces_24 : decode cX7_digestOfPlaces 24 = .ok (.iload 6, 2) := by decide +kernel
theorem dX7_digestOfPlaces_26 : decode cX7_digestOfPlaces 26 = .ok (.iconst 2, 1) := by decide +kernel
theorem dX7_digestOfPlaces_27 : decode cX7_digestOfPlaces 27 = .ok (.if_icmp .gt 23, 3) := by decide +kernel
theorem dX7_digestOfPlaces_30 : decode cX7_digestOfPlaces 30 = .ok (.lload_n 3, 1) := by decide +kernel
theorem dX7_digestOfPlaces_31 : decode cX7_digestOfPlaces 31 = .ok (.aload_n 0, 1) := by decide +kernel
theorem dX7_digestOfPlaces_32 : decode cX7_digestOfPlaces 32 = .ok (.iload 5, 2) := by decide +kernel
theorem dX7_digestOfPlaces_34 : decode cX7_digestOfPlaces 34 = .ok (.iload 6, 2) := by decide +kernel
theorem dX7_digestOfPlaces_36 : decode cX7_digestOfPlaces 36 = .ok (.invokevirtual 266, 3) := by decide +kernel
theorem dX7_digestOfPlaces_39 : decode cX7_digestOfPlaces 39 = .ok (.i2l, 1) := by decide +kernel
theorem dX7_digestOfPlaces_40 : decode cX7_digestOfPlaces 40 = .ok (.invokestatic 256, 3) := by decide +kernel
theorem dX7_digestOfPlaces_43 : decode cX7_digestOfPlaces 43 = .ok (.lstore_n 3, 1) := by decide +kernel
theorem dX7_digestOfPlaces_44 : decode cX7_digestOfPlaces 44 = .ok (.iinc 6 1, 3) := by decide +kernel
theorem dX7_digestOfPlaces_47 : decode cX7_digestOfPlaces 47 = .ok (.goto (-23), 3) := by decide +kernel
theorem dX7_digestOfPlaces_50 : decode cX7_digestOfPlaces 50 = .ok (.iinc 5 1, 3) := by decide +kernel
theorem dX7_digestOfPlaces_53 : decode cX7_digestOfPlaces 53 = .ok (.goto (-39), 3) := by decide +kernel
theorem dX7_digestOfPlaces_56 : decode cX7_digestOfPlaces 56 = .ok (.lload_n 3, 1) := by decide +kernel
theorem dX7_digestOfPlaces_57 : decode cX7_digestOfPlaces 57 = .ok (.lreturn, 1) := by decide +kernel
theorem dX7_digestOfBalls_0 : decode cX7_digestOfBalls 0 = .ok (.lload_n 1, 1) := by decide +kernel
theorem dX7_digestOfBalls_1 : decode cX7_digestOfBalls 1 = .ok (.lstore_n 3, 1) := by decide +kernel
theorem dX7_digestOfBalls_2 : decode cX7_digestOfBalls 2 = .ok (.iconst 0, 1) := by decide +kernel
theorem dX7_digestOfBalls_3 : decode cX7_digestOfBalls 3 = .ok (.istore 5, 2) := by decide +kernel
theorem dX7_digestOfBalls_5 : decode cX7_digestOfBalls 5 = .ok (.iload 5, 2) := by decide +kernel
theorem dX7_digestOfBalls_7 : decode cX7_digestOfBalls 7 = .ok (.aload_n 0, 1) := by decide +kernel
theorem dX7_digestOfBalls_8 : decode cX7_digestOfBalls 8 = .ok (.getfield 16, 3) := by decide +kernel
theorem dX7_digestOfBalls_11 : decode cX7_digestOfBalls 11 = .ok (.getfield 110, 3) := by decide +kernel
theorem dX7_digestOfBalls_14 : decode cX7_digestOfBalls 14 = .ok (.if_icmp .ge 68, 3) := by decide +kernel
theorem dX7_digestOfBalls_17 : decode cX7_digestOfBalls 17 = .ok (.iconst 0, 1) := by decide +kernel
theorem dX7_digestOfBalls_18 : decode cX7_digestOfBalls 18 = .ok (.istore 6, 2) := by decide +kernel
theorem dX7_digestOfBalls_20 : decode cX7_digestOfBalls 20 = .ok (.iload 6, 2) := by decide +kernel
theorem dX7_digestOfBalls_22 : decode cX7_digestOfBalls 22 = .ok (.bipush 7, 2) := by decide +kernel
theorem dX7_digestOfBalls_24 : decode cX7_digestOfBalls 24 = .ok (.if_icmp .ge 23, 3) := by decide +kernel
theorem dX7_digestOfBalls_27 : decode cX7_digestOfBalls 27 = .ok (.lload_n 3, 1) := by decide +kernel
theorem dX7_digestOfBalls_28 : decode cX7_digestOfBalls 28 = .ok (.aload_n 0, 1) := by decide +kernel
theorem dX7_digestOfBalls_29 : decode cX7_digestOfBalls 29 = .ok (.iload 5, 2) := by decide +kernel
theorem dX7_digestOfBalls_31 : decode cX7_digestOfBalls 31 = .ok (.iload 6, 2) := by decide +kernel
theorem dX7_digestOfBalls_33 : decode cX7_digestOfBalls 33 = .ok (.invokevirtual 268, 3) := by decide +kernel
theorem dX7_digestOfBalls_36 : decode cX7_digestOfBalls 36 = .ok (.i2l, 1) := by decide +kernel
theorem dX7_digestOfBalls_37 : decode cX7_digestOfBalls 37 = .ok (.invokestatic 256, 3) := by decide +kernel
theorem dX7_digestOfBalls_40 : decode cX7_digestOfBalls 40 = .ok (.lstore_n 3, 1) := by decide +kernel
theorem dX7_digestOfBalls_41 : decode cX7_digestOfBalls 41 = .ok (.iinc 6 1, 3) := by decide +kernel
theorem dX7_digestOfBalls_44 : decode cX7_digestOfBalls 44 = .ok (.goto (-24), 3) := by decide +kernel
theorem dX7_digestOfBalls_47 : decode cX7_digestOfBalls 47 = .ok (.iconst 0, 1) := by decide +kernel
theorem dX7_digestOfBalls_48 : decode cX7_digestOfBalls 48 = .ok (.istore 6, 2) := by decide +kernel
theorem dX7_digestOfBalls_50 : decode cX7_digestOfBalls 50 = .ok (.iload 6, 2) := by decide +kernel
theorem dX7_digestOfBalls_52 : decode cX7_digestOfBalls 52 = .ok (.iconst 4, 1) := by decide +kernel
theorem dX7_digestOfBalls_53 : decode cX7_digestOfBalls 53 = .ok (.if_icmp .ge 23, 3) := by decide +kernel
theorem dX7_digestOfBalls_56 : decode cX7_digestOfBalls 56 = .ok (.lload_n 3, 1) := by decide +kernel
theorem dX7_digestOfBalls_57 : decode cX7_digestOfBalls 57 = .ok (.aload_n 0, 1) := by decide +kernel
theorem dX7_digestOfBalls_58 : decode cX7_digestOfBalls 58 = .ok (.iload 5, 2) := by decide +kernel
theorem dX7_digestOfBalls_60 : decode cX7_digestOfBalls 60 = .ok (.iload 6, 2) := by decide +kernel
theorem dX7_digestOfBalls_62 : decode cX7_digestOfBalls 62 = .ok (.invokevirtual 271, 3) := by decide +kernel
theorem dX7_digestOfBalls_65 : decode cX7_digestOfBalls 65 = .ok (.i2l, 1) := by decide +kernel
theorem dX7_digestOfBalls_66 : decode cX7_digestOfBalls 66 = .ok (.invokestatic 256, 3) := by decide +kernel
theorem dX7_digestOfBalls_69 : decode cX7_digestOfBalls 69 = .ok (.lstore_n 3, 1) := by decide +kernel
theorem dX7_digestOfBalls_70 : decode cX7_digestOfBalls 70 = .ok (.iinc 6 1, 3) := by decide +kernel
theorem dX7_digestOfBalls_73 : decode cX7_digestOfBalls 73 = .ok (.goto (-23), 3) := by decide +kernel
theorem dX7_digestOfBalls_76 : decode cX7_digestOfBalls 76 = .ok (.iinc 5 1, 3) := by decide +kernel
theorem dX7_digestOfBalls_79 : decode cX7_digestOfBalls 79 = .ok (.goto (-74), 3) := by decide +kernel
theorem dX7_digestOfBalls_82 : decode cX7_digestOfBalls 82 = .ok (.lload_n 3, 1) := by decide +kernel
theorem dX7_digestOfBalls_83 : decode cX7_digestOfBalls 83 = .ok (.lreturn, 1) := by decide +kernel
theorem dX7_mixed_0 : decode cX7_mixed 0 = .ok (.ldc2_w 274, 3) := by decide +kernel
theorem dX7_mixed_3 : decode cX7_mixed 3 = .ok (.lload_n 0, 1) := by decide +kernel
theorem dX7_mixed_4 : decode cX7_mixed 4 = .ok (.lmul, 1) := by decide +kernel
theorem dX7_mixed_5 : decode cX7_mixed 5 = .ok (.lload_n 2, 1) := by decide +kernel
theorem dX7_mixed_6 : decode cX7_mixed 6 = .ok (.ladd, 1) := by decide +kernel
theorem dX7_mixed_7 : decode cX7_mixed 7 = .ok (.lreturn, 1) := by decide +kernel
theorem dX7_hasLawn_0 : decode cX7_hasLawn 0 = .ok (.aload_n 0, 1) := by decide +kernel
theorem dX7_hasLawn_1 : decode cX7_hasLawn 1 = .ok (.getfield 77, 3) := by decide +kernel
theorem dX7_hasLawn_4 : decode cX7_hasLawn 4 = .ok (.ifCond .le 7, 3) := by decide +kernel
theorem dX7_hasLawn_7 : decode cX7_hasLawn 7 = .ok (.iconst 1, 1) := by decide +kernel
theorem dX7_hasLawn_8 : decode cX7_hasLawn 8 = .ok (.goto 4, 3) := by decide +kernel
theorem dX7_hasLawn_11 : decode cX7_hasLawn 11 = .ok (.iconst 0, 1) := by decide +kernel
theorem dX7_hasLawn_12 : decode cX7_hasLawn 12 = .ok (.ireturn, 1) := by decide +kernel
theorem dX7_isBall_0 : decode cX7_isBall 0 = .ok (.iload_n 1, 1) := by decide +kernel
theorem dX7_isBall_1 : decode cX7_isBall 1 = .ok (.ifCond .lt 18, 3) := by decide +kernel
theorem dX7_isBall_4 : decode cX7_isBall 4 = .ok (.iload_n 1, 1) := by decide +kernel
theorem dX7_isBall_5 : decode cX7_isBall 5 = .ok (.aload_n 0, 1) := by decide +kernel
theorem dX7_isBall_6 : decode cX7_isBall 6 = .ok (.getfield 16, 3) := by decide +kernel
theorem dX7_isBall_9 : decode cX7_isBall 9 = .ok (.getfield 110, 3) := by decide +kernel
theorem dX7_isBall_12 : decode cX7_isBall 12 = .ok (.if_icmp .ge 7, 3) := by decide +kernel
theorem dX7_isBall_15 : decode cX7_isBall 15 = .ok (.iconst 1, 1) := by decide +kernel
theorem dX7_isBall_16 : decode cX7_isBall 16 = .ok (.goto 4, 3) := by decide +kernel
theorem dX7_isBall_19 : decode cX7_isBall 19 = .ok (.iconst 0, 1) := by decide +kernel
theorem dX7_isBall_20 : decode cX7_isBall 20 = .ok (.ireturn, 1) := by decide +kernel
theorem dX7_maySearch_0 : decode cX7_maySearch 0 = .ok (.aload_n 0, 1) := by decide +kernel
theorem dX7_maySearch_1 : decode cX7_maySearch 1 = .ok (.getfield 16, 3) := by decide +kernel
theorem dX7_maySearch_4 : decode cX7_maySearch 4 = .ok (.getfield 113, 3) := by decide +kernel
theorem dX7_maySearch_7 : decode cX7_maySearch 7 = .ok (.iload_n 1, 1) := by decide +kernel
theorem dX7_maySearch_8 : decode cX7_maySearch 8 = .ok (.aaload, 1) := by decide +kernel
theorem dX7_maySearch_9 : decode cX7_maySearch 9 = .ok (.invokevirtual 276, 3) := by decide +kernel
theorem dX7_maySearch_12 : decode cX7_maySearch 12 = .ok (.ifCond .ne 16, 3) := by decide +kernel
theorem dX7_maySearch_15 : decode cX7_maySearch 15 = .ok (.aload_n 0, 1) := by decide +kernel
theorem dX7_maySearch_16 : decode cX7_maySearch 16 = .ok (.getfield 184, 3) := by decide +kernel
theorem dX7_maySearch_19 : decode cX7_maySearch 19 = .ok (.bipush 60, 2) := by decide +kernel
theorem dX7_maySearch_21 : decode cX7_maySearch 21 = .ok (.if_icmp .ge 7, 3) := by decide +kernel
theorem dX7_maySearch_24 : decode cX7_maySearch 24 = .ok (.iconst 1, 1) := by decide +kernel
theorem dX7_maySearch_25 : decode cX7_maySearch 25 = .ok (.goto 4, 3) := by decide +kernel
theorem dX7_maySearch_28 : decode cX7_maySearch 28 = .ok (.iconst 0, 1) := by decide +kernel
theorem dX7_maySearch_29 : decode cX7_maySearch 29 = .ok (.ireturn, 1) := by decide +kernel
theorem dX7_isPlace_0 : decode cX7_isPlace 0 = .ok (.iload_n 0, 1) := by decide +kernel
theorem dX7_isPlace_1 : decode cX7_isPlace 1 = .ok (.iconst 0, 1) := by decide +kernel
theorem dX7_isPlace_2 : decode cX7_isPlace 2 = .ok (.bipush 19, 2) := by decide +kernel
theorem dX7_isPlace_4 : decode cX7_isPlace 4 = .ok (.invokestatic 47, 3) := by decide +kernel
theorem dX7_isPlace_7 : decode cX7_isPlace 7 = .ok (.ifCond .ne 7, 3) := by decide +kernel
theorem dX7_isPlace_10 : decode cX7_isPlace 10 = .ok (.iconst 1, 1) := by decide +kernel
theorem dX7_isPlace_11 : decode cX7_isPlace 11 = .ok (.goto 4, 3) := by decide +kernel
theorem dX7_isPlace_14 : decode cX7_isPlace 14 = .ok (.iconst 0, 1) := by decide +kernel
theorem dX7_isPlace_15 : decode cX7_isPlace 15 = .ok (.ireturn, 1) := by decide +kernel
theorem dX7_isKind_0 : decode cX7_isKind 0 = .ok (.iload_n 0, 1) := by decide +kernel
theorem dX7_isKind_1 : decode cX7_isKind 1 = .ok (.iconst 0, 1) := by decide +kernel
theorem dX7_isKind_2 : decode cX7_isKind 2 = .ok (.getstatic 117, 3) := by decide +kernel
theorem dX7_isKind_5 : decode cX7_isKind 5 = .ok (.arraylength, 1) := by decide +kernel
theorem dX7_isKind_6 : decode cX7_isKind 6 = .ok (.iconst 1, 1) := by decide +kernel
theorem dX7_isKind_7 : decode cX7_isKind 7 = .ok (.isub, 1) := by decide +kernel
theorem dX7_isKind_8 : decode cX7_isKind 8 = .ok (.invokestatic 47, 3) := by decide +kernel
theorem dX7_isKind_11 : decode cX7_isKind 11 = .ok (.ifCond .ne 7, 3) := by decide +kernel
theorem dX7_isKind_14 : decode cX7_isKind 14 = .ok (.iconst 1, 1) := by decide +kernel
theorem dX7_isKind_15 : decode cX7_isKind 15 = .ok (.goto 4, 3) := by decide +kernel
theorem dX7_isKind_18 : decode cX7_isKind 18 = .ok (.iconst 0, 1) := by decide +kernel
theorem dX7_isKind_19 : decode cX7_isKind 19 = .ok (.ireturn, 1) := by decide +kernel
theorem dX7_isSide_0 : decode cX7_isSide 0 = .ok (.iload_n 0, 1) := by decide +kernel
theorem dX7_isSide_1 : decode cX7_isSide 1 = .ok (.iconst 0, 1) := by decide +kernel
theorem dX7_isSide_2 : decode cX7_isSide 2 = .ok (.iconst 3, 1) := by decide +kernel
theorem dX7_isSide_3 : decode cX7_isSide 3 = .ok (.invokestatic 47, 3) := by decide +kernel
theorem dX7_isSide_6 : decode cX7_isSide 6 = .ok (.ifCond .ne 7, 3) := by decide +kernel
theorem dX7_isSide_9 : decode cX7_isSide 9 = .ok (.iconst 1, 1) := by decide +kernel
theorem dX7_isSide_10 : decode cX7_isSide 10 = .ok (.goto 4, 3) := by decide +kernel
theorem dX7_isSide_13 : decode cX7_isSide 13 = .ok (.iconst 0, 1) := by decide +kernel
theorem dX7_isSide_14 : decode cX7_isSide 14 = .ok (.ireturn, 1) := by decide +kernel
theorem dX7_isOutside_0 : decode cX7_isOutside 0 = .ok (.iload_n 0, 1) := by decide +kernel
theorem dX7_isOutside_1 : decode cX7_isOutside 1 = .ok (.iload_n 1, 1) := by decide +kernel
theorem dX7_isOutside_2 : decode cX7_isOutside 2 = .ok (.if_icmp .lt 8, 3) := by decide +kernel
theorem dX7_isOutside_5 : decode cX7_isOutside 5 = .ok (.iload_n 0, 1) := by decide +kernel
theorem dX7_isOutside_6 : decode cX7_isOutside 6 = .ok (.iload_n 2, 1) := by decide +kernel
theorem dX7_isOutside_7 : decode cX7_isOutside 7 = .ok (.if_icmp .le 7, 3) := by decide +kernel
theorem dX7_isOutside_10 : decode cX7_isOutside 10 = .ok (.iconst 1, 1) := by decide +kernel
theorem dX7_isOutside_11 : decode cX7_isOutside 11 = .ok (.goto 4, 3) := by decide +kernel
theorem dX7_isOutside_14 : decode cX7_isOutside 14 = .ok (.iconst 0, 1) := by decide +kernel
theorem dX7_isOutside_15 : decode cX7_isOutside 15 = .ok (.ireturn, 1) := by decide +kernel
theorem dX7_belongsAt_0 : decode cX7_belongsAt 0 = .ok (.iload_n 0, 1) := by decide +kernel
theorem dX7_belongsAt_1 : decode cX7_belongsAt 1 = .ok (.bipush 25, 2) := by decide +kernel
theorem dX7_belongsAt_3 : decode cX7_belongsAt 3 = .ok (.if_icmp .lt 5, 3) := by decide +kernel
theorem dX7_belongsAt_6 : decode cX7_belongsAt 6 = .ok (.iconst 0, 1) := by decide +kernel
theorem dX7_belongsAt_7 : decode cX7_belongsAt 7 = .ok (.ireturn, 1) := by decide +kernel
theorem dX7_belongsAt_8 : decode cX7_belongsAt 8 = .ok (.iload_n 0, 1) := by decide +kernel
theorem dX7_belongsAt_9 : decode cX7_belongsAt 9 = .ok (.bipush 23, 2) := by decide +kernel
theorem dX7_belongsAt_11 : decode cX7_belongsAt 11 = .ok (.if_icmp .ne 15, 3) := by decide +kernel
theorem dX7_belongsAt_14 : decode cX7_belongsAt 14 = .ok (.iload_n 1, 1) := by decide +kernel
theorem dX7_belongsAt_15 : decode cX7_belongsAt 15 = .ok (.bipush 59, 2) := by decide +kernel
theorem dX7_belongsAt_17 : decode cX7_belongsAt 17 = .ok (.if_icmp .ne 7, 3) := by decide +kernel
theorem dX7_belongsAt_20 : decode cX7_belongsAt 20 = .ok (.iconst 1, 1) := by decide +kernel
theorem dX7_belongsAt_21 : decode cX7_belongsAt 21 = .ok (.goto 4, 3) := by decide +kernel
theorem dX7_belongsAt_24 : decode cX7_belongsAt 24 = .ok (.iconst 0, 1) := by decide +kernel
theorem dX7_belongsAt_25 : decode cX7_belongsAt 25 = .ok (.ireturn, 1) := by decide +kernel
theorem dX7_belongsAt_26 : decode cX7_belongsAt 26 = .ok (.iload_n 0, 1) := by decide +kernel
theorem dX7_belongsAt_27 : decode cX7_belongsAt 27 = .ok (.bipush 23, 2) := by decide +kernel
theorem dX7_belongsAt_29 : decode cX7_belongsAt 29 = .ok (.if_icmp .ge 23, 3) := by decide +kernel
theorem dX7_belongsAt_32 : decode cX7_belongsAt 32 = .ok (.iload_n 0, 1) := by decide +kernel
theorem dX7_belongsAt_33 : decode cX7_belongsAt 33 = .ok (.bipush 6, 2) := by decide +kernel
theorem dX7_belongsAt_35 : decode cX7_belongsAt 35 = .ok (.irem, 1) := by decide +kernel
theorem dX7_belongsAt_36 : decode cX7_belongsAt 36 = .ok (.iconst 5, 1) := by decide +kernel
theorem dX7_belongsAt_37 : decode cX7_belongsAt 37 = .ok (.if_icmp .ne 15, 3) := by decide +kernel
theorem dX7_belongsAt_40 : decode cX7_belongsAt 40 = .ok (.iload_n 1, 1) := by decide +kernel
theorem dX7_belongsAt_41 : decode cX7_belongsAt 41 = .ok (.bipush 47, 2) := by decide +kernel
theorem dX7_belongsAt_43 : decode cX7_belongsAt 43 = .ok (.if_icmp .ne 7, 3) := by decide +kernel
theorem dX7_belongsAt_46 : decode cX7_belongsAt 46 = .ok (.iconst 1, 1) := by decide +kernel
theorem dX7_belongsAt_47 : decode cX7_belongsAt 47 = .ok (.goto 4, 3) := by decide +kernel
theorem dX7_belongsAt_50 : decode cX7_belongsAt 50 = .ok (.iconst 0, 1) := by decide +kernel
theorem dX7_belongsAt_51 : decode cX7_belongsAt 51 = .ok (.ireturn, 1) := by decide +kernel
theorem dX7_belongsAt_52 : decode cX7_belongsAt 52 = .ok (.iload_n 1, 1) := by decide +kernel
theorem dX7_belongsAt_53 : decode cX7_belongsAt 53 = .ok (.bipush 48, 2) := by decide +kernel
theorem dX7_belongsAt_55 : decode cX7_belongsAt 55 = .ok (.if_icmp .lt 13, 3) := by decide +kernel
theorem dX7_belongsAt_58 : decode cX7_belongsAt 58 = .ok (.iload_n 1, 1) := by decide +kernel
theorem dX7_belongsAt_59 : decode cX7_belongsAt 59 = .ok (.bipush 57, 2) := by decide +kernel
theorem dX7_belongsAt_61 : decode cX7_belongsAt 61 = .ok (.if_icmp .gt 7, 3) := by decide +kernel
theorem dX7_belongsAt_64 : decode cX7_belongsAt 64 = .ok (.iconst 1, 1) := by decide +kernel
theorem dX7_belongsAt_65 : decode cX7_belongsAt 65 = .ok (.goto 4, 3) := by decide +kernel
theorem dX7_belongsAt_68 : decode cX7_belongsAt 68 = .ok (.iconst 0, 1) := by decide +kernel
theorem dX7_belongsAt_69 : decode cX7_belongsAt 69 = .ok (.ireturn, 1) := by decide +kernel
theorem dX7_letterOf_0 : decode cX7_letterOf 0 = .ok (.iload_n 0, 1) := by decide +kernel
theorem dX7_letterOf_1 : decode cX7_letterOf 1 = .ok (.iload_n 0, 1) := by decide +kernel
theorem dX7_letterOf_2 : decode cX7_letterOf 2 = .ok (.iconst 5, 1) := by decide +kernel
theorem dX7_letterOf_3 : decode cX7_letterOf 3 = .ok (.idiv, 1) := by decide +kernel
theorem dX7_letterOf_4 : decode cX7_letterOf 4 = .ok (.iadd, 1) := by decide +kernel
theorem dX7_letterOf_5 : decode cX7_letterOf 5 = .ok (.ireturn, 1) := by decide +kernel
theorem dX7_beside_0 : decode cX7_beside 0 = .ok (.iload_n 0, 1) := by decide +kernel
theorem dX7_beside_1 : decode cX7_beside 1 = .ok (.invokestatic 87, 3) := by decide +kernel
theorem dX7_beside_4 : decode cX7_beside 4 = .ok (.ifCond .ne 5, 3) := by decide +kernel
theorem dX7_beside_7 : decode cX7_beside 7 = .ok (.iconst (-1), 1) := by decide +kernel
theorem dX7_beside_8 : decode cX7_beside 8 = .ok (.ireturn, 1) := by decide +kernel
theorem dX7_beside_9 : decode cX7_beside 9 = .ok (.iload_n 0, 1) := by decide +kernel
theorem dX7_beside_10 : decode cX7_beside 10 = .ok (.iconst 5, 1) := by decide +kernel
theorem dX7_beside_11 : decode cX7_beside 11 = .ok (.irem, 1) := by decide +kernel
theorem dX7_beside_12 : decode cX7_beside 12 = .ok (.istore_n 2, 1) := by decide +kernel
theorem dX7_beside_13 : decode cX7_beside 13 = .ok (.iload_n 1, 1) := by decide +kernel
theorem dX7_beside_14 : decode cX7_beside 14 = .ok (.tableswitch 82 0 3 #[30, 43, 56, 70], 30) := by decide +kernel
theorem dX7_beside_44 : decode cX7_beside 44 = .ok (.iload_n 0, 1) := by decide +kernel
theorem dX7_beside_45 : decode cX7_beside 45 = .ok (.iconst 5, 1) := by decide +kernel
theorem dX7_beside_46 : decode cX7_beside 46 = .ok (.if_icmp .lt 9, 3) := by decide +kernel
theorem dX7_beside_49 : decode cX7_beside 49 = .ok (.iload_n 0, 1) := by decide +kernel
theorem dX7_beside_50 : decode cX7_beside 50 = .ok (.iconst 5, 1) := by decide +kernel
theorem dX7_beside_51 : decode cX7_beside 51 = .ok (.isub, 1) := by decide +kernel
theorem dX7_beside_52 : decode cX7_beside 52 = .ok (.goto 4, 3) := by decide +kernel
theorem dX7_beside_55 : decode cX7_beside 55 = .ok (.iconst (-1), 1) := by decide +kernel
theorem dX7_beside_56 : decode cX7_beside 56 = .ok (.ireturn, 1) := by decide +kernel
theorem dX7_beside_57 : decode cX7_beside 57 = .ok (.iload_n 2, 1) := by decide +kernel
theorem dX7_beside_58 : decode cX7_beside 58 = .ok (.iconst 4, 1) := by decide +kernel
theorem dX7_beside_59 : decode cX7_beside 59 = .ok (.if_icmp .ge 9, 3) := by decide +kernel
theorem dX7_beside_62 : decode cX7_beside 62 = .ok (.iload_n 0, 1) := by decide +kernel
theorem dX7_beside_63 : decode cX7_beside 63 = .ok (.iconst 1, 1) := by decide +kernel
theorem dX7_beside_64 : decode cX7_beside 64 = .ok (.iadd, 1) := by decide +kernel
theorem dX7_beside_65 : decode cX7_beside 65 = .ok (.goto 4, 3) := by decide +kernel
theorem dX7_beside_68 : decode cX7_beside 68 = .ok (.iconst (-1), 1) := by decide +kernel
theorem dX7_beside_69 : decode cX7_beside 69 = .ok (.ireturn, 1) := by decide +kernel
theorem dX7_beside_70 : decode cX7_beside 70 = .ok (.iload_n 0, 1) := by decide +kernel
theorem dX7_beside_71 : decode cX7_beside 71 = .ok (.bipush 15, 2) := by decide +kernel
theorem dX7_beside_73 : decode cX7_beside 73 = .ok (.if_icmp .ge 9, 3) := by decide +kernel
theorem dX7_beside_76 : decode cX7_beside 76 = .ok (.iload_n 0, 1) := by decide +kernel
theorem dX7_beside_77 : decode cX7_beside 77 = .ok (.iconst 5, 1) := by decide +kernel
theorem dX7_beside_78 : decode cX7_beside 78 = .ok (.iadd, 1) := by decide +kernel
theorem dX7_beside_79 : decode cX7_beside 79 = .ok (.goto 4, 3) := by decide +kernel
theorem dX7_beside_82 : decode cX7_beside 82 = .ok (.iconst (-1), 1) := by decide +kernel
theorem dX7_beside_83 : decode cX7_beside 83 = .ok (.ireturn, 1) := by decide +kernel
theorem dX7_beside_84 : decode cX7_beside 84 = .ok (.iload_n 2, 1) := by decide +kernel
theorem dX7_beside_85 : decode cX7_beside 85 = .ok (.ifCond .le 9, 3) := by decide +kernel
theorem dX7_beside_88 : decode cX7_beside 88 = .ok (.iload_n 0, 1) := by decide +kernel
theorem dX7_beside_89 : decode cX7_beside 89 = .ok (.iconst 1, 1) := by decide +kernel
theorem dX7_beside_90 : decode cX7_beside 90 = .ok (.isub, 1) := by decide +kernel
theorem dX7_beside_91 : decode cX7_beside 91 = .ok (.goto 4, 3) := by decide +kernel
theorem dX7_beside_94 : decode cX7_beside 94 = .ok (.iconst (-1), 1) := by decide +kernel
theorem dX7_beside_95 : decode cX7_beside 95 = .ok (.ireturn, 1) := by decide +kernel
theorem dX7_beside_96 : decode cX7_beside 96 = .ok (.iconst (-1), 1) := by decide +kernel
theorem dX7_beside_97 : decode cX7_beside 97 = .ok (.ireturn, 1) := by decide +kernel
theorem dX7_areBeside_0 : decode cX7_areBeside 0 = .ok (.iload_n 1, 1) := by decide +kernel
theorem dX7_areBeside_1 : decode cX7_areBeside 1 = .ok (.iconst (-1), 1) := by decide +kernel
theorem dX7_areBeside_2 : decode cX7_areBeside 2 = .ok (.if_icmp .ne 5, 3) := by decide +kernel
theorem dX7_areBeside_5 : decode cX7_areBeside 5 = .ok (.iconst 0, 1) := by decide +kernel
theorem dX7_areBeside_6 : decode cX7_areBeside 6 = .ok (.ireturn, 1) := by decide +kernel
theorem dX7_areBeside_7 : decode cX7_areBeside 7 = .ok (.iconst 0, 1) := by decide +kernel
theorem dX7_areBeside_8 : decode cX7_areBeside 8 = .ok (.istore_n 2, 1) := by decide +kernel
theorem dX7_areBeside_9 : decode cX7_areBeside 9 = .ok (.iload_n 2, 1) := by decide +kernel
theorem dX7_areBeside_10 : decode cX7_areBeside 10 = .ok (.iconst 4, 1) := by decide +kernel
theorem dX7_areBeside_11 : decode cX7_areBeside 11 = .ok (.if_icmp .ge 20, 3) := by decide +kernel
theorem dX7_areBeside_14 : decode cX7_areBeside 14 = .ok (.iload_n 0, 1) := by decide +kernel
theorem dX7_areBeside_15 : decode cX7_areBeside 15 = .ok (.iload_n 2, 1) := by decide +kernel
theorem dX7_areBeside_16 : decode cX7_areBeside 16 = .ok (.invokestatic 279, 3) := by decide +kernel
theorem dX7_areBeside_19 : decode cX7_areBeside 19 = .ok (.iload_n 1, 1) := by decide +kernel
theorem dX7_areBeside_20 : decode cX7_areBeside 20 = .ok (.if_icmp .ne 5, 3) := by decide +kernel
theorem dX7_areBeside_23 : decode cX7_areBeside 23 = .ok (.iconst 1, 1) := by decide +kernel
theorem dX7_areBeside_24 : decode cX7_areBeside 24 = .ok (.ireturn, 1) := by decide +kernel
theorem dX7_areBeside_25 : decode cX7_areBeside 25 = .ok (.iinc 2 1, 3) := by decide +kernel
theorem dX7_areBeside_28 : decode cX7_areBeside 28 = .ok (.goto (-19), 3) := by decide +kernel
theorem dX7_areBeside_31 : decode cX7_areBeside 31 = .ok (.iconst 0, 1) := by decide +kernel
theorem dX7_areBeside_32 : decode cX7_areBeside 32 = .ok (.ireturn, 1) := by decide +kernel
theorem dX7_axisOf_0 : decode cX7_axisOf 0 = .ok (.iload_n 0, 1) := by decide +kernel
theorem dX7_axisOf_1 : decode cX7_axisOf 1 = .ok (.iconst 2, 1) := by decide +kernel
theorem dX7_axisOf_2 : decode cX7_axisOf 2 = .ok (.irem, 1) := by decide +kernel
theorem dX7_axisOf_3 : decode cX7_axisOf 3 = .ok (.ireturn, 1) := by decide +kernel
theorem dX7_rootOf_0 : decode cX7_rootOf 0 = .ok (.iconst 0, 1) := by decide +kernel
theorem dX7_rootOf_1 : decode cX7_rootOf 1 = .ok (.istore_n 1, 1) := by decide +kernel
theorem dX7_rootOf_2 : decode cX7_rootOf 2 = .ok (.iconst 1, 1) := by decide +kernel
theorem dX7_rootOf_3 : decode cX7_rootOf 3 = .ok (.istore_n 2, 1) := by decide +kernel
theorem dX7_rootOf_4 : decode cX7_rootOf 4 = .ok (.iload_n 2, 1) := by decide +kernel
theorem dX7_rootOf_5 : decode cX7_rootOf 5 = .ok (.sipush 1000, 3) := by decide +kernel
theorem dX7_rootOf_8 : decode cX7_rootOf 8 = .ok (.if_icmp .gt 18, 3) := by decide +kernel
theorem dX7_rootOf_11 : decode cX7_rootOf 11 = .ok (.iload_n 2, 1) := by decide +kernel
theorem dX7_rootOf_12 : decode cX7_rootOf 12 = .ok (.iload_n 2, 1) := by decide +kernel
theorem dX7_rootOf_13 : decode cX7_rootOf 13 = .ok (.imul, 1) := by decide +kernel
theorem dX7_rootOf_14 : decode cX7_rootOf 14 = .ok (.iload_n 0, 1) := by decide +kernel
theorem dX7_rootOf_15 : decode cX7_rootOf 15 = .ok (.if_icmp .gt 11, 3) := by decide +kernel
theorem dX7_rootOf_18 : decode cX7_rootOf 18 = .ok (.iload_n 2, 1) := by decide +kernel
theorem dX7_rootOf_19 : decode cX7_rootOf 19 = .ok (.istore_n 1, 1) := by decide +kernel
theorem dX7_rootOf_20 : decode cX7_rootOf 20 = .ok (.iinc 2 1, 3) := by decide +kernel
theorem dX7_rootOf_23 : decode cX7_rootOf 23 = .ok (.goto (-19), 3) := by decide +kernel
theorem dX7_rootOf_26 : decode cX7_rootOf 26 = .ok (.iload_n 1, 1) := by decide +kernel
theorem dX7_rootOf_27 : decode cX7_rootOf 27 = .ok (.ireturn, 1) := by decide +kernel
theorem dX7_nextSeed_0 : decode cX7_nextSeed 0 = .ok (.ldc2_w 282, 3) := by decide +kernel
theorem dX7_nextSeed_3 : decode cX7_nextSeed 3 = .ok (.lload_n 0, 1) := by decide +kernel
theorem dX7_nextSeed_4 : decode cX7_nextSeed 4 = .ok (.lmul, 1) := by decide +kernel
theorem dX7_nextSeed_5 : decode cX7_nextSeed 5 = .ok (.ldc2_w 284, 3) := by decide +kernel
theorem dX7_nextSeed_8 : decode cX7_nextSeed 8 = .ok (.ladd, 1) := by decide +kernel
theorem dX7_nextSeed_9 : decode cX7_nextSeed 9 = .ok (.ldc2_w 286, 3) := by decide +kernel
theorem dX7_nextSeed_12 : decode cX7_nextSeed 12 = .ok (.lrem, 1) := by decide +kernel
theorem dX7_nextSeed_13 : decode cX7_nextSeed 13 = .ok (.lreturn, 1) := by decide +kernel
theorem dX7_drawOf_0 : decode cX7_drawOf 0 = .ok (.iload_n 2, 1) := by decide +kernel
theorem dX7_drawOf_1 : decode cX7_drawOf 1 = .ok (.ifCond .le 15, 3) := by decide +kernel
theorem dX7_drawOf_4 : decode cX7_drawOf 4 = .ok (.lload_n 0, 1) := by decide +kernel
theorem dX7_drawOf_5 : decode cX7_drawOf 5 = .ok (.ldc2_w 288, 3) := by decide +kernel
theorem dX7_drawOf_8 : decode cX7_drawOf 8 = .ok (.ldiv, 1) := by decide +kernel
theorem dX7_drawOf_9 : decode cX7_drawOf 9 = .ok (.iload_n 2, 1) := by decide +kernel
theorem dX7_drawOf_10 : decode cX7_drawOf 10 = .ok (.i2l, 1) := by decide +kernel
theorem dX7_drawOf_11 : decode cX7_drawOf 11 = .ok (.lrem, 1) := by decide +kernel
theorem dX7_drawOf_12 : decode cX7_drawOf 12 = .ok (.l2i, 1) := by decide +kernel
theorem dX7_drawOf_13 : decode cX7_drawOf 13 = .ok (.goto 4, 3) := by decide +kernel
theorem dX7_drawOf_16 : decode cX7_drawOf 16 = .ok (.iconst 0, 1) := by decide +kernel
theorem dX7_drawOf_17 : decode cX7_drawOf 17 = .ok (.ireturn, 1) := by decide +kernel
theorem dX7_explore_0 : decode cX7_explore 0 = .ok (.aload_n 0, 1) := by decide +kernel
theorem dX7_explore_1 : decode cX7_explore 1 = .ok (.getfield 113, 3) := by decide +kernel
theorem dX7_explore_4 : decode cX7_explore 4 = .ok (.iload_n 1, 1) := by decide +kernel
theorem dX7_explore_5 : decode cX7_explore 5 = .ok (.aaload, 1) := by decide +kernel
theorem dX7_explore_6 : decode cX7_explore 6 = .ok (.astore 6, 2) := by decide +kernel
theorem dX7_explore_8 : decode cX7_explore 8 = .ok (.aload_n 2, 1) := by decide +kernel
theorem dX7_explore_9 : decode cX7_explore 9 = .ok (.aload 6, 2) := by decide +kernel
theorem dX7_explore_11 : decode cX7_explore 11 = .ok (.iload 4, 2) := by decide +kernel
theorem dX7_explore_13 : decode cX7_explore 13 = .ok (.iload 5, 2) := by decide +kernel
theorem dX7_explore_15 : decode cX7_explore 15 = .ok (.invokevirtual 290, 3) := by decide +kernel
theorem dX7_explore_18 : decode cX7_explore 18 = .ok (.iload 4, 2) := by decide +kernel
theorem dX7_explore_20 : decode cX7_explore 20 = .ok (.iload_n 3, 1) := by decide +kernel
theorem dX7_explore_21 : decode cX7_explore 21 = .ok (.if_icmp .ge 10, 3) := by decide +kernel
theorem dX7_explore_24 : decode cX7_explore 24 = .ok (.iload 4, 2) := by decide +kernel
theorem dX7_explore_26 : decode cX7_explore 26 = .ok (.bipush 6, 2) := by decide +kernel
theorem dX7_explore_28 : decode cX7_explore 28 = .ok (.if_icmp .lt 4, 3) := by decide +kernel
theorem dX7_explore_31 : decode cX7_explore 31 = .ok (.return_, 1) := by decide +kernel
theorem dX7_explore_32 : decode cX7_explore 32 = .ok (.aload 6, 2) := by decide +kernel
theorem dX7_explore_34 : decode cX7_explore 34 = .ok (.getfield 142, 3) := by decide +kernel
theorem dX7_explore_37 : decode cX7_explore 37 = .ok (.istore 7, 2) := by decide +kernel
theorem dX7_explore_39 : decode cX7_explore 39 = .ok (.aload 6, 2) := by decide +kernel
theorem dX7_explore_41 : decode cX7_explore 41 = .ok (.getfield 139, 3) := by decide +kernel
theorem dX7_explore_44 : decode cX7_explore 44 = .ok (.istore 8, 2) := by decide +kernel
theorem dX7_explore_46 : decode cX7_explore 46 = .ok (.aload 6, 2) := by decide +kernel
theorem dX7_explore_48 : decode cX7_explore 48 = .ok (.getfield 154, 3) := by decide +kernel
theorem dX7_explore_51 : decode cX7_explore 51 = .ok (.istore 9, 2) := by decide +kernel
theorem dX7_explore_53 : decode cX7_explore 53 = .ok (.iconst 0, 1) := by decide +kernel
theorem dX7_explore_54 : decode cX7_explore 54 = .ok (.istore 10, 2) := by decide +kernel
theorem dX7_explore_56 : decode cX7_explore 56 = .ok (.iload 10, 2) := by decide +kernel
theorem dX7_explore_58 : decode cX7_explore 58 = .ok (.iconst 4, 1) := by decide +kernel
theorem dX7_explore_59 : decode cX7_explore 59 = .ok (.if_icmp .ge 110, 3) := by decide +kernel
theorem dX7_explore_62 : decode cX7_explore 62 = .ok (.aload_n 0, 1) := by decide +kernel
theorem dX7_explore_63 : decode cX7_explore 63 = .ok (.iload_n 1, 1) := by decide +kernel
theorem dX7_explore_64 : decode cX7_explore 64 = .ok (.iload 10, 2) := by decide +kernel
theorem dX7_explore_66 : decode cX7_explore 66 = .ok (.invokevirtual 164, 3) := by decide +kernel
theorem dX7_explore_69 : decode cX7_explore 69 = .ok (.ifCond .ne 6, 3) := by decide +kernel
theorem dX7_explore_72 : decode cX7_explore 72 = .ok (.goto 91, 3) := by decide +kernel
theorem dX7_explore_75 : decode cX7_explore 75 = .ok (.iload 7, 2) := by decide +kernel
theorem dX7_explore_77 : decode cX7_explore 77 = .ok (.iload 10, 2) := by decide +kernel
theorem dX7_explore_79 : decode cX7_explore 79 = .ok (.invokestatic 279, 3) := by decide +kernel
theorem dX7_explore_82 : decode cX7_explore 82 = .ok (.istore 11, 2) := by decide +kernel
theorem dX7_explore_84 : decode cX7_explore 84 = .ok (.iload 11, 2) := by decide +kernel
theorem dX7_explore_86 : decode cX7_explore 86 = .ok (.iconst (-1), 1) := by decide +kernel
theorem dX7_explore_87 : decode cX7_explore 87 = .ok (.if_icmp .ne 6, 3) := by decide +kernel
theorem dX7_explore_90 : decode cX7_explore 90 = .ok (.goto 73, 3) := by decide +kernel
theorem dX7_explore_93 : decode cX7_explore 93 = .ok (.aload_n 0, 1) := by decide +kernel
theorem dX7_explore_94 : decode cX7_explore 94 = .ok (.getfield 66, 3) := by decide +kernel
theorem dX7_explore_97 : decode cX7_explore 97 = .ok (.iload 11, 2) := by decide +kernel
theorem dX7_explore_99 : decode cX7_explore 99 = .ok (.iaload, 1) := by decide +kernel
theorem dX7_explore_100 : decode cX7_explore 100 = .ok (.istore 12, 2) := by decide +kernel
theorem dX7_explore_102 : decode cX7_explore 102 = .ok (.aload_n 0, 1) := by decide +kernel
theorem dX7_explore_103 : decode cX7_explore 103 = .ok (.iload_n 1, 1) := by decide +kernel
theorem dX7_explore_104 : decode cX7_explore 104 = .ok (.iload 10, 2) := by decide +kernel
theorem dX7_explore_106 : decode cX7_explore 106 = .ok (.invokevirtual 168, 3) := by decide +kernel
theorem dX7_explore_109 : decode cX7_explore 109 = .ok (.pop, 1) := by decide +kernel
theorem dX7_explore_110 : decode cX7_explore 110 = .ok (.aload_n 0, 1) := by decide +kernel
theorem dX7_explore_111 : decode cX7_explore 111 = .ok (.iload_n 1, 1) := by decide +kernel
theorem dX7_explore_112 : decode cX7_explore 112 = .ok (.aload_n 2, 1) := by decide +kernel
theorem dX7_explore_113 : decode cX7_explore 113 = .ok (.iload_n 3, 1) := by decide +kernel
theorem dX7_explore_114 : decode cX7_explore 114 = .ok (.iload 4, 2) := by decide +kernel
theorem dX7_explore_116 : decode cX7_explore 116 = .ok (.iconst 1, 1) := by decide +kernel
theorem dX7_explore_117 : decode cX7_explore 117 = .ok (.iadd, 1) := by decide +kernel
theorem dX7_explore_118 : decode cX7_explore 118 = .ok (.iload 4, 2) := by decide +kernel
theorem dX7_explore_120 : decode cX7_explore 120 = .ok (.ifCond .ne 8, 3) := by decide +kernel
theorem dX7_explore_123 : decode cX7_explore 123 = .ok (.iload 10, 2) := by decide +kernel
theorem dX7_explore_125 : decode cX7_explore 125 = .ok (.goto 5, 3) := by decide +kernel
theorem dX7_explore_128 : decode cX7_explore 128 = .ok (.iload 5, 2) := by decide +kernel
theorem dX7_explore_130 : decode cX7_explore 130 = .ok (.invokestatic 193, 3) := by decide +kernel
theorem dX7_explore_133 : decode cX7_explore 133 = .ok (.aload_n 0, 1) := by decide +kernel
theorem dX7_explore_134 : decode cX7_explore 134 = .ok (.getfield 66, 3) := by decide +kernel
theorem dX7_explore_137 : decode cX7_explore 137 = .ok (.iload 11, 2) := by decide +kernel
theorem dX7_explore_139 : decode cX7_explore 139 = .ok (.iload 12, 2) := by decide +kernel
theorem dX7_explore_141 : decode cX7_explore 141 = .ok (.iastore, 1) := by decide +kernel
theorem dX7_explore_142 : decode cX7_explore 142 = .ok (.aload 6, 2) := by decide +kernel
theorem dX7_explore_144 : decode cX7_explore 144 = .ok (.iload 7, 2) := by decide +kernel
theorem dX7_explore_146 : decode cX7_explore 146 = .ok (.putfield 142, 3) := by decide +kernel
theorem dX7_explore_149 : decode cX7_explore 149 = .ok (.aload 6, 2) := by decide +kernel
theorem dX7_explore_151 : decode cX7_explore 151 = .ok (.iload 8, 2) := by decide +kernel
theorem dX7_explore_153 : decode cX7_explore 153 = .ok (.putfield 139, 3) := by decide +kernel
theorem dX7_explore_156 : decode cX7_explore 156 = .ok (.aload 6, 2) := by decide +kernel
theorem dX7_explore_158 : decode cX7_explore 158 = .ok (.iload 9, 2) := by decide +kernel
theorem dX7_explore_160 : decode cX7_explore 160 = .ok (.putfield 154, 3) := by decide +kernel
theorem dX7_explore_163 : decode cX7_explore 163 = .ok (.iinc 10 1, 3) := by decide +kernel
theorem dX7_explore_166 : decode cX7_explore 166 = .ok (.goto (-110), 3) := by decide +kernel
theorem dX7_explore_169 : decode cX7_explore 169 = .ok (.return_, 1) := by decide +kernel
