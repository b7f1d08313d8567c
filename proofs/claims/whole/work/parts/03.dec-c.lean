theorem dX8_init_0 : decode cX8_init 0 = .ok (.aload_n 0, 1) := by decide +kernel
theorem dX8_init_1 : decode cX8_init 1 = .ok (.invokespecial 1, 3) := by decide +kernel
theorem dX8_init_4 : decode cX8_init 4 = .ok (.aload_n 0, 1) := by decide +kernel
theorem dX8_init_5 : decode cX8_init 5 = .ok (.bipush 20, 2) := by decide +kernel
theorem dX8_init_7 : decode cX8_init 7 = .ok (.newarray .int, 2) := by decide +kernel
theorem dX8_init_9 : decode cX8_init 9 = .ok (.putfield 7, 3) := by decide +kernel
theorem dX8_init_12 : decode cX8_init 12 = .ok (.aload_n 0, 1) := by decide +kernel
theorem dX8_init_13 : decode cX8_init 13 = .ok (.bipush 20, 2) := by decide +kernel
theorem dX8_init_15 : decode cX8_init 15 = .ok (.putfield 13, 3) := by decide +kernel
theorem dX8_init_18 : decode cX8_init 18 = .ok (.aload_n 0, 1) := by decide +kernel
theorem dX8_init_19 : decode cX8_init 19 = .ok (.iconst 5, 1) := by decide +kernel
theorem dX8_init_20 : decode cX8_init 20 = .ok (.newarray .int, 2) := by decide +kernel
theorem dX8_init_22 : decode cX8_init 22 = .ok (.putfield 17, 3) := by decide +kernel
theorem dX8_init_25 : decode cX8_init 25 = .ok (.aload_n 0, 1) := by decide +kernel
theorem dX8_init_26 : decode cX8_init 26 = .ok (.iconst 5, 1) := by decide +kernel
theorem dX8_init_27 : decode cX8_init 27 = .ok (.newarray .int, 2) := by decide +kernel
theorem dX8_init_29 : decode cX8_init 29 = .ok (.putfield 20, 3) := by decide +kernel
theorem dX8_init_32 : decode cX8_init 32 = .ok (.aload_n 0, 1) := by decide +kernel
theorem dX8_init_33 : decode cX8_init 33 = .ok (.iconst 5, 1) := by decide +kernel
theorem dX8_init_34 : decode cX8_init 34 = .ok (.newarray .int, 2) := by decide +kernel
theorem dX8_init_36 : decode cX8_init 36 = .ok (.putfield 23, 3) := by decide +kernel
theorem dX8_init_39 : decode cX8_init 39 = .ok (.aload_n 0, 1) := by decide +kernel
theorem dX8_init_40 : decode cX8_init 40 = .ok (.iconst 5, 1) := by decide +kernel
theorem dX8_init_41 : decode cX8_init 41 = .ok (.newarray .int, 2) := by decide +kernel
theorem dX8_init_43 : decode cX8_init 43 = .ok (.putfield 26, 3) := by decide +kernel
theorem dX8_init_46 : decode cX8_init 46 = .ok (.aload_n 0, 1) := by decide +kernel
theorem dX8_init_47 : decode cX8_init 47 = .ok (.iconst 5, 1) := by decide +kernel
theorem dX8_init_48 : decode cX8_init 48 = .ok (.newarray .int, 2) := by decide +kernel
theorem dX8_init_50 : decode cX8_init 50 = .ok (.putfield 29, 3) := by decide +kernel
theorem dX8_init_53 : decode cX8_init 53 = .ok (.aload_n 0, 1) := by decide +kernel
theorem dX8_init_54 : decode cX8_init 54 = .ok (.bipush 26, 2) := by decide +kernel
theorem dX8_init_56 : decode cX8_init 56 = .ok (.newarray .byte, 2) := by decide +kernel
theorem dX8_init_58 : decode cX8_init 58 = .ok (.putfield 32, 3) := by decide +kernel
theorem dX8_init_61 : decode cX8_init 61 = .ok (.aload_n 0, 1) := by decide +kernel
theorem dX8_init_62 : decode cX8_init 62 = .ok (.bipush 20, 2) := by decide +kernel
theorem dX8_init_64 : decode cX8_init 64 = .ok (.newarray .int, 2) := by decide +kernel
theorem dX8_init_66 : decode cX8_init 66 = .ok (.putfield 36, 3) := by decide +kernel
theorem dX8_init_69 : decode cX8_init 69 = .ok (.aload_n 0, 1) := by decide +kernel
theorem dX8_init_70 : decode cX8_init 70 = .ok (.iconst 4, 1) := by decide +kernel
theorem dX8_init_71 : decode cX8_init 71 = .ok (.newarray .int, 2) := by decide +kernel
theorem dX8_init_73 : decode cX8_init 73 = .ok (.putfield 39, 3) := by decide +kernel
theorem dX8_init_76 : decode cX8_init 76 = .ok (.aload_n 0, 1) := by decide +kernel
theorem dX8_init_77 : decode cX8_init 77 = .ok (.iconst 4, 1) := by decide +kernel
theorem dX8_init_78 : decode cX8_init 78 = .ok (.newarray .int, 2) := by decide +kernel
theorem dX8_init_80 : decode cX8_init 80 = .ok (.putfield 42, 3) := by decide +kernel
theorem dX8_init_83 : decode cX8_init 83 = .ok (.aload_n 0, 1) := by decide +kernel
theorem dX8_init_84 : decode cX8_init 84 = .ok (.iconst 4, 1) := by decide +kernel
theorem dX8_init_85 : decode cX8_init 85 = .ok (.newarray .int, 2) := by decide +kernel
theorem dX8_init_87 : decode cX8_init 87 = .ok (.putfield 45, 3) := by decide +kernel
theorem dX8_init_90 : decode cX8_init 90 = .ok (.aload_n 0, 1) := by decide +kernel
theorem dX8_init_91 : decode cX8_init 91 = .ok (.bipush 20, 2) := by decide +kernel
theorem dX8_init_93 : decode cX8_init 93 = .ok (.newarray .int, 2) := by decide +kernel
theorem dX8_init_95 : decode cX8_init 95 = .ok (.putfield 48, 3) := by decide +kernel
theorem dX8_init_98 : decode cX8_init 98 = .ok (.aload_n 0, 1) := by decide +kernel
theorem dX8_init_99 : decode cX8_init 99 = .ok (.bipush 20, 2) := by decide +kernel
theorem dX8_init_101 : decode cX8_init 101 = .ok (.newarray .int, 2) := by decide +kernel
theorem dX8_init_103 : decode cX8_init 103 = .ok (.putfield 51, 3) := by decide +kernel
theorem dX8_init_106 : decode cX8_init 106 = .ok (.aload_n 0, 1) := by decide +kernel
theorem dX8_init_107 : decode cX8_init 107 = .ok (.iconst 4, 1) := by decide +kernel
theorem dX8_init_108 : decode cX8_init 108 = .ok (.newarray .int, 2) := by decide +kernel
theorem dX8_init_110 : decode cX8_init 110 = .ok (.putfield 54, 3) := by decide +kernel
theorem dX8_init_113 : decode cX8_init 113 = .ok (.aload_n 0, 1) := by decide +kernel
theorem dX8_init_114 : decode cX8_init 114 = .ok (.iconst 4, 1) := by decide +kernel
theorem dX8_init_115 : decode cX8_init 115 = .ok (.newarray .int, 2) := by decide +kernel
theorem dX8_init_117 : decode cX8_init 117 = .ok (.putfield 57, 3) := by decide +kernel
theorem dX8_init_120 : decode cX8_init 120 = .ok (.aload_n 0, 1) := by decide +kernel
theorem dX8_init_121 : decode cX8_init 121 = .ok (.iconst 4, 1) := by decide +kernel
theorem dX8_init_122 : decode cX8_init 122 = .ok (.newarray .int, 2) := by decide +kernel
theorem dX8_init_124 : decode cX8_init 124 = .ok (.putfield 60, 3) := by decide +kernel
theorem dX8_init_127 : decode cX8_init 127 = .ok (.aload_n 0, 1) := by decide +kernel
theorem dX8_init_128 : decode cX8_init 128 = .ok (.iconst 4, 1) := by decide +kernel
theorem dX8_init_129 : decode cX8_init 129 = .ok (.newarray .int, 2) := by decide +kernel
theorem dX8_init_131 : decode cX8_init 131 = .ok (.putfield 63, 3) := by decide +kernel
theorem dX8_init_134 : decode cX8_init 134 = .ok (.return_, 1) := by decide +kernel
theorem dX8_within_0 : decode cX8_within 0 = .ok (.iload_n 0, 1) := by decide +kernel
theorem dX8_within_1 : decode cX8_within 1 = .ok (.iload_n 1, 1) := by decide +kernel
theorem dX8_within_2 : decode cX8_within 2 = .ok (.if_icmp .lt 12, 3) := by decide +kernel
theorem dX8_within_5 : decode cX8_within 5 = .ok (.iload_n 0, 1) := by decide +kernel
theorem dX8_within_6 : decode cX8_within 6 = .ok (.iload_n 2, 1) := by decide +kernel
theorem dX8_within_7 : decode cX8_within 7 = .ok (.if_icmp .gt 7, 3) := by decide +kernel
theorem dX8_within_10 : decode cX8_within 10 = .ok (.iconst 1, 1) := by decide +kernel
theorem dX8_within_11 : decode cX8_within 11 = .ok (.goto 4, 3) := by decide +kernel
theorem dX8_within_14 : decode cX8_within 14 = .ok (.iconst 0, 1) := by decide +kernel
theorem dX8_within_15 : decode cX8_within 15 = .ok (.ireturn, 1) := by decide +kernel
theorem dX8_letter_0 : decode cX8_letter 0 = .ok (.iload_n 1, 1) := by decide +kernel
theorem dX8_letter_1 : decode cX8_letter 1 = .ok (.bipush 32, 2) := by decide +kernel
theorem dX8_letter_3 : decode cX8_letter 3 = .ok (.bipush 126, 2) := by decide +kernel
theorem dX8_letter_5 : decode cX8_letter 5 = .ok (.invokestatic 66, 3) := by decide +kernel
theorem dX8_letter_8 : decode cX8_letter 8 = .ok (.ifCond .ne 6, 3) := by decide +kernel
theorem dX8_letter_11 : decode cX8_letter 11 = .ok (.bipush (-102), 2) := by decide +kernel
theorem dX8_letter_13 : decode cX8_letter 13 = .ok (.ireturn, 1) := by decide +kernel
theorem dX8_letter_14 : decode cX8_letter 14 = .ok (.aload_n 0, 1) := by decide +kernel
theorem dX8_letter_15 : decode cX8_letter 15 = .ok (.getfield 70, 3) := by decide +kernel
theorem dX8_letter_18 : decode cX8_letter 18 = .ok (.bipush 26, 2) := by decide +kernel
theorem dX8_letter_20 : decode cX8_letter 20 = .ok (.if_icmp .ne 6, 3) := by decide +kernel
theorem dX8_letter_23 : decode cX8_letter 23 = .ok (.bipush (-104), 2) := by decide +kernel
theorem dX8_letter_25 : decode cX8_letter 25 = .ok (.ireturn, 1) := by decide +kernel
theorem dX8_letter_26 : decode cX8_letter 26 = .ok (.aload_n 0, 1) := by decide +kernel
theorem dX8_letter_27 : decode cX8_letter 27 = .ok (.getfield 32, 3) := by decide +kernel
theorem dX8_letter_30 : decode cX8_letter 30 = .ok (.aload_n 0, 1) := by decide +kernel
theorem dX8_letter_31 : decode cX8_letter 31 = .ok (.getfield 70, 3) := by decide +kernel
theorem dX8_letter_34 : decode cX8_letter 34 = .ok (.iload_n 1, 1) := by decide +kernel
theorem dX8_letter_35 : decode cX8_letter 35 = .ok (.i2b, 1) := by decide +kernel
theorem dX8_letter_36 : decode cX8_letter 36 = .ok (.bastore, 1) := by decide +kernel
theorem dX8_letter_37 : decode cX8_letter 37 = .ok (.aload_n 0, 1) := by decide +kernel
theorem dX8_letter_38 : decode cX8_letter 38 = .ok (.dup, 1) := by decide +kernel
theorem dX8_letter_39 : decode cX8_letter 39 = .ok (.getfield 70, 3) := by decide +kernel
theorem dX8_letter_42 : decode cX8_letter 42 = .ok (.iconst 1, 1) := by decide +kernel
theorem dX8_letter_43 : decode cX8_letter 43 = .ok (.iadd, 1) := by decide +kernel
theorem dX8_letter_44 : decode cX8_letter 44 = .ok (.putfield 70, 3) := by decide +kernel
theorem dX8_letter_47 : decode cX8_letter 47 = .ok (.aload_n 0, 1) := by decide +kernel
theorem dX8_letter_48 : decode cX8_letter 48 = .ok (.getfield 70, 3) := by decide +kernel
theorem dX8_letter_51 : decode cX8_letter 51 = .ok (.ireturn, 1) := by decide +kernel
theorem dX8_blank_0 : decode cX8_blank 0 = .ok (.aload_n 0, 1) := by decide +kernel
theorem dX8_blank_1 : decode cX8_blank 1 = .ok (.getfield 70, 3) := by decide +kernel
theorem dX8_blank_4 : decode cX8_blank 4 = .ok (.istore_n 1, 1) := by decide +kernel
theorem dX8_blank_5 : decode cX8_blank 5 = .ok (.aload_n 0, 1) := by decide +kernel
theorem dX8_blank_6 : decode cX8_blank 6 = .ok (.iconst 0, 1) := by decide +kernel
theorem dX8_blank_7 : decode cX8_blank 7 = .ok (.putfield 70, 3) := by decide +kernel
theorem dX8_blank_10 : decode cX8_blank 10 = .ok (.iload_n 1, 1) := by decide +kernel
theorem dX8_blank_11 : decode cX8_blank 11 = .ok (.ireturn, 1) := by decide +kernel
theorem dX8_readLawn_0 : decode cX8_readLawn 0 = .ok (.iconst 0, 1) := by decide +kernel
theorem dX8_readLawn_1 : decode cX8_readLawn 1 = .ok (.istore_n 1, 1) := by decide +kernel
theorem dX8_readLawn_2 : decode cX8_readLawn 2 = .ok (.iconst 1, 1) := by decide +kernel
theorem dX8_readLawn_3 : decode cX8_readLawn 3 = .ok (.istore_n 2, 1) := by decide +kernel
theorem dX8_readLawn_4 : decode cX8_readLawn 4 = .ok (.iload_n 1, 1) := by decide +kernel
theorem dX8_readLawn_5 : decode cX8_readLawn 5 = .ok (.aload_n 0, 1) := by decide +kernel
theorem dX8_readLawn_6 : decode cX8_readLawn 6 = .ok (.getfield 70, 3) := by decide +kernel
theorem dX8_readLawn_9 : decode cX8_readLawn 9 = .ok (.if_icmp .ge 110, 3) := by decide +kernel
theorem dX8_readLawn_12 : decode cX8_readLawn 12 = .ok (.iload_n 2, 1) := by decide +kernel
theorem dX8_readLawn_13 : decode cX8_readLawn 13 = .ok (.ifCond .eq 106, 3) := by decide +kernel
theorem dX8_readLawn_16 : decode cX8_readLawn 16 = .ok (.aload_n 0, 1) := by decide +kernel
theorem dX8_readLawn_17 : decode cX8_readLawn 17 = .ok (.getfield 32, 3) := by decide +kernel
theorem dX8_readLawn_20 : decode cX8_readLawn 20 = .ok (.iload_n 1, 1) := by decide +kernel
theorem dX8_readLawn_21 : decode cX8_readLawn 21 = .ok (.baload, 1) := by decide +kernel
theorem dX8_readLawn_22 : decode cX8_readLawn 22 = .ok (.bipush 48, 2) := by decide +kernel
theorem dX8_readLawn_24 : decode cX8_readLawn 24 = .ok (.bipush 57, 2) := by decide +kernel
theorem dX8_readLawn_26 : decode cX8_readLawn 26 = .ok (.invokestatic 66, 3) := by decide +kernel
theorem dX8_readLawn_29 : decode cX8_readLawn 29 = .ok (.istore_n 3, 1) := by decide +kernel
theorem dX8_readLawn_30 : decode cX8_readLawn 30 = .ok (.iload_n 1, 1) := by decide +kernel
theorem dX8_readLawn_31 : decode cX8_readLawn 31 = .ok (.bipush 23, 2) := by decide +kernel
theorem dX8_readLawn_33 : decode cX8_readLawn 33 = .ok (.if_icmp .ne 22, 3) := by decide +kernel
theorem dX8_readLawn_36 : decode cX8_readLawn 36 = .ok (.aload_n 0, 1) := by decide +kernel
theorem dX8_readLawn_37 : decode cX8_readLawn 37 = .ok (.getfield 32, 3) := by decide +kernel
theorem dX8_readLawn_40 : decode cX8_readLawn 40 = .ok (.iload_n 1, 1) := by decide +kernel
theorem dX8_readLawn_41 : decode cX8_readLawn 41 = .ok (.baload, 1) := by decide +kernel
theorem dX8_readLawn_42 : decode cX8_readLawn 42 = .ok (.bipush 59, 2) := by decide +kernel
theorem dX8_readLawn_44 : decode cX8_readLawn 44 = .ok (.if_icmp .ne 7, 3) := by decide +kernel
theorem dX8_readLawn_47 : decode cX8_readLawn 47 = .ok (.iconst 1, 1) := by decide +kernel
theorem dX8_readLawn_48 : decode cX8_readLawn 48 = .ok (.goto 55, 3) := by decide +kernel
theorem dX8_readLawn_51 : decode cX8_readLawn 51 = .ok (.iconst 0, 1) := by decide +kernel
theorem dX8_readLawn_52 : decode cX8_readLawn 52 = .ok (.goto 51, 3) := by decide +kernel
theorem dX8_readLawn_55 : decode cX8_readLawn 55 = .ok (.iload_n 1, 1) := by decide +kernel
theorem dX8_readLawn_56 : decode cX8_readLawn 56 = .ok (.bipush 23, 2) := by decide +kernel
theorem dX8_readLawn_58 : decode cX8_readLawn 58 = .ok (.if_icmp .ge 30, 3) := by decide +kernel
theorem dX8_readLawn_61 : decode cX8_readLawn 61 = .ok (.iload_n 1, 1) := by decide +kernel
theorem dX8_readLawn_62 : decode cX8_readLawn 62 = .ok (.bipush 6, 2) := by decide +kernel
theorem dX8_readLawn_64 : decode cX8_readLawn 64 = .ok (.irem, 1) := by decide +kernel
theorem dX8_readLawn_65 : decode cX8_readLawn 65 = .ok (.iconst 5, 1) := by decide +kernel
theorem dX8_readLawn_66 : decode cX8_readLawn 66 = .ok (.if_icmp .ne 22, 3) := by decide +kernel
theorem dX8_readLawn_69 : decode cX8_readLawn 69 = .ok (.aload_n 0, 1) := by decide +kernel
theorem dX8_readLawn_70 : decode cX8_readLawn 70 = .ok (.getfield 32, 3) := by decide +kernel
theorem dX8_readLawn_73 : decode cX8_readLawn 73 = .ok (.iload_n 1, 1) := by decide +kernel
theorem dX8_readLawn_74 : decode cX8_readLawn 74 = .ok (.baload, 1) := by decide +kernel
theorem dX8_readLawn_75 : decode cX8_readLawn 75 = .ok (.bipush 47, 2) := by decide +kernel
theorem dX8_readLawn_77 : decode cX8_readLawn 77 = .ok (.if_icmp .ne 7, 3) := by decide +kernel
theorem dX8_readLawn_80 : decode cX8_readLawn 80 = .ok (.iconst 1, 1) := by decide +kernel
theorem dX8_readLawn_81 : decode cX8_readLawn 81 = .ok (.goto 22, 3) := by decide +kernel
theorem dX8_readLawn_84 : decode cX8_readLawn 84 = .ok (.iconst 0, 1) := by decide +kernel
theorem dX8_readLawn_85 : decode cX8_readLawn 85 = .ok (.goto 18, 3) := by decide +kernel
theorem dX8_readLawn_88 : decode cX8_readLawn 88 = .ok (.iload_n 1, 1) := by decide +kernel
theorem dX8_readLawn_89 : decode cX8_readLawn 89 = .ok (.bipush 25, 2) := by decide +kernel
theorem dX8_readLawn_91 : decode cX8_readLawn 91 = .ok (.if_icmp .ge 11, 3) := by decide +kernel
theorem dX8_readLawn_94 : decode cX8_readLawn 94 = .ok (.iload_n 3, 1) := by decide +kernel
theorem dX8_readLawn_95 : decode cX8_readLawn 95 = .ok (.ifCond .eq 7, 3) := by decide +kernel
theorem dX8_readLawn_98 : decode cX8_readLawn 98 = .ok (.iconst 1, 1) := by decide +kernel
theorem dX8_readLawn_99 : decode cX8_readLawn 99 = .ok (.goto 4, 3) := by decide +kernel
theorem dX8_readLawn_102 : decode cX8_readLawn 102 = .ok (.iconst 0, 1) := by decide +kernel
theorem dX8_readLawn_103 : decode cX8_readLawn 103 = .ok (.istore_n 2, 1) := by decide +kernel
theorem dX8_readLawn_104 : decode cX8_readLawn 104 = .ok (.iload_n 1, 1) := by decide +kernel
theorem dX8_readLawn_105 : decode cX8_readLawn 105 = .ok (.iload_n 2, 1) := by decide +kernel
theorem dX8_readLawn_106 : decode cX8_readLawn 106 = .ok (.ifCond .eq 7, 3) := by decide +kernel
theorem dX8_readLawn_109 : decode cX8_readLawn 109 = .ok (.iconst 1, 1) := by decide +kernel
theorem dX8_readLawn_110 : decode cX8_readLawn 110 = .ok (.goto 4, 3) := by decide +kernel
theorem dX8_readLawn_113 : decode cX8_readLawn 113 = .ok (.iconst 0, 1) := by decide +kernel
theorem dX8_readLawn_114 : decode cX8_readLawn 114 = .ok (.iadd, 1) := by decide +kernel
theorem dX8_readLawn_115 : decode cX8_readLawn 115 = .ok (.istore_n 1, 1) := by decide +kernel
theorem dX8_readLawn_116 : decode cX8_readLawn 116 = .ok (.goto (-112), 3) := by decide +kernel
theorem dX8_readLawn_119 : decode cX8_readLawn 119 = .ok (.aload_n 0, 1) := by decide +kernel
theorem dX8_readLawn_120 : decode cX8_readLawn 120 = .ok (.iload_n 1, 1) := by decide +kernel
theorem dX8_readLawn_121 : decode cX8_readLawn 121 = .ok (.putfield 73, 3) := by decide +kernel
theorem dX8_readLawn_124 : decode cX8_readLawn 124 = .ok (.return_, 1) := by decide +kernel
theorem dX8_fault_0 : decode cX8_fault 0 = .ok (.aload_n 0, 1) := by decide +kernel
theorem dX8_fault_1 : decode cX8_fault 1 = .ok (.invokevirtual 76, 3) := by decide +kernel
theorem dX8_fault_4 : decode cX8_fault 4 = .ok (.aload_n 0, 1) := by decide +kernel
theorem dX8_fault_5 : decode cX8_fault 5 = .ok (.getfield 73, 3) := by decide +kernel
theorem dX8_fault_8 : decode cX8_fault 8 = .ok (.ireturn, 1) := by decide +kernel
theorem dX8_lawn_0 : decode cX8_lawn 0 = .ok (.aload_n 0, 1) := by decide +kernel
theorem dX8_lawn_1 : decode cX8_lawn 1 = .ok (.invokevirtual 76, 3) := by decide +kernel
theorem dX8_lawn_4 : decode cX8_lawn 4 = .ok (.aload_n 0, 1) := by decide +kernel
theorem dX8_lawn_5 : decode cX8_lawn 5 = .ok (.getfield 73, 3) := by decide +kernel
theorem dX8_lawn_8 : decode cX8_lawn 8 = .ok (.aload_n 0, 1) := by decide +kernel
theorem dX8_lawn_9 : decode cX8_lawn 9 = .ok (.getfield 70, 3) := by decide +kernel
theorem dX8_lawn_12 : decode cX8_lawn 12 = .ok (.if_icmp .ne 12, 3) := by decide +kernel
theorem dX8_lawn_15 : decode cX8_lawn 15 = .ok (.aload_n 0, 1) := by decide +kernel
theorem dX8_lawn_16 : decode cX8_lawn 16 = .ok (.getfield 70, 3) := by decide +kernel
theorem dX8_lawn_19 : decode cX8_lawn 19 = .ok (.bipush 25, 2) := by decide +kernel
theorem dX8_lawn_21 : decode cX8_lawn 21 = .ok (.if_icmp .eq 6, 3) := by decide +kernel
theorem dX8_lawn_24 : decode cX8_lawn 24 = .ok (.bipush (-103), 2) := by decide +kernel
theorem dX8_lawn_26 : decode cX8_lawn 26 = .ok (.ireturn, 1) := by decide +kernel
theorem dX8_lawn_27 : decode cX8_lawn 27 = .ok (.iconst 0, 1) := by decide +kernel
theorem dX8_lawn_28 : decode cX8_lawn 28 = .ok (.istore_n 1, 1) := by decide +kernel
theorem dX8_lawn_29 : decode cX8_lawn 29 = .ok (.iload_n 1, 1) := by decide +kernel
theorem dX8_lawn_30 : decode cX8_lawn 30 = .ok (.bipush 20, 2) := by decide +kernel
theorem dX8_lawn_32 : decode cX8_lawn 32 = .ok (.if_icmp .ge 33, 3) := by decide +kernel
theorem dX8_lawn_35 : decode cX8_lawn 35 = .ok (.aload_n 0, 1) := by decide +kernel
theorem dX8_lawn_36 : decode cX8_lawn 36 = .ok (.getfield 7, 3) := by decide +kernel
theorem dX8_lawn_39 : decode cX8_lawn 39 = .ok (.iload_n 1, 1) := by decide +kernel
theorem dX8_lawn_40 : decode cX8_lawn 40 = .ok (.aload_n 0, 1) := by decide +kernel
theorem dX8_lawn_41 : decode cX8_lawn 41 = .ok (.getfield 32, 3) := by decide +kernel
theorem dX8_lawn_44 : decode cX8_lawn 44 = .ok (.iload_n 1, 1) := by decide +kernel
theorem dX8_lawn_45 : decode cX8_lawn 45 = .ok (.iconst 5, 1) := by decide +kernel
theorem dX8_lawn_46 : decode cX8_lawn 46 = .ok (.idiv, 1) := by decide +kernel
theorem dX8_lawn_47 : decode cX8_lawn 47 = .ok (.bipush 6, 2) := by decide +kernel
theorem dX8_lawn_49 : decode cX8_lawn 49 = .ok (.imul, 1) := by decide +kernel
theorem dX8_lawn_50 : decode cX8_lawn 50 = .ok (.iload_n 1, 1) := by decide +kernel
theorem dX8_lawn_51 : decode cX8_lawn 51 = .ok (.iconst 5, 1) := by decide +kernel
theorem dX8_lawn_52 : decode cX8_lawn 52 = .ok (.irem, 1) := by decide +kernel
theorem dX8_lawn_53 : decode cX8_lawn 53 = .ok (.iadd, 1) := by decide +kernel
theorem dX8_lawn_54 : decode cX8_lawn 54 = .ok (.baload, 1) := by decide +kernel
theorem dX8_lawn_55 : decode cX8_lawn 55 = .ok (.bipush 48, 2) := by decide +kernel
theorem dX8_lawn_57 : decode cX8_lawn 57 = .ok (.isub, 1) := by decide +kernel
theorem dX8_lawn_58 : decode cX8_lawn 58 = .ok (.iastore, 1) := by decide +kernel
theorem dX8_lawn_59 : decode cX8_lawn 59 = .ok (.iinc 1 1, 3) := by decide +kernel
theorem dX8_lawn_62 : decode cX8_lawn 62 = .ok (.goto (-33), 3) := by decide +kernel
theorem dX8_lawn_65 : decode cX8_lawn 65 = .ok (.aload_n 0, 1) := by decide +kernel
theorem dX8_lawn_66 : decode cX8_lawn 66 = .ok (.aload_n 0, 1) := by decide +kernel
theorem dX8_lawn_67 : decode cX8_lawn 67 = .ok (.getfield 32, 3) := by decide +kernel
theorem dX8_lawn_70 : decode cX8_lawn 70 = .ok (.bipush 24, 2) := by decide +kernel
theorem dX8_lawn_72 : decode cX8_lawn 72 = .ok (.baload, 1) := by decide +kernel
theorem dX8_lawn_73 : decode cX8_lawn 73 = .ok (.bipush 48, 2) := by decide +kernel
theorem dX8_lawn_75 : decode cX8_lawn 75 = .ok (.isub, 1) := by decide +kernel
theorem dX8_lawn_76 : decode cX8_lawn 76 = .ok (.putfield 79, 3) := by decide +kernel
theorem dX8_lawn_79 : decode cX8_lawn 79 = .ok (.aload_n 0, 1) := by decide +kernel
theorem dX8_lawn_80 : decode cX8_lawn 80 = .ok (.iconst 1, 1) := by decide +kernel
theorem dX8_lawn_81 : decode cX8_lawn 81 = .ok (.putfield 82, 3) := by decide +kernel
theorem dX8_lawn_84 : decode cX8_lawn 84 = .ok (.aload_n 0, 1) := by decide +kernel
theorem dX8_lawn_85 : decode cX8_lawn 85 = .ok (.dup, 1) := by decide +kernel
theorem dX8_lawn_86 : decode cX8_lawn 86 = .ok (.getfield 86, 3) := by decide +kernel
theorem dX8_lawn_89 : decode cX8_lawn 89 = .ok (.iconst 1, 1) := by decide +kernel
theorem dX8_lawn_90 : decode cX8_lawn 90 = .ok (.iadd, 1) := by decide +kernel
theorem dX8_lawn_91 : decode cX8_lawn 91 = .ok (.putfield 86, 3) := by decide +kernel
theorem dX8_lawn_94 : decode cX8_lawn 94 = .ok (.aload_n 0, 1) := by decide +kernel
theorem dX8_lawn_95 : decode cX8_lawn 95 = .ok (.bipush 20, 2) := by decide +kernel
theorem dX8_lawn_97 : decode cX8_lawn 97 = .ok (.putfield 13, 3) := by decide +kernel
theorem dX8_lawn_100 : decode cX8_lawn 100 = .ok (.aload_n 0, 1) := by decide +kernel
theorem dX8_lawn_101 : decode cX8_lawn 101 = .ok (.iconst 0, 1) := by decide +kernel
theorem dX8_lawn_102 : decode cX8_lawn 102 = .ok (.putfield 89, 3) := by decide +kernel
theorem dX8_lawn_105 : decode cX8_lawn 105 = .ok (.aload_n 0, 1) := by decide +kernel
theorem dX8_lawn_106 : decode cX8_lawn 106 = .ok (.iconst 0, 1) := by decide +kernel
theorem dX8_lawn_107 : decode cX8_lawn 107 = .ok (.putfield 92, 3) := by decide +kernel
theorem dX8_lawn_110 : decode cX8_lawn 110 = .ok (.aload_n 0, 1) := by decide +kernel
theorem dX8_lawn_111 : decode cX8_lawn 111 = .ok (.iconst 0, 1) := by decide +kernel
theorem dX8_lawn_112 : decode cX8_lawn 112 = .ok (.putfield 70, 3) := by decide +kernel
theorem dX8_lawn_115 : decode cX8_lawn 115 = .ok (.aload_n 0, 1) := by decide +kernel
theorem dX8_lawn_116 : decode cX8_lawn 116 = .ok (.invokevirtual 95, 3) := by decide +kernel
theorem dX8_lawn_119 : decode cX8_lawn 119 = .ok (.ireturn, 1) := by decide +kernel
theorem dX8_depthAll_0 : decode cX8_depthAll 0 = .ok (.iconst 0, 1) := by decide +kernel
theorem dX8_depthAll_1 : decode cX8_depthAll 1 = .ok (.istore_n 1, 1) := by decide +kernel
theorem dX8_depthAll_2 : decode cX8_depthAll 2 = .ok (.iconst 0, 1) := by decide +kernel
theorem dX8_depthAll_3 : decode cX8_depthAll 3 = .ok (.istore_n 2, 1) := by decide +kernel
theorem dX8_depthAll_4 : decode cX8_depthAll 4 = .ok (.iload_n 2, 1) := by decide +kernel
theorem dX8_depthAll_5 : decode cX8_depthAll 5 = .ok (.bipush 20, 2) := by decide +kernel
theorem dX8_depthAll_7 : decode cX8_depthAll 7 = .ok (.if_icmp .ge 29, 3) := by decide +kernel
theorem dX8_depthAll_10 : decode cX8_depthAll 10 = .ok (.iload_n 1, 1) := by decide +kernel
theorem dX8_depthAll_11 : decode cX8_depthAll 11 = .ok (.aload_n 0, 1) := by decide +kernel
theorem dX8_depthAll_12 : decode cX8_depthAll 12 = .ok (.getfield 82, 3) := by decide +kernel
theorem dX8_depthAll_15 : decode cX8_depthAll 15 = .ok (.ifCond .eq 12, 3) := by decide +kernel
theorem dX8_depthAll_18 : decode cX8_depthAll 18 = .ok (.aload_n 0, 1) := by decide +kernel
theorem dX8_depthAll_19 : decode cX8_depthAll 19 = .ok (.getfield 7, 3) := by decide +kernel
theorem dX8_depthAll_22 : decode cX8_depthAll 22 = .ok (.iload_n 2, 1) := by decide +kernel
theorem dX8_depthAll_23 : decode cX8_depthAll 23 = .ok (.iaload, 1) := by decide +kernel
theorem dX8_depthAll_24 : decode cX8_depthAll 24 = .ok (.goto 4, 3) := by decide +kernel
theorem dX8_depthAll_27 : decode cX8_depthAll 27 = .ok (.iconst 0, 1) := by decide +kernel
theorem dX8_depthAll_28 : decode cX8_depthAll 28 = .ok (.iadd, 1) := by decide +kernel
theorem dX8_depthAll_29 : decode cX8_depthAll 29 = .ok (.istore_n 1, 1) := by decide +kernel
theorem dX8_depthAll_30 : decode cX8_depthAll 30 = .ok (.iinc 2 1, 3) := by decide +kernel
theorem dX8_depthAll_33 : decode cX8_depthAll 33 = .ok (.goto (-29), 3) := by decide +kernel
theorem dX8_depthAll_36 : decode cX8_depthAll 36 = .ok (.iload_n 1, 1) := by decide +kernel
theorem dX8_depthAll_37 : decode cX8_depthAll 37 = .ok (.ireturn, 1) := by decide +kernel
theorem dX8_isPlace_0 : decode cX8_isPlace 0 = .ok (.iload_n 0, 1) := by decide +kernel
theorem dX8_isPlace_1 : decode cX8_isPlace 1 = .ok (.iconst 0, 1) := by decide +kernel
theorem dX8_isPlace_2 : decode cX8_isPlace 2 = .ok (.bipush 19, 2) := by decide +kernel
theorem dX8_isPlace_4 : decode cX8_isPlace 4 = .ok (.invokestatic 66, 3) := by decide +kernel
theorem dX8_isPlace_7 : decode cX8_isPlace 7 = .ok (.ireturn, 1) := by decide +kernel
theorem dX8_standsOn_0 : decode cX8_standsOn 0 = .ok (.iconst (-1), 1) := by decide +kernel
theorem dX8_standsOn_1 : decode cX8_standsOn 1 = .ok (.istore_n 2, 1) := by decide +kernel
theorem dX8_standsOn_2 : decode cX8_standsOn 2 = .ok (.iconst 0, 1) := by decide +kernel
theorem dX8_standsOn_3 : decode cX8_standsOn 3 = .ok (.istore_n 3, 1) := by decide +kernel
theorem dX8_standsOn_4 : decode cX8_standsOn 4 = .ok (.iload_n 3, 1) := by decide +kernel
theorem dX8_standsOn_5 : decode cX8_standsOn 5 = .ok (.aload_n 0, 1) := by decide +kernel
theorem dX8_standsOn_6 : decode cX8_standsOn 6 = .ok (.getfield 92, 3) := by decide +kernel
theorem dX8_standsOn_9 : decode cX8_standsOn 9 = .ok (.if_icmp .ge 35, 3) := by decide +kernel
theorem dX8_standsOn_12 : decode cX8_standsOn 12 = .ok (.aload_n 0, 1) := by decide +kernel
theorem dX8_standsOn_13 : decode cX8_standsOn 13 = .ok (.getfield 23, 3) := by decide +kernel
theorem dX8_standsOn_16 : decode cX8_standsOn 16 = .ok (.iload_n 3, 1) := by decide +kernel
theorem dX8_standsOn_17 : decode cX8_standsOn 17 = .ok (.iaload, 1) := by decide +kernel
theorem dX8_standsOn_18 : decode cX8_standsOn 18 = .ok (.iload_n 1, 1) := by decide +kernel
theorem dX8_standsOn_19 : decode cX8_standsOn 19 = .ok (.if_icmp .ne 17, 3) := by decide +kernel
theorem dX8_standsOn_22 : decode cX8_standsOn 22 = .ok (.aload_n 0, 1) := by decide +kernel
theorem dX8_standsOn_23 : decode cX8_standsOn 23 = .ok (.getfield 26, 3) := by decide +kernel
theorem dX8_standsOn_26 : decode cX8_standsOn 26 = .ok (.iload_n 3, 1) := by decide +kernel
theorem dX8_standsOn_27 : decode cX8_standsOn 27 = .ok (.iaload, 1) := by decide +kernel
theorem dX8_standsOn_28 : decode cX8_standsOn 28 = .ok (.iconst (-1), 1) := by decide +kernel
theorem dX8_standsOn_29 : decode cX8_standsOn 29 = .ok (.if_icmp .ne 7, 3) := by decide +kernel
theorem dX8_standsOn_32 : decode cX8_standsOn 32 = .ok (.iload_n 3, 1) := by decide +kernel
theorem dX8_standsOn_33 : decode cX8_standsOn 33 = .ok (.goto 4, 3) := by decide +kernel
theorem dX8_standsOn_36 : decode cX8_standsOn 36 = .ok (.iload_n 2, 1) := by decide +kernel
theorem dX8_standsOn_37 : decode cX8_standsOn 37 = .ok (.istore_n 2, 1) := by decide +kernel
theorem dX8_standsOn_38 : decode cX8_standsOn 38 = .ok (.iinc 3 1, 3) := by decide +kernel
theorem dX8_standsOn_41 : decode cX8_standsOn 41 = .ok (.goto (-37), 3) := by decide +kernel
theorem dX8_standsOn_44 : decode cX8_standsOn 44 = .ok (.iload_n 2, 1) := by decide +kernel
theorem dX8_standsOn_45 : decode cX8_standsOn 45 = .ok (.ireturn, 1) := by decide +kernel
theorem dX8_root_0 : decode cX8_root 0 = .ok (.iconst 0, 1) := by decide +kernel
theorem dX8_root_1 : decode cX8_root 1 = .ok (.istore_n 1, 1) := by decide +kernel
theorem dX8_root_2 : decode cX8_root 2 = .ok (.iload_n 1, 1) := by decide +kernel
theorem dX8_root_3 : decode cX8_root 3 = .ok (.iconst 1, 1) := by decide +kernel
theorem dX8_root_4 : decode cX8_root 4 = .ok (.iadd, 1) := by decide +kernel
theorem dX8_root_5 : decode cX8_root 5 = .ok (.iload_n 1, 1) := by decide +kernel
theorem dX8_root_6 : decode cX8_root 6 = .ok (.iconst 1, 1) := by decide +kernel
theorem dX8_root_7 : decode cX8_root 7 = .ok (.iadd, 1) := by decide +kernel
theorem dX8_root_8 : decode cX8_root 8 = .ok (.imul, 1) := by decide +kernel
theorem dX8_root_9 : decode cX8_root 9 = .ok (.iload_n 0, 1) := by decide +kernel
theorem dX8_root_10 : decode cX8_root 10 = .ok (.if_icmp .gt 9, 3) := by decide +kernel
theorem dX8_root_13 : decode cX8_root 13 = .ok (.iinc 1 1, 3) := by decide +kernel
theorem dX8_root_16 : decode cX8_root 16 = .ok (.goto (-14), 3) := by decide +kernel
theorem dX8_root_19 : decode cX8_root 19 = .ok (.iload_n 1, 1) := by decide +kernel
theorem dX8_root_20 : decode cX8_root 20 = .ok (.ireturn, 1) := by decide +kernel
theorem dX8_heightOf_0 : decode cX8_heightOf 0 = .ok (.iconst 0, 1) := by decide +kernel
theorem dX8_heightOf_1 : decode cX8_heightOf 1 = .ok (.istore_n 2, 1) := by decide +kernel
theorem dX8_heightOf_2 : decode cX8_heightOf 2 = .ok (.iconst 0, 1) := by decide +kernel
theorem dX8_heightOf_3 : decode cX8_heightOf 3 = .ok (.istore_n 3, 1) := by decide +kernel
theorem dX8_heightOf_4 : decode cX8_heightOf 4 = .ok (.iload_n 3, 1) := by decide +kernel
theorem dX8_heightOf_5 : decode cX8_heightOf 5 = .ok (.aload_n 0, 1) := by decide +kernel
theorem dX8_heightOf_6 : decode cX8_heightOf 6 = .ok (.getfield 92, 3) := by decide +kernel
theorem dX8_heightOf_9 : decode cX8_heightOf 9 = .ok (.if_icmp .ge 35, 3) := by decide +kernel
theorem dX8_heightOf_12 : decode cX8_heightOf 12 = .ok (.iload_n 2, 1) := by decide +kernel
theorem dX8_heightOf_13 : decode cX8_heightOf 13 = .ok (.aload_n 0, 1) := by decide +kernel
theorem dX8_heightOf_14 : decode cX8_heightOf 14 = .ok (.getfield 23, 3) := by decide +kernel
theorem dX8_heightOf_17 : decode cX8_heightOf 17 = .ok (.iload_n 3, 1) := by decide +kernel
theorem dX8_heightOf_18 : decode cX8_heightOf 18 = .ok (.iaload, 1) := by decide +kernel
theorem dX8_heightOf_19 : decode cX8_heightOf 19 = .ok (.iload_n 1, 1) := by decide +kernel
theorem dX8_heightOf_20 : decode cX8_heightOf 20 = .ok (.if_icmp .ne 15, 3) := by decide +kernel
theorem dX8_heightOf_23 : decode cX8_heightOf 23 = .ok (.aload_n 0, 1) := by decide +kernel
theorem dX8_heightOf_24 : decode cX8_heightOf 24 = .ok (.getfield 20, 3) := by decide +kernel
theorem dX8_heightOf_27 : decode cX8_heightOf 27 = .ok (.iload_n 3, 1) := by decide +kernel
theorem dX8_heightOf_28 : decode cX8_heightOf 28 = .ok (.iaload, 1) := by decide +kernel
theorem dX8_heightOf_29 : decode cX8_heightOf 29 = .ok (.invokestatic 99, 3) := by decide +kernel
theorem dX8_heightOf_32 : decode cX8_heightOf 32 = .ok (.goto 4, 3) := by decide +kernel
theorem dX8_heightOf_35 : decode cX8_heightOf 35 = .ok (.iconst 0, 1) := by decide +kernel
theorem dX8_heightOf_36 : decode cX8_heightOf 36 = .ok (.iadd, 1) := by decide +kernel
theorem dX8_heightOf_37 : decode cX8_heightOf 37 = .ok (.istore_n 2, 1) := by decide +kernel
theorem dX8_heightOf_38 : decode cX8_heightOf 38 = .ok (.iinc 3 1, 3) := by decide +kernel
theorem dX8_heightOf_41 : decode cX8_heightOf 41 = .ok (.goto (-37), 3) := by decide +kernel
theorem dX8_heightOf_44 : decode cX8_heightOf 44 = .ok (.iload_n 2, 1) := by decide +kernel
theorem dX8_heightOf_45 : decode cX8_heightOf 45 = .ok (.ireturn, 1) := by decide +kernel
theorem dX8_place_0 : decode cX8_place 0 = .ok (.iload_n 1, 1) := by decide +kernel
theorem dX8_place_1 : decode cX8_place 1 = .ok (.invokestatic 103, 3) := by decide +kernel
theorem dX8_place_4 : decode cX8_place 4 = .ok (.ifCond .ne 6, 3) := by decide +kernel
theorem dX8_place_7 : decode cX8_place 7 = .ok (.bipush (-101), 2) := by decide +kernel
theorem dX8_place_9 : decode cX8_place 9 = .ok (.ireturn, 1) := by decide +kernel
theorem dX8_place_10 : decode cX8_place 10 = .ok (.iload_n 2, 1) := by decide +kernel
theorem dX8_place_11 : decode cX8_place 11 = .ok (.iconst 0, 1) := by decide +kernel
theorem dX8_place_12 : decode cX8_place 12 = .ok (.iconst 2, 1) := by decide +kernel
theorem dX8_place_13 : decode cX8_place 13 = .ok (.invokestatic 66, 3) := by decide +kernel
theorem dX8_place_16 : decode cX8_place 16 = .ok (.ifCond .ne 6, 3) := by decide +kernel
theorem dX8_place_19 : decode cX8_place 19 = .ok (.bipush (-102), 2) := by decide +kernel
theorem dX8_place_21 : decode cX8_place 21 = .ok (.ireturn, 1) := by decide +kernel
theorem dX8_place_22 : decode cX8_place 22 = .ok (.aload_n 0, 1) := by decide +kernel
theorem dX8_place_23 : decode cX8_place 23 = .ok (.getfield 82, 3) := by decide +kernel
theorem dX8_place_26 : decode cX8_place 26 = .ok (.ifCond .ne 6, 3) := by decide +kernel
theorem dX8_place_29 : decode cX8_place 29 = .ok (.bipush (-103), 2) := by decide +kernel
theorem dX8_place_31 : decode cX8_place 31 = .ok (.ireturn, 1) := by decide +kernel
theorem dX8_place_32 : decode cX8_place 32 = .ok (.iload_n 2, 1) := by decide +kernel
theorem dX8_place_33 : decode cX8_place 33 = .ok (.ifCond .ne 12, 3) := by decide +kernel
theorem dX8_place_36 : decode cX8_place 36 = .ok (.aload_n 0, 1) := by decide +kernel
theorem dX8_place_37 : decode cX8_place 37 = .ok (.getfield 7, 3) := by decide +kernel
theorem dX8_place_40 : decode cX8_place 40 = .ok (.iload_n 1, 1) := by decide +kernel
theorem dX8_place_41 : decode cX8_place 41 = .ok (.iaload, 1) := by decide +kernel
theorem dX8_place_42 : decode cX8_place 42 = .ok (.goto 21, 3) := by decide +kernel
theorem dX8_place_45 : decode cX8_place 45 = .ok (.iload_n 2, 1) := by decide +kernel
theorem dX8_place_46 : decode cX8_place 46 = .ok (.iconst 1, 1) := by decide +kernel
theorem dX8_place_47 : decode cX8_place 47 = .ok (.if_icmp .ne 11, 3) := by decide +kernel
theorem dX8_place_50 : decode cX8_place 50 = .ok (.aload_n 0, 1) := by decide +kernel
theorem dX8_place_51 : decode cX8_place 51 = .ok (.iload_n 1, 1) := by decide +kernel
theorem dX8_place_52 : decode cX8_place 52 = .ok (.invokevirtual 107, 3) := by decide +kernel
theorem dX8_place_55 : decode cX8_place 55 = .ok (.goto 8, 3) := by decide +kernel
theorem dX8_place_58 : decode cX8_place 58 = .ok (.aload_n 0, 1) := by decide +kernel
theorem dX8_place_59 : decode cX8_place 59 = .ok (.iload_n 1, 1) := by decide +kernel
theorem dX8_place_60 : decode cX8_place 60 = .ok (.invokevirtual 110, 3) := by decide +kernel
theorem dX8_place_63 : decode cX8_place 63 = .ok (.ireturn, 1) := by decide +kernel
theorem dX8_strength_0 : decode cX8_strength 0 = .ok (.iload_n 1, 1) := by decide +kernel
theorem dX8_strength_1 : decode cX8_strength 1 = .ok (.iconst 1, 1) := by decide +kernel
theorem dX8_strength_2 : decode cX8_strength 2 = .ok (.bipush 99, 2) := by decide +kernel
theorem dX8_strength_4 : decode cX8_strength 4 = .ok (.invokestatic 66, 3) := by decide +kernel
theorem dX8_strength_7 : decode cX8_strength 7 = .ok (.ifCond .ne 6, 3) := by decide +kernel
theorem dX8_strength_10 : decode cX8_strength 10 = .ok (.bipush (-102), 2) := by decide +kernel
theorem dX8_strength_12 : decode cX8_strength 12 = .ok (.ireturn, 1) := by decide +kernel
theorem dX8_strength_13 : decode cX8_strength 13 = .ok (.aload_n 0, 1) := by decide +kernel
theorem dX8_strength_14 : decode cX8_strength 14 = .ok (.getfield 82, 3) := by decide +kernel
theorem dX8_strength_17 : decode cX8_strength 17 = .ok (.ifCond .ne 6, 3) := by decide +kernel
theorem dX8_strength_20 : decode cX8_strength 20 = .ok (.bipush (-103), 2) := by decide +kernel
theorem dX8_strength_22 : decode cX8_strength 22 = .ok (.ireturn, 1) := by decide +kernel
theorem dX8_strength_23 : decode cX8_strength 23 = .ok (.aload_n 0, 1) := by decide +kernel
theorem dX8_strength_24 : decode cX8_strength 24 = .ok (.getfield 13, 3) := by decide +kernel
theorem dX8_strength_27 : decode cX8_strength 27 = .ok (.istore_n 2, 1) := by decide +kernel
theorem dX8_strength_28 : decode cX8_strength 28 = .ok (.aload_n 0, 1) := by decide +kernel
theorem dX8_strength_29 : decode cX8_strength 29 = .ok (.iload_n 1, 1) := by decide +kernel
theorem dX8_strength_30 : decode cX8_strength 30 = .ok (.putfield 13, 3) := by decide +kernel
theorem dX8_strength_33 : decode cX8_strength 33 = .ok (.iload_n 2, 1) := by decide +kernel
theorem dX8_strength_34 : decode cX8_strength 34 = .ok (.ireturn, 1) := by decide +kernel
theorem dX8_isBall_0 : decode cX8_isBall 0 = .ok (.iload_n 1, 1) := by decide +kernel
theorem dX8_isBall_1 : decode cX8_isBall 1 = .ok (.iconst 0, 1) := by decide +kernel
theorem dX8_isBall_2 : decode cX8_isBall 2 = .ok (.aload_n 0, 1) := by decide +kernel
theorem dX8_isBall_3 : decode cX8_isBall 3 = .ok (.getfield 92, 3) := by decide +kernel
theorem dX8_isBall_6 : decode cX8_isBall 6 = .ok (.iconst 1, 1) := by decide +kernel
theorem dX8_isBall_7 : decode cX8_isBall 7 = .ok (.isub, 1) := by decide +kernel
theorem dX8_isBall_8 : decode cX8_isBall 8 = .ok (.invokestatic 66, 3) := by decide +kernel
theorem dX8_isBall_11 : decode cX8_isBall 11 = .ok (.ireturn, 1) := by decide +kernel
theorem dX8_ball_0 : decode cX8_ball 0 = .ok (.iload_n 2, 1) := by decide +kernel
theorem dX8_ball_1 : decode cX8_ball 1 = .ok (.invokestatic 103, 3) := by decide +kernel
theorem dX8_ball_4 : decode cX8_ball 4 = .ok (.ifCond .ne 6, 3) := by decide +kernel
theorem dX8_ball_7 : decode cX8_ball 7 = .ok (.bipush (-101), 2) := by decide +kernel
theorem dX8_ball_9 : decode cX8_ball 9 = .ok (.ireturn, 1) := by decide +kernel
theorem dX8_ball_10 : decode cX8_ball 10 = .ok (.iload_n 1, 1) := by decide +kernel
theorem dX8_ball_11 : decode cX8_ball 11 = .ok (.iconst 0, 1) := by decide +kernel
theorem dX8_ball_12 : decode cX8_ball 12 = .ok (.iconst 4, 1) := by decide +kernel
theorem dX8_ball_13 : decode cX8_ball 13 = .ok (.invokestatic 66, 3) := by decide +kernel
theorem dX8_ball_16 : decode cX8_ball 16 = .ok (.ifCond .ne 6, 3) := by decide +kernel
theorem dX8_ball_19 : decode cX8_ball 19 = .ok (.bipush (-102), 2) := by decide +kernel
theorem dX8_ball_21 : decode cX8_ball 21 = .ok (.ireturn, 1) := by decide +kernel
theorem dX8_ball_22 : decode cX8_ball 22 = .ok (.aload_n 0, 1) := by decide +kernel
theorem dX8_ball_23 : decode cX8_ball 23 = .ok (.getfield 82, 3) := by decide +kernel
theorem dX8_ball_26 : decode cX8_ball 26 = .ok (.ifCond .eq 12, 3) := by decide +kernel
theorem dX8_ball_29 : decode cX8_ball 29 = .ok (.aload_n 0, 1) := by decide +kernel
theorem dX8_ball_30 : decode cX8_ball 30 = .ok (.iload_n 2, 1) := by decide +kernel
theorem dX8_ball_31 : decode cX8_ball 31 = .ok (.invokevirtual 107, 3) := by decide +kernel
theorem dX8_ball_34 : decode cX8_ball 34 = .ok (.iconst (-1), 1) := by decide +kernel
theorem dX8_ball_35 : decode cX8_ball 35 = .ok (.if_icmp .eq 6, 3) := by decide +kernel
theorem dX8_ball_38 : decode cX8_ball 38 = .ok (.bipush (-103), 2) := by decide +kernel
theorem dX8_ball_40 : decode cX8_ball 40 = .ok (.ireturn, 1) := by decide +kernel
theorem dX8_ball_41 : decode cX8_ball 41 = .ok (.aload_n 0, 1) := by decide +kernel
theorem dX8_ball_42 : decode cX8_ball 42 = .ok (.getfield 92, 3) := by decide +kernel
theorem dX8_ball_45 : decode cX8_ball 45 = .ok (.iconst 4, 1) := by decide +kernel
theorem dX8_ball_46 : decode cX8_ball 46 = .ok (.if_icmp .ne 6, 3) := by decide +kernel
theorem dX8_ball_49 : decode cX8_ball 49 = .ok (.bipush (-104), 2) := by decide +kernel
theorem dX8_ball_51 : decode cX8_ball 51 = .ok (.ireturn, 1) := by decide +kernel
theorem dX8_ball_52 : decode cX8_ball 52 = .ok (.aload_n 0, 1) := by decide +kernel
theorem dX8_ball_53 : decode cX8_ball 53 = .ok (.aload_n 0, 1) := by decide +kernel
theorem dX8_ball_54 : decode cX8_ball 54 = .ok (.getfield 92, 3) := by decide +kernel
theorem dX8_ball_57 : decode cX8_ball 57 = .ok (.iload_n 1, 1) := by decide +kernel
theorem dX8_ball_58 : decode cX8_ball 58 = .ok (.iload_n 2, 1) := by decide +kernel
theorem dX8_ball_59 : decode cX8_ball 59 = .ok (.invokevirtual 113, 3) := by decide +kernel
theorem dX8_ball_62 : decode cX8_ball 62 = .ok (.aload_n 0, 1) := by decide +kernel
theorem dX8_ball_63 : decode cX8_ball 63 = .ok (.dup, 1) := by decide +kernel
theorem dX8_ball_64 : decode cX8_ball 64 = .ok (.getfield 92, 3) := by decide +kernel
theorem dX8_ball_67 : decode cX8_ball 67 = .ok (.iconst 1, 1) := by decide +kernel
theorem dX8_ball_68 : decode cX8_ball 68 = .ok (.iadd, 1) := by decide +kernel
theorem dX8_ball_69 : decode cX8_ball 69 = .ok (.putfield 92, 3) := by decide +kernel
theorem dX8_ball_72 : decode cX8_ball 72 = .ok (.aload_n 0, 1) := by decide +kernel
theorem dX8_ball_73 : decode cX8_ball 73 = .ok (.getfield 92, 3) := by decide +kernel
theorem dX8_ball_76 : decode cX8_ball 76 = .ok (.iconst 1, 1) := by decide +kernel
theorem dX8_ball_77 : decode cX8_ball 77 = .ok (.isub, 1) := by decide +kernel
theorem dX8_ball_78 : decode cX8_ball 78 = .ok (.ireturn, 1) := by decide +kernel
theorem dX8_lay_0 : decode cX8_lay 0 = .ok (.aload_n 0, 1) := by decide +kernel
theorem dX8_lay_1 : decode cX8_lay 1 = .ok (.getfield 17, 3) := by decide +kernel
theorem dX8_lay_4 : decode cX8_lay 4 = .ok (.iload_n 1, 1) := by decide +kernel
theorem dX8_lay_5 : decode cX8_lay 5 = .ok (.iload_n 2, 1) := by decide +kernel
theorem dX8_lay_6 : decode cX8_lay 6 = .ok (.iastore, 1) := by decide +kernel
theorem dX8_lay_7 : decode cX8_lay 7 = .ok (.aload_n 0, 1) := by decide +kernel
theorem dX8_lay_8 : decode cX8_lay 8 = .ok (.getfield 20, 3) := by decide +kernel
theorem dX8_lay_11 : decode cX8_lay 11 = .ok (.iload_n 1, 1) := by decide +kernel
theorem dX8_lay_12 : decode cX8_lay 12 = .ok (.iconst 1, 1) := by decide +kernel
theorem dX8_lay_13 : decode cX8_lay 13 = .ok (.iastore, 1) := by decide +kernel
theorem dX8_lay_14 : decode cX8_lay 14 = .ok (.aload_n 0, 1) := by decide +kernel
theorem dX8_lay_15 : decode cX8_lay 15 = .ok (.getfield 23, 3) := by decide +kernel
theorem dX8_lay_18 : decode cX8_lay 18 = .ok (.iload_n 1, 1) := by decide +kernel
theorem dX8_lay_19 : decode cX8_lay 19 = .ok (.iload_n 3, 1) := by decide +kernel
theorem dX8_lay_20 : decode cX8_lay 20 = .ok (.iastore, 1) := by decide +kernel
theorem dX8_lay_21 : decode cX8_lay 21 = .ok (.aload_n 0, 1) := by decide +kernel
theorem dX8_lay_22 : decode cX8_lay 22 = .ok (.getfield 26, 3) := by decide +kernel
theorem dX8_lay_25 : decode cX8_lay 25 = .ok (.iload_n 1, 1) := by decide +kernel
theorem dX8_lay_26 : decode cX8_lay 26 = .ok (.iconst (-1), 1) := by decide +kernel
theorem dX8_lay_27 : decode cX8_lay 27 = .ok (.iastore, 1) := by decide +kernel
theorem dX8_lay_28 : decode cX8_lay 28 = .ok (.aload_n 0, 1) := by decide +kernel
theorem dX8_lay_29 : decode cX8_lay 29 = .ok (.getfield 29, 3) := by decide +kernel
theorem dX8_lay_32 : decode cX8_lay 32 = .ok (.iload_n 1, 1) := by decide +kernel
theorem dX8_lay_33 : decode cX8_lay 33 = .ok (.iconst (-1), 1) := by decide +kernel
theorem dX8_lay_34 : decode cX8_lay 34 = .ok (.iastore, 1) := by decide +kernel
theorem dX8_lay_35 : decode cX8_lay 35 = .ok (.return_, 1) := by decide +kernel
theorem dX8_weighs_0 : decode cX8_weighs 0 = .ok (.aload_n 0, 1) := by decide +kernel
theorem dX8_weighs_1 : decode cX8_weighs 1 = .ok (.getfield 17, 3) := by decide +kernel
theorem dX8_weighs_4 : decode cX8_weighs 4 = .ok (.iload_n 1, 1) := by decide +kernel
theorem dX8_weighs_5 : decode cX8_weighs 5 = .ok (.iaload, 1) := by decide +kernel
theorem dX8_weighs_6 : decode cX8_weighs 6 = .ok (.iconst 3, 1) := by decide +kernel
theorem dX8_weighs_7 : decode cX8_weighs 7 = .ok (.if_icmp .eq 13, 3) := by decide +kernel
theorem dX8_weighs_10 : decode cX8_weighs 10 = .ok (.aload_n 0, 1) := by decide +kernel
theorem dX8_weighs_11 : decode cX8_weighs 11 = .ok (.getfield 17, 3) := by decide +kernel
theorem dX8_weighs_14 : decode cX8_weighs 14 = .ok (.iload_n 1, 1) := by decide +kernel
theorem dX8_weighs_15 : decode cX8_weighs 15 = .ok (.iaload, 1) := by decide +kernel
theorem dX8_weighs_16 : decode cX8_weighs 16 = .ok (.iconst 4, 1) := by decide +kernel
theorem dX8_weighs_17 : decode cX8_weighs 17 = .ok (.if_icmp .ne 14, 3) := by decide +kernel
theorem dX8_weighs_20 : decode cX8_weighs 20 = .ok (.iconst 2, 1) := by decide +kernel
theorem dX8_weighs_21 : decode cX8_weighs 21 = .ok (.aload_n 0, 1) := by decide +kernel
theorem dX8_weighs_22 : decode cX8_weighs 22 = .ok (.getfield 20, 3) := by decide +kernel
theorem dX8_weighs_25 : decode cX8_weighs 25 = .ok (.iload_n 1, 1) := by decide +kernel
theorem dX8_weighs_26 : decode cX8_weighs 26 = .ok (.iaload, 1) := by decide +kernel
theorem dX8_weighs_27 : decode cX8_weighs 27 = .ok (.imul, 1) := by decide +kernel
theorem dX8_weighs_28 : decode cX8_weighs 28 = .ok (.goto 9, 3) := by decide +kernel
theorem dX8_weighs_31 : decode cX8_weighs 31 = .ok (.aload_n 0, 1) := by decide +kernel
theorem dX8_weighs_32 : decode cX8_weighs 32 = .ok (.getfield 20, 3) := by decide +kernel
theorem dX8_weighs_35 : decode cX8_weighs 35 = .ok (.iload_n 1, 1) := by decide +kernel
theorem dX8_weighs_36 : decode cX8_weighs 36 = .ok (.iaload, 1) := by decide +kernel
theorem dX8_weighs_37 : decode cX8_weighs 37 = .ok (.ireturn, 1) := by decide +kernel
theorem dX8_breadth_0 : decode cX8_breadth 0 = .ok (.iconst 1, 1) := by decide +kernel
theorem dX8_breadth_1 : decode cX8_breadth 1 = .ok (.aload_n 0, 1) := by decide +kernel
theorem dX8_breadth_2 : decode cX8_breadth 2 = .ok (.getfield 20, 3) := by decide +kernel
theorem dX8_breadth_5 : decode cX8_breadth 5 = .ok (.iload_n 1, 1) := by decide +kernel
theorem dX8_breadth_6 : decode cX8_breadth 6 = .ok (.iaload, 1) := by decide +kernel
theorem dX8_breadth_7 : decode cX8_breadth 7 = .ok (.bipush 8, 2) := by decide +kernel
theorem dX8_breadth_9 : decode cX8_breadth 9 = .ok (.idiv, 1) := by decide +kernel
theorem dX8_breadth_10 : decode cX8_breadth 10 = .ok (.iadd, 1) := by decide +kernel
theorem dX8_breadth_11 : decode cX8_breadth 11 = .ok (.aload_n 0, 1) := by decide +kernel
theorem dX8_breadth_12 : decode cX8_breadth 12 = .ok (.getfield 17, 3) := by decide +kernel
theorem dX8_breadth_15 : decode cX8_breadth 15 = .ok (.iload_n 1, 1) := by decide +kernel
theorem dX8_breadth_16 : decode cX8_breadth 16 = .ok (.iaload, 1) := by decide +kernel
theorem dX8_breadth_17 : decode cX8_breadth 17 = .ok (.iconst 1, 1) := by decide +kernel
theorem dX8_breadth_18 : decode cX8_breadth 18 = .ok (.if_icmp .ne 7, 3) := by decide +kernel
theorem dX8_breadth_21 : decode cX8_breadth 21 = .ok (.iconst 1, 1) := by decide +kernel
theorem dX8_breadth_22 : decode cX8_breadth 22 = .ok (.goto 4, 3) := by decide +kernel
theorem dX8_breadth_25 : decode cX8_breadth 25 = .ok (.iconst 0, 1) := by decide +kernel
theorem dX8_breadth_26 : decode cX8_breadth 26 = .ok (.iadd, 1) := by decide +kernel
theorem dX8_breadth_27 : decode cX8_breadth 27 = .ok (.ireturn, 1) := by decide +kernel
theorem dX8_ballNow_0 : decode cX8_ballNow 0 = .ok (.iload_n 2, 1) := by decide +kernel
theorem dX8_ballNow_1 : decode cX8_ballNow 1 = .ok (.tableswitch 79 0 5 #[39, 46, 53, 60, 67, 73], 39) := by decide +kernel
theorem dX8_ballNow_40 : decode cX8_ballNow 40 = .ok (.aload_n 0, 1) := by decide +kernel
theorem dX8_ballNow_41 : decode cX8_ballNow 41 = .ok (.getfield 17, 3) := by decide +kernel
theorem dX8_ballNow_44 : decode cX8_ballNow 44 = .ok (.iload_n 1, 1) := by decide +kernel
theorem dX8_ballNow_45 : decode cX8_ballNow 45 = .ok (.iaload, 1) := by decide +kernel
theorem dX8_ballNow_46 : decode cX8_ballNow 46 = .ok (.ireturn, 1) := by decide +kernel
theorem dX8_ballNow_47 : decode cX8_ballNow 47 = .ok (.aload_n 0, 1) := by decide +kernel
theorem dX8_ballNow_48 : decode cX8_ballNow 48 = .ok (.getfield 20, 3) := by decide +kernel
theorem dX8_ballNow_51 : decode cX8_ballNow 51 = .ok (.iload_n 1, 1) := by decide +kernel
theorem dX8_ballNow_52 : decode cX8_ballNow 52 = .ok (.iaload, 1) := by decide +kernel
theorem dX8_ballNow_53 : decode cX8_ballNow 53 = .ok (.ireturn, 1) := by decide +kernel
theorem dX8_ballNow_54 : decode cX8_ballNow 54 = .ok (.aload_n 0, 1) := by decide +kernel
theorem dX8_ballNow_55 : decode cX8_ballNow 55 = .ok (.getfield 23, 3) := by decide +kernel
theorem dX8_ballNow_58 : decode cX8_ballNow 58 = .ok (.iload_n 1, 1) := by decide +kernel
theorem dX8_ballNow_59 : decode cX8_ballNow 59 = .ok (.iaload, 1) := by decide +kernel
theorem dX8_ballNow_60 : decode cX8_ballNow 60 = .ok (.ireturn, 1) := by decide +kernel
theorem dX8_ballNow_61 : decode cX8_ballNow 61 = .ok (.aload_n 0, 1) := by decide +kernel
theorem dX8_ballNow_62 : decode cX8_ballNow 62 = .ok (.getfield 26, 3) := by decide +kernel
theorem dX8_ballNow_65 : decode cX8_ballNow 65 = .ok (.iload_n 1, 1) := by decide +kernel
theorem dX8_ballNow_66 : decode cX8_ballNow 66 = .ok (.iaload, 1) := by decide +kernel
theorem dX8_ballNow_67 : decode cX8_ballNow 67 = .ok (.ireturn, 1) := by decide +kernel
theorem dX8_ballNow_68 : decode cX8_ballNow 68 = .ok (.aload_n 0, 1) := by decide +kernel
theorem dX8_ballNow_69 : decode cX8_ballNow 69 = .ok (.iload_n 1, 1) := by decide +kernel
theorem dX8_ballNow_70 : decode cX8_ballNow 70 = .ok (.invokevirtual 117, 3) := by decide +kernel
theorem dX8_ballNow_73 : decode cX8_ballNow 73 = .ok (.ireturn, 1) := by decide +kernel
theorem dX8_ballNow_74 : decode cX8_ballNow 74 = .ok (.aload_n 0, 1) := by decide +kernel
theorem dX8_ballNow_75 : decode cX8_ballNow 75 = .ok (.iload_n 1, 1) := by decide +kernel
theorem dX8_ballNow_76 : decode cX8_ballNow 76 = .ok (.invokevirtual 120, 3) := by decide +kernel
theorem dX8_ballNow_79 : decode cX8_ballNow 79 = .ok (.ireturn, 1) := by decide +kernel
theorem dX8_ballNow_80 : decode cX8_ballNow 80 = .ok (.aload_n 0, 1) := by decide +kernel
theorem dX8_ballNow_81 : decode cX8_ballNow 81 = .ok (.getfield 29, 3) := by decide +kernel
theorem dX8_ballNow_84 : decode cX8_ballNow 84 = .ok (.iload_n 1, 1) := by decide +kernel
theorem dX8_ballNow_85 : decode cX8_ballNow 85 = .ok (.iaload, 1) := by decide +kernel
theorem dX8_ballNow_86 : decode cX8_ballNow 86 = .ok (.ireturn, 1) := by decide +kernel
theorem dX8_about_0 : decode cX8_about 0 = .ok (.aload_n 0, 1) := by decide +kernel
theorem dX8_about_1 : decode cX8_about 1 = .ok (.iload_n 1, 1) := by decide +kernel
theorem dX8_about_2 : decode cX8_about 2 = .ok (.invokevirtual 123, 3) := by decide +kernel
theorem dX8_about_5 : decode cX8_about 5 = .ok (.ifCond .ne 8, 3) := by decide +kernel
theorem dX8_about_8 : decode cX8_about 8 = .ok (.bipush (-101), 2) := by decide +kernel
theorem dX8_about_10 : decode cX8_about 10 = .ok (.goto 24, 3) := by decide +kernel
theorem dX8_about_13 : decode cX8_about 13 = .ok (.iload_n 2, 1) := by decide +kernel
theorem dX8_about_14 : decode cX8_about 14 = .ok (.iconst 0, 1) := by decide +kernel
theorem dX8_about_15 : decode cX8_about 15 = .ok (.bipush 6, 2) := by decide +kernel
theorem dX8_about_17 : decode cX8_about 17 = .ok (.invokestatic 66, 3) := by decide +kernel
theorem dX8_about_20 : decode cX8_about 20 = .ok (.ifCond .eq 12, 3) := by decide +kernel
theorem dX8_about_23 : decode cX8_about 23 = .ok (.aload_n 0, 1) := by decide +kernel
theorem dX8_about_24 : decode cX8_about 24 = .ok (.iload_n 1, 1) := by decide +kernel
theorem dX8_about_25 : decode cX8_about 25 = .ok (.iload_n 2, 1) := by decide +kernel
theorem dX8_about_26 : decode cX8_about 26 = .ok (.invokevirtual 126, 3) := by decide +kernel
theorem dX8_about_29 : decode cX8_about 29 = .ok (.goto 5, 3) := by decide +kernel
theorem dX8_about_32 : decode cX8_about 32 = .ok (.bipush (-102), 2) := by decide +kernel
theorem dX8_about_34 : decode cX8_about 34 = .ok (.ireturn, 1) := by decide +kernel
theorem dX8_as_0 : decode cX8_as 0 = .ok (.aload_n 0, 1) := by decide +kernel
theorem dX8_as_1 : decode cX8_as 1 = .ok (.iload_n 1, 1) := by decide +kernel
theorem dX8_as_2 : decode cX8_as 2 = .ok (.invokevirtual 123, 3) := by decide +kernel
theorem dX8_as_5 : decode cX8_as 5 = .ok (.ifCond .ne 6, 3) := by decide +kernel
theorem dX8_as_8 : decode cX8_as 8 = .ok (.bipush (-101), 2) := by decide +kernel
theorem dX8_as_10 : decode cX8_as 10 = .ok (.ireturn, 1) := by decide +kernel
theorem dX8_as_11 : decode cX8_as 11 = .ok (.iload_n 2, 1) := by decide +kernel
theorem dX8_as_12 : decode cX8_as 12 = .ok (.iconst 0, 1) := by decide +kernel
theorem dX8_as_13 : decode cX8_as 13 = .ok (.iconst 4, 1) := by decide +kernel
theorem dX8_as_14 : decode cX8_as 14 = .ok (.invokestatic 66, 3) := by decide +kernel
theorem dX8_as_17 : decode cX8_as 17 = .ok (.ifCond .ne 6, 3) := by decide +kernel
theorem dX8_as_20 : decode cX8_as 20 = .ok (.bipush (-102), 2) := by decide +kernel
theorem dX8_as_22 : decode cX8_as 22 = .ok (.ireturn, 1) := by decide +kernel
theorem dX8_as_23 : decode cX8_as 23 = .ok (.aload_n 0, 1) := by decide +kernel
theorem dX8_as_24 : decode cX8_as 24 = .ok (.getfield 17, 3) := by decide +kernel
theorem dX8_as_27 : decode cX8_as 27 = .ok (.iload_n 1, 1) := by decide +kernel
theorem dX8_as_28 : decode cX8_as 28 = .ok (.iaload, 1) := by decide +kernel
theorem dX8_as_29 : decode cX8_as 29 = .ok (.istore_n 3, 1) := by decide +kernel
theorem dX8_as_30 : decode cX8_as 30 = .ok (.iload_n 2, 1) := by decide +kernel
theorem dX8_as_31 : decode cX8_as 31 = .ok (.ifCond .eq 18, 3) := by decide +kernel
theorem dX8_as_34 : decode cX8_as 34 = .ok (.iload_n 3, 1) := by decide +kernel
theorem dX8_as_35 : decode cX8_as 35 = .ok (.iload_n 2, 1) := by decide +kernel
theorem dX8_as_36 : decode cX8_as 36 = .ok (.if_icmp .eq 13, 3) := by decide +kernel
theorem dX8_as_39 : decode cX8_as 39 = .ok (.iload_n 2, 1) := by decide +kernel
theorem dX8_as_40 : decode cX8_as 40 = .ok (.iconst 3, 1) := by decide +kernel
theorem dX8_as_41 : decode cX8_as 41 = .ok (.if_icmp .ne 12, 3) := by decide +kernel
theorem dX8_as_44 : decode cX8_as 44 = .ok (.iload_n 3, 1) := by decide +kernel
theorem dX8_as_45 : decode cX8_as 45 = .ok (.iconst 4, 1) := by decide +kernel
theorem dX8_as_46 : decode cX8_as 46 = .ok (.if_icmp .ne 7, 3) := by decide +kernel
theorem dX8_as_49 : decode cX8_as 49 = .ok (.iload_n 1, 1) := by decide +kernel
theorem dX8_as_50 : decode cX8_as 50 = .ok (.goto 4, 3) := by decide +kernel
theorem dX8_as_53 : decode cX8_as 53 = .ok (.iconst (-1), 1) := by decide +kernel
theorem dX8_as_54 : decode cX8_as 54 = .ok (.ireturn, 1) := by decide +kernel
theorem dX8_beside_0 : decode cX8_beside 0 = .ok (.iload_n 1, 1) := by decide +kernel
theorem dX8_beside_1 : decode cX8_beside 1 = .ok (.tableswitch 69 0 2 #[27, 40, 55], 27) := by decide +kernel
theorem dX8_beside_28 : decode cX8_beside 28 = .ok (.iload_n 0, 1) := by decide +kernel
theorem dX8_beside_29 : decode cX8_beside 29 = .ok (.iconst 5, 1) := by decide +kernel
theorem dX8_beside_30 : decode cX8_beside 30 = .ok (.if_icmp .lt 9, 3) := by decide +kernel
theorem dX8_beside_33 : decode cX8_beside 33 = .ok (.iload_n 0, 1) := by decide +kernel
theorem dX8_beside_34 : decode cX8_beside 34 = .ok (.iconst 5, 1) := by decide +kernel
theorem dX8_beside_35 : decode cX8_beside 35 = .ok (.isub, 1) := by decide +kernel
theorem dX8_beside_36 : decode cX8_beside 36 = .ok (.goto 4, 3) := by decide +kernel
theorem dX8_beside_39 : decode cX8_beside 39 = .ok (.iconst (-1), 1) := by decide +kernel
theorem dX8_beside_40 : decode cX8_beside 40 = .ok (.ireturn, 1) := by decide +kernel
theorem dX8_beside_41 : decode cX8_beside 41 = .ok (.iload_n 0, 1) := by decide +kernel
theorem dX8_beside_42 : decode cX8_beside 42 = .ok (.iconst 5, 1) := by decide +kernel
theorem dX8_beside_43 : decode cX8_beside 43 = .ok (.irem, 1) := by decide +kernel
theorem dX8_beside_44 : decode cX8_beside 44 = .ok (.iconst 4, 1) := by decide +kernel
theorem dX8_beside_45 : decode cX8_beside 45 = .ok (.if_icmp .ge 9, 3) := by decide +kernel
theorem dX8_beside_48 : decode cX8_beside 48 = .ok (.iload_n 0, 1) := by decide +kernel
theorem dX8_beside_49 : decode cX8_beside 49 = .ok (.iconst 1, 1) := by decide +kernel
theorem dX8_beside_50 : decode cX8_beside 50 = .ok (.iadd, 1) := by decide +kernel
theorem dX8_beside_51 : decode cX8_beside 51 = .ok (.goto 4, 3) := by decide +kernel
theorem dX8_beside_54 : decode cX8_beside 54 = .ok (.iconst (-1), 1) := by decide +kernel
theorem dX8_beside_55 : decode cX8_beside 55 = .ok (.ireturn, 1) := by decide +kernel
theorem dX8_beside_56 : decode cX8_beside 56 = .ok (.iload_n 0, 1) := by decide +kernel
theorem dX8_beside_57 : decode cX8_beside 57 = .ok (.bipush 15, 2) := by decide +kernel
theorem dX8_beside_59 : decode cX8_beside 59 = .ok (.if_icmp .ge 9, 3) := by decide +kernel
theorem dX8_beside_62 : decode cX8_beside 62 = .ok (.iload_n 0, 1) := by decide +kernel
theorem dX8_beside_63 : decode cX8_beside 63 = .ok (.iconst 5, 1) := by decide +kernel
theorem dX8_beside_64 : decode cX8_beside 64 = .ok (.iadd, 1) := by decide +kernel
theorem dX8_beside_65 : decode cX8_beside 65 = .ok (.goto 4, 3) := by decide +kernel
theorem dX8_beside_68 : decode cX8_beside 68 = .ok (.iconst (-1), 1) := by decide +kernel
theorem dX8_beside_69 : decode cX8_beside 69 = .ok (.ireturn, 1) := by decide +kernel
theorem dX8_beside_70 : decode cX8_beside 70 = .ok (.iload_n 0, 1) := by decide +kernel
theorem dX8_beside_71 : decode cX8_beside 71 = .ok (.iconst 5, 1) := by decide +kernel
theorem dX8_beside_72 : decode cX8_beside 72 = .ok (.irem, 1) := by decide +kernel
theorem dX8_beside_73 : decode cX8_beside 73 = .ok (.ifCond .le 9, 3) := by decide +kernel
theorem dX8_beside_76 : decode cX8_beside 76 = .ok (.iload_n 0, 1) := by decide +kernel
theorem dX8_beside_77 : decode cX8_beside 77 = .ok (.iconst 1, 1) := by decide +kernel
theorem dX8_beside_78 : decode cX8_beside 78 = .ok (.isub, 1) := by decide +kernel
theorem dX8_beside_79 : decode cX8_beside 79 = .ok (.goto 4, 3) := by decide +kernel
theorem dX8_beside_82 : decode cX8_beside 82 = .ok (.iconst (-1), 1) := by decide +kernel
theorem dX8_beside_83 : decode cX8_beside 83 = .ok (.ireturn, 1) := by decide +kernel
theorem dX8_above_0 : decode cX8_above 0 = .ok (.iconst (-1), 1) := by decide +kernel
theorem dX8_above_1 : decode cX8_above 1 = .ok (.istore_n 2, 1) := by decide +kernel
theorem dX8_above_2 : decode cX8_above 2 = .ok (.iconst 0, 1) := by decide +kernel
theorem dX8_above_3 : decode cX8_above 3 = .ok (.istore_n 3, 1) := by decide +kernel
theorem dX8_above_4 : decode cX8_above 4 = .ok (.iload_n 3, 1) := by decide +kernel
theorem dX8_above_5 : decode cX8_above 5 = .ok (.aload_n 0, 1) := by decide +kernel
theorem dX8_above_6 : decode cX8_above 6 = .ok (.getfield 92, 3) := by decide +kernel
theorem dX8_above_9 : decode cX8_above 9 = .ok (.if_icmp .ge 35, 3) := by decide +kernel
theorem dX8_above_12 : decode cX8_above 12 = .ok (.aload_n 0, 1) := by decide +kernel
theorem dX8_above_13 : decode cX8_above 13 = .ok (.getfield 26, 3) := by decide +kernel
theorem dX8_above_16 : decode cX8_above 16 = .ok (.iload_n 3, 1) := by decide +kernel
theorem dX8_above_17 : decode cX8_above 17 = .ok (.iaload, 1) := by decide +kernel
theorem dX8_above_18 : decode cX8_above 18 = .ok (.iload_n 1, 1) := by decide +kernel
theorem dX8_above_19 : decode cX8_above 19 = .ok (.if_icmp .ne 17, 3) := by decide +kernel
theorem dX8_above_22 : decode cX8_above 22 = .ok (.aload_n 0, 1) := by decide +kernel
theorem dX8_above_23 : decode cX8_above 23 = .ok (.getfield 23, 3) := by decide +kernel
theorem dX8_above_26 : decode cX8_above 26 = .ok (.iload_n 3, 1) := by decide +kernel
theorem dX8_above_27 : decode cX8_above 27 = .ok (.iaload, 1) := by decide +kernel
theorem dX8_above_28 : decode cX8_above 28 = .ok (.iconst (-1), 1) := by decide +kernel
theorem dX8_above_29 : decode cX8_above 29 = .ok (.if_icmp .eq 7, 3) := by decide +kernel
theorem dX8_above_32 : decode cX8_above 32 = .ok (.iload_n 3, 1) := by decide +kernel
theorem dX8_above_33 : decode cX8_above 33 = .ok (.goto 4, 3) := by decide +kernel
theorem dX8_above_36 : decode cX8_above 36 = .ok (.iload_n 2, 1) := by decide +kernel
theorem dX8_above_37 : decode cX8_above 37 = .ok (.istore_n 2, 1) := by decide +kernel
theorem dX8_above_38 : decode cX8_above 38 = .ok (.iinc 3 1, 3) := by decide +kernel
theorem dX8_above_41 : decode cX8_above 41 = .ok (.goto (-37), 3) := by decide +kernel
theorem dX8_above_44 : decode cX8_above 44 = .ok (.iload_n 2, 1) := by decide +kernel
theorem dX8_above_45 : decode cX8_above 45 = .ok (.ireturn, 1) := by decide +kernel
theorem dX8_isFree_0 : decode cX8_isFree 0 = .ok (.aload_n 0, 1) := by decide +kernel
theorem dX8_isFree_1 : decode cX8_isFree 1 = .ok (.getfield 23, 3) := by decide +kernel
theorem dX8_isFree_4 : decode cX8_isFree 4 = .ok (.iload_n 1, 1) := by decide +kernel
theorem dX8_isFree_5 : decode cX8_isFree 5 = .ok (.iaload, 1) := by decide +kernel
theorem dX8_isFree_6 : decode cX8_isFree 6 = .ok (.iconst (-1), 1) := by decide +kernel
theorem dX8_isFree_7 : decode cX8_isFree 7 = .ok (.if_icmp .eq 26, 3) := by decide +kernel
theorem dX8_isFree_10 : decode cX8_isFree 10 = .ok (.aload_n 0, 1) := by decide +kernel
theorem dX8_isFree_11 : decode cX8_isFree 11 = .ok (.getfield 26, 3) := by decide +kernel
theorem dX8_isFree_14 : decode cX8_isFree 14 = .ok (.iload_n 1, 1) := by decide +kernel
theorem dX8_isFree_15 : decode cX8_isFree 15 = .ok (.iaload, 1) := by decide +kernel
theorem dX8_isFree_16 : decode cX8_isFree 16 = .ok (.iconst (-1), 1) := by decide +kernel
theorem dX8_isFree_17 : decode cX8_isFree 17 = .ok (.if_icmp .ne 16, 3) := by decide +kernel
theorem dX8_isFree_20 : decode cX8_isFree 20 = .ok (.aload_n 0, 1) := by decide +kernel
theorem dX8_isFree_21 : decode cX8_isFree 21 = .ok (.iload_n 1, 1) := by decide +kernel
theorem dX8_isFree_22 : decode cX8_isFree 22 = .ok (.invokevirtual 130, 3) := by decide +kernel
theorem dX8_isFree_25 : decode cX8_isFree 25 = .ok (.iconst (-1), 1) := by decide +kernel
theorem dX8_isFree_26 : decode cX8_isFree 26 = .ok (.if_icmp .ne 7, 3) := by decide +kernel
theorem dX8_isFree_29 : decode cX8_isFree 29 = .ok (.iconst 1, 1) := by decide +kernel
theorem dX8_isFree_30 : decode cX8_isFree 30 = .ok (.goto 4, 3) := by decide +kernel
theorem dX8_isFree_33 : decode cX8_isFree 33 = .ok (.iconst 0, 1) := by decide +kernel
theorem dX8_isFree_34 : decode cX8_isFree 34 = .ok (.ireturn, 1) := by decide +kernel
theorem dX8_mayRoll_0 : decode cX8_mayRoll 0 = .ok (.aload_n 0, 1) := by decide +kernel
theorem dX8_mayRoll_1 : decode cX8_mayRoll 1 = .ok (.iload_n 1, 1) := by decide +kernel
theorem dX8_mayRoll_2 : decode cX8_mayRoll 2 = .ok (.invokevirtual 133, 3) := by decide +kernel
theorem dX8_mayRoll_5 : decode cX8_mayRoll 5 = .ok (.ifCond .eq 15, 3) := by decide +kernel
theorem dX8_mayRoll_8 : decode cX8_mayRoll 8 = .ok (.aload_n 0, 1) := by decide +kernel
theorem dX8_mayRoll_9 : decode cX8_mayRoll 9 = .ok (.iload_n 1, 1) := by decide +kernel
theorem dX8_mayRoll_10 : decode cX8_mayRoll 10 = .ok (.invokevirtual 117, 3) := by decide +kernel
theorem dX8_mayRoll_13 : decode cX8_mayRoll 13 = .ok (.aload_n 0, 1) := by decide +kernel
theorem dX8_mayRoll_14 : decode cX8_mayRoll 14 = .ok (.getfield 13, 3) := by decide +kernel
theorem dX8_mayRoll_17 : decode cX8_mayRoll 17 = .ok (.if_icmp .le 5, 3) := by decide +kernel
theorem dX8_mayRoll_20 : decode cX8_mayRoll 20 = .ok (.iconst 0, 1) := by decide +kernel
theorem dX8_mayRoll_21 : decode cX8_mayRoll 21 = .ok (.ireturn, 1) := by decide +kernel
theorem dX8_mayRoll_22 : decode cX8_mayRoll 22 = .ok (.aload_n 0, 1) := by decide +kernel
theorem dX8_mayRoll_23 : decode cX8_mayRoll 23 = .ok (.getfield 23, 3) := by decide +kernel
theorem dX8_mayRoll_26 : decode cX8_mayRoll 26 = .ok (.iload_n 1, 1) := by decide +kernel
theorem dX8_mayRoll_27 : decode cX8_mayRoll 27 = .ok (.iaload, 1) := by decide +kernel
theorem dX8_mayRoll_28 : decode cX8_mayRoll 28 = .ok (.iload_n 2, 1) := by decide +kernel
theorem dX8_mayRoll_29 : decode cX8_mayRoll 29 = .ok (.invokestatic 136, 3) := by decide +kernel
theorem dX8_mayRoll_32 : decode cX8_mayRoll 32 = .ok (.istore_n 3, 1) := by decide +kernel
theorem dX8_mayRoll_33 : decode cX8_mayRoll 33 = .ok (.aload_n 0, 1) := by decide +kernel
theorem dX8_mayRoll_34 : decode cX8_mayRoll 34 = .ok (.getfield 17, 3) := by decide +kernel
theorem dX8_mayRoll_37 : decode cX8_mayRoll 37 = .ok (.iload_n 1, 1) := by decide +kernel
theorem dX8_mayRoll_38 : decode cX8_mayRoll 38 = .ok (.iaload, 1) := by decide +kernel
theorem dX8_mayRoll_39 : decode cX8_mayRoll 39 = .ok (.iconst 1, 1) := by decide +kernel
theorem dX8_mayRoll_40 : decode cX8_mayRoll 40 = .ok (.if_icmp .ne 25, 3) := by decide +kernel
theorem dX8_mayRoll_43 : decode cX8_mayRoll 43 = .ok (.aload_n 0, 1) := by decide +kernel
theorem dX8_mayRoll_44 : decode cX8_mayRoll 44 = .ok (.getfield 29, 3) := by decide +kernel
theorem dX8_mayRoll_47 : decode cX8_mayRoll 47 = .ok (.iload_n 1, 1) := by decide +kernel
theorem dX8_mayRoll_48 : decode cX8_mayRoll 48 = .ok (.iaload, 1) := by decide +kernel
theorem dX8_mayRoll_49 : decode cX8_mayRoll 49 = .ok (.iconst (-1), 1) := by decide +kernel
theorem dX8_mayRoll_50 : decode cX8_mayRoll 50 = .ok (.if_icmp .eq 15, 3) := by decide +kernel
theorem dX8_mayRoll_53 : decode cX8_mayRoll 53 = .ok (.aload_n 0, 1) := by decide +kernel
theorem dX8_mayRoll_54 : decode cX8_mayRoll 54 = .ok (.getfield 29, 3) := by decide +kernel
theorem dX8_mayRoll_57 : decode cX8_mayRoll 57 = .ok (.iload_n 1, 1) := by decide +kernel
theorem dX8_mayRoll_58 : decode cX8_mayRoll 58 = .ok (.iaload, 1) := by decide +kernel
theorem dX8_mayRoll_59 : decode cX8_mayRoll 59 = .ok (.iload_n 2, 1) := by decide +kernel
theorem dX8_mayRoll_60 : decode cX8_mayRoll 60 = .ok (.iconst 2, 1) := by decide +kernel
theorem dX8_mayRoll_61 : decode cX8_mayRoll 61 = .ok (.irem, 1) := by decide +kernel
theorem dX8_mayRoll_62 : decode cX8_mayRoll 62 = .ok (.if_icmp .ne 7, 3) := by decide +kernel
theorem dX8_mayRoll_65 : decode cX8_mayRoll 65 = .ok (.iconst 1, 1) := by decide +kernel
theorem dX8_mayRoll_66 : decode cX8_mayRoll 66 = .ok (.goto 4, 3) := by decide +kernel
theorem dX8_mayRoll_69 : decode cX8_mayRoll 69 = .ok (.iconst 0, 1) := by decide +kernel
theorem dX8_mayRoll_70 : decode cX8_mayRoll 70 = .ok (.istore 4, 2) := by decide +kernel
theorem dX8_mayRoll_72 : decode cX8_mayRoll 72 = .ok (.iload_n 3, 1) := by decide +kernel
theorem dX8_mayRoll_73 : decode cX8_mayRoll 73 = .ok (.iconst (-1), 1) := by decide +kernel
theorem dX8_mayRoll_74 : decode cX8_mayRoll 74 = .ok (.if_icmp .eq 21, 3) := by decide +kernel
theorem dX8_mayRoll_77 : decode cX8_mayRoll 77 = .ok (.aload_n 0, 1) := by decide +kernel
theorem dX8_mayRoll_78 : decode cX8_mayRoll 78 = .ok (.iload_n 3, 1) := by decide +kernel
theorem dX8_mayRoll_79 : decode cX8_mayRoll 79 = .ok (.invokevirtual 107, 3) := by decide +kernel
theorem dX8_mayRoll_82 : decode cX8_mayRoll 82 = .ok (.iconst (-1), 1) := by decide +kernel
theorem dX8_mayRoll_83 : decode cX8_mayRoll 83 = .ok (.if_icmp .ne 12, 3) := by decide +kernel
theorem dX8_mayRoll_86 : decode cX8_mayRoll 86 = .ok (.iload 4, 2) := by decide +kernel
theorem dX8_mayRoll_88 : decode cX8_mayRoll 88 = .ok (.ifCond .eq 7, 3) := by decide +kernel
theorem dX8_mayRoll_91 : decode cX8_mayRoll 91 = .ok (.iconst 1, 1) := by decide +kernel
theorem dX8_mayRoll_92 : decode cX8_mayRoll 92 = .ok (.goto 4, 3) := by decide +kernel
theorem dX8_mayRoll_95 : decode cX8_mayRoll 95 = .ok (.iconst 0, 1) := by decide +kernel
theorem dX8_mayRoll_96 : decode cX8_mayRoll 96 = .ok (.ireturn, 1) := by decide +kernel
theorem dX8_doRoll_0 : decode cX8_doRoll 0 = .ok (.aload_n 0, 1) := by decide +kernel
theorem dX8_doRoll_1 : decode cX8_doRoll 1 = .ok (.getfield 23, 3) := by decide +kernel
theorem dX8_doRoll_4 : decode cX8_doRoll 4 = .ok (.iload_n 1, 1) := by decide +kernel
theorem dX8_doRoll_5 : decode cX8_doRoll 5 = .ok (.iaload, 1) := by decide +kernel
theorem dX8_doRoll_6 : decode cX8_doRoll 6 = .ok (.iload_n 2, 1) := by decide +kernel
theorem dX8_doRoll_7 : decode cX8_doRoll 7 = .ok (.invokestatic 136, 3) := by decide +kernel
theorem dX8_doRoll_10 : decode cX8_doRoll 10 = .ok (.istore_n 3, 1) := by decide +kernel
theorem dX8_doRoll_11 : decode cX8_doRoll 11 = .ok (.aload_n 0, 1) := by decide +kernel
theorem dX8_doRoll_12 : decode cX8_doRoll 12 = .ok (.iload_n 1, 1) := by decide +kernel
theorem dX8_doRoll_13 : decode cX8_doRoll 13 = .ok (.invokevirtual 120, 3) := by decide +kernel
theorem dX8_doRoll_16 : decode cX8_doRoll 16 = .ok (.aload_n 0, 1) := by decide +kernel
theorem dX8_doRoll_17 : decode cX8_doRoll 17 = .ok (.getfield 7, 3) := by decide +kernel
theorem dX8_doRoll_20 : decode cX8_doRoll 20 = .ok (.iload_n 3, 1) := by decide +kernel
theorem dX8_doRoll_21 : decode cX8_doRoll 21 = .ok (.iaload, 1) := by decide +kernel
theorem dX8_doRoll_22 : decode cX8_doRoll 22 = .ok (.if_icmp .ge 11, 3) := by decide +kernel
theorem dX8_doRoll_25 : decode cX8_doRoll 25 = .ok (.aload_n 0, 1) := by decide +kernel
theorem dX8_doRoll_26 : decode cX8_doRoll 26 = .ok (.iload_n 1, 1) := by decide +kernel
theorem dX8_doRoll_27 : decode cX8_doRoll 27 = .ok (.invokevirtual 120, 3) := by decide +kernel
theorem dX8_doRoll_30 : decode cX8_doRoll 30 = .ok (.goto 9, 3) := by decide +kernel
theorem dX8_doRoll_33 : decode cX8_doRoll 33 = .ok (.aload_n 0, 1) := by decide +kernel
theorem dX8_doRoll_34 : decode cX8_doRoll 34 = .ok (.getfield 7, 3) := by decide +kernel
theorem dX8_doRoll_37 : decode cX8_doRoll 37 = .ok (.iload_n 3, 1) := by decide +kernel
theorem dX8_doRoll_38 : decode cX8_doRoll 38 = .ok (.iaload, 1) := by decide +kernel
theorem dX8_doRoll_39 : decode cX8_doRoll 39 = .ok (.istore 4, 2) := by decide +kernel
theorem dX8_doRoll_41 : decode cX8_doRoll 41 = .ok (.aload_n 0, 1) := by decide +kernel
theorem dX8_doRoll_42 : decode cX8_doRoll 42 = .ok (.getfield 17, 3) := by decide +kernel
theorem dX8_doRoll_45 : decode cX8_doRoll 45 = .ok (.iload_n 1, 1) := by decide +kernel
theorem dX8_doRoll_46 : decode cX8_doRoll 46 = .ok (.iaload, 1) := by decide +kernel
theorem dX8_doRoll_47 : decode cX8_doRoll 47 = .ok (.iconst 2, 1) := by decide +kernel
theorem dX8_doRoll_48 : decode cX8_doRoll 48 = .ok (.if_icmp .eq 21, 3) := by decide +kernel
theorem dX8_doRoll_51 : decode cX8_doRoll 51 = .ok (.aload_n 0, 1) := by decide +kernel
theorem dX8_doRoll_52 : decode cX8_doRoll 52 = .ok (.getfield 17, 3) := by decide +kernel
theorem dX8_doRoll_55 : decode cX8_doRoll 55 = .ok (.iload_n 1, 1) := by decide +kernel
theorem dX8_doRoll_56 : decode cX8_doRoll 56 = .ok (.iaload, 1) := by decide +kernel
theorem dX8_doRoll_57 : decode cX8_doRoll 57 = .ok (.iconst 2, 1) := by decide +kernel
theorem dX8_doRoll_58 : decode cX8_doRoll 58 = .ok (.if_icmp .ge 15, 3) := by decide +kernel
theorem dX8_doRoll_61 : decode cX8_doRoll 61 = .ok (.aload_n 0, 1) := by decide +kernel
theorem dX8_doRoll_62 : decode cX8_doRoll 62 = .ok (.getfield 79, 3) := by decide +kernel
theorem dX8_doRoll_65 : decode cX8_doRoll 65 = .ok (.iconst 4, 1) := by decide +kernel
theorem dX8_doRoll_66 : decode cX8_doRoll 66 = .ok (.if_icmp .ge 7, 3) := by decide +kernel
theorem dX8_doRoll_69 : decode cX8_doRoll 69 = .ok (.iconst 1, 1) := by decide +kernel
theorem dX8_doRoll_70 : decode cX8_doRoll 70 = .ok (.goto 4, 3) := by decide +kernel
theorem dX8_doRoll_73 : decode cX8_doRoll 73 = .ok (.iconst 0, 1) := by decide +kernel
theorem dX8_doRoll_74 : decode cX8_doRoll 74 = .ok (.istore 5, 2) := by decide +kernel
theorem dX8_doRoll_76 : decode cX8_doRoll 76 = .ok (.iload 5, 2) := by decide +kernel
theorem dX8_doRoll_78 : decode cX8_doRoll 78 = .ok (.ifCond .eq 12, 3) := by decide +kernel
theorem dX8_doRoll_81 : decode cX8_doRoll 81 = .ok (.iload 4, 2) := by decide +kernel
theorem dX8_doRoll_83 : decode cX8_doRoll 83 = .ok (.iconst 1, 1) := by decide +kernel
theorem dX8_doRoll_84 : decode cX8_doRoll 84 = .ok (.iadd, 1) := by decide +kernel
theorem dX8_doRoll_85 : decode cX8_doRoll 85 = .ok (.iconst 2, 1) := by decide +kernel
theorem dX8_doRoll_86 : decode cX8_doRoll 86 = .ok (.idiv, 1) := by decide +kernel
theorem dX8_doRoll_87 : decode cX8_doRoll 87 = .ok (.goto 5, 3) := by decide +kernel
theorem dX8_doRoll_90 : decode cX8_doRoll 90 = .ok (.iload 4, 2) := by decide +kernel
theorem dX8_doRoll_92 : decode cX8_doRoll 92 = .ok (.istore 6, 2) := by decide +kernel
theorem dX8_doRoll_94 : decode cX8_doRoll 94 = .ok (.aload_n 0, 1) := by decide +kernel
theorem dX8_doRoll_95 : decode cX8_doRoll 95 = .ok (.getfield 7, 3) := by decide +kernel
theorem dX8_doRoll_98 : decode cX8_doRoll 98 = .ok (.iload_n 3, 1) := by decide +kernel
theorem dX8_doRoll_99 : decode cX8_doRoll 99 = .ok (.dup2, 1) := by decide +kernel
theorem dX8_doRoll_100 : decode cX8_doRoll 100 = .ok (.iaload, 1) := by decide +kernel
theorem dX8_doRoll_101 : decode cX8_doRoll 101 = .ok (.iload 6, 2) := by decide +kernel
theorem dX8_doRoll_103 : decode cX8_doRoll 103 = .ok (.isub, 1) := by decide +kernel
theorem dX8_doRoll_104 : decode cX8_doRoll 104 = .ok (.iastore, 1) := by decide +kernel
theorem dX8_doRoll_105 : decode cX8_doRoll 105 = .ok (.aload_n 0, 1) := by decide +kernel
theorem dX8_doRoll_106 : decode cX8_doRoll 106 = .ok (.getfield 20, 3) := by decide +kernel
theorem dX8_doRoll_109 : decode cX8_doRoll 109 = .ok (.iload_n 1, 1) := by decide +kernel
theorem dX8_doRoll_110 : decode cX8_doRoll 110 = .ok (.dup2, 1) := by decide +kernel
theorem dX8_doRoll_111 : decode cX8_doRoll 111 = .ok (.iaload, 1) := by decide +kernel
theorem dX8_doRoll_112 : decode cX8_doRoll 112 = .ok (.iload 6, 2) := by decide +kernel
theorem dX8_doRoll_114 : decode cX8_doRoll 114 = .ok (.iadd, 1) := by decide +kernel
theorem dX8_doRoll_115 : decode cX8_doRoll 115 = .ok (.iastore, 1) := by decide +kernel
theorem dX8_doRoll_116 : decode cX8_doRoll 116 = .ok (.aload_n 0, 1) := by decide +kernel
theorem dX8_doRoll_117 : decode cX8_doRoll 117 = .ok (.getfield 23, 3) := by decide +kernel
theorem dX8_doRoll_120 : decode cX8_doRoll 120 = .ok (.iload_n 1, 1) := by decide +kernel
theorem dX8_doRoll_121 : decode cX8_doRoll 121 = .ok (.iload_n 3, 1) := by decide +kernel
theorem dX8_doRoll_122 : decode cX8_doRoll 122 = .ok (.iastore, 1) := by decide +kernel
theorem dX8_doRoll_123 : decode cX8_doRoll 123 = .ok (.aload_n 0, 1) := by decide +kernel
theorem dX8_doRoll_124 : decode cX8_doRoll 124 = .ok (.getfield 29, 3) := by decide +kernel
theorem dX8_doRoll_127 : decode cX8_doRoll 127 = .ok (.iload_n 1, 1) := by decide +kernel
theorem dX8_doRoll_128 : decode cX8_doRoll 128 = .ok (.aload_n 0, 1) := by decide +kernel
theorem dX8_doRoll_129 : decode cX8_doRoll 129 = .ok (.getfield 17, 3) := by decide +kernel
theorem dX8_doRoll_132 : decode cX8_doRoll 132 = .ok (.iload_n 1, 1) := by decide +kernel
theorem dX8_doRoll_133 : decode cX8_doRoll 133 = .ok (.iaload, 1) := by decide +kernel
theorem dX8_doRoll_134 : decode cX8_doRoll 134 = .ok (.iconst 1, 1) := by decide +kernel
theorem dX8_doRoll_135 : decode cX8_doRoll 135 = .ok (.if_icmp .ne 9, 3) := by decide +kernel
theorem dX8_doRoll_138 : decode cX8_doRoll 138 = .ok (.iload_n 2, 1) := by decide +kernel
theorem dX8_doRoll_139 : decode cX8_doRoll 139 = .ok (.iconst 2, 1) := by decide +kernel
theorem dX8_doRoll_140 : decode cX8_doRoll 140 = .ok (.irem, 1) := by decide +kernel
theorem dX8_doRoll_141 : decode cX8_doRoll 141 = .ok (.goto 4, 3) := by decide +kernel
theorem dX8_doRoll_144 : decode cX8_doRoll 144 = .ok (.iconst (-1), 1) := by decide +kernel
theorem dX8_doRoll_145 : decode cX8_doRoll 145 = .ok (.iastore, 1) := by decide +kernel
theorem dX8_doRoll_146 : decode cX8_doRoll 146 = .ok (.aload_n 0, 1) := by decide +kernel
theorem dX8_doRoll_147 : decode cX8_doRoll 147 = .ok (.getfield 17, 3) := by decide +kernel
theorem dX8_doRoll_150 : decode cX8_doRoll 150 = .ok (.iload_n 1, 1) := by decide +kernel
theorem dX8_doRoll_151 : decode cX8_doRoll 151 = .ok (.iaload, 1) := by decide +kernel
theorem dX8_doRoll_152 : decode cX8_doRoll 152 = .ok (.iconst 2, 1) := by decide +kernel
theorem dX8_doRoll_153 : decode cX8_doRoll 153 = .ok (.if_icmp .ne 28, 3) := by decide +kernel
theorem dX8_doRoll_156 : decode cX8_doRoll 156 = .ok (.aload_n 0, 1) := by decide +kernel
theorem dX8_doRoll_157 : decode cX8_doRoll 157 = .ok (.getfield 20, 3) := by decide +kernel
theorem dX8_doRoll_160 : decode cX8_doRoll 160 = .ok (.iload_n 1, 1) := by decide +kernel
theorem dX8_doRoll_161 : decode cX8_doRoll 161 = .ok (.iaload, 1) := by decide +kernel
theorem dX8_doRoll_162 : decode cX8_doRoll 162 = .ok (.bipush 20, 2) := by decide +kernel
theorem dX8_doRoll_164 : decode cX8_doRoll 164 = .ok (.if_icmp .le 17, 3) := by decide +kernel
theorem dX8_doRoll_167 : decode cX8_doRoll 167 = .ok (.aload_n 0, 1) := by decide +kernel
theorem dX8_doRoll_168 : decode cX8_doRoll 168 = .ok (.getfield 20, 3) := by decide +kernel
theorem dX8_doRoll_171 : decode cX8_doRoll 171 = .ok (.iload_n 1, 1) := by decide +kernel
theorem dX8_doRoll_172 : decode cX8_doRoll 172 = .ok (.iconst 0, 1) := by decide +kernel
theorem dX8_doRoll_173 : decode cX8_doRoll 173 = .ok (.iastore, 1) := by decide +kernel
theorem dX8_doRoll_174 : decode cX8_doRoll 174 = .ok (.aload_n 0, 1) := by decide +kernel
theorem dX8_doRoll_175 : decode cX8_doRoll 175 = .ok (.getfield 23, 3) := by decide +kernel
theorem dX8_doRoll_178 : decode cX8_doRoll 178 = .ok (.iload_n 1, 1) := by decide +kernel
theorem dX8_doRoll_179 : decode cX8_doRoll 179 = .ok (.iconst (-1), 1) := by decide +kernel
theorem dX8_doRoll_180 : decode cX8_doRoll 180 = .ok (.iastore, 1) := by decide +kernel
theorem dX8_doRoll_181 : decode cX8_doRoll 181 = .ok (.return_, 1) := by decide +kernel
theorem dX8_may_0 : decode cX8_may 0 = .ok (.aload_n 0, 1) := by decide +kernel
theorem dX8_may_1 : decode cX8_may 1 = .ok (.iload_n 1, 1) := by decide +kernel
theorem dX8_may_2 : decode cX8_may 2 = .ok (.invokevirtual 123, 3) := by decide +kernel
theorem dX8_may_5 : decode cX8_may 5 = .ok (.ifCond .ne 6, 3) := by decide +kernel
theorem dX8_may_8 : decode cX8_may 8 = .ok (.bipush (-101), 2) := by decide +kernel
theorem dX8_may_10 : decode cX8_may 10 = .ok (.ireturn, 1) := by decide +kernel
theorem dX8_may_11 : decode cX8_may 11 = .ok (.iload_n 2, 1) := by decide +kernel
theorem dX8_may_12 : decode cX8_may 12 = .ok (.iconst 0, 1) := by decide +kernel
theorem dX8_may_13 : decode cX8_may 13 = .ok (.iconst 3, 1) := by decide +kernel
theorem dX8_may_14 : decode cX8_may 14 = .ok (.invokestatic 66, 3) := by decide +kernel
theorem dX8_may_17 : decode cX8_may 17 = .ok (.ifCond .ne 8, 3) := by decide +kernel
theorem dX8_may_20 : decode cX8_may 20 = .ok (.bipush (-102), 2) := by decide +kernel
theorem dX8_may_22 : decode cX8_may 22 = .ok (.goto 17, 3) := by decide +kernel
theorem dX8_may_25 : decode cX8_may 25 = .ok (.aload_n 0, 1) := by decide +kernel
theorem dX8_may_26 : decode cX8_may 26 = .ok (.iload_n 1, 1) := by decide +kernel
theorem dX8_may_27 : decode cX8_may 27 = .ok (.iload_n 2, 1) := by decide +kernel
theorem dX8_may_28 : decode cX8_may 28 = .ok (.invokevirtual 139, 3) := by decide +kernel
theorem dX8_may_31 : decode cX8_may 31 = .ok (.ifCond .eq 7, 3) := by decide +kernel
theorem dX8_may_34 : decode cX8_may 34 = .ok (.iconst 1, 1) := by decide +kernel
theorem dX8_may_35 : decode cX8_may 35 = .ok (.goto 4, 3) := by decide +kernel
theorem dX8_may_38 : decode cX8_may 38 = .ok (.iconst 0, 1) := by decide +kernel
theorem dX8_may_39 : decode cX8_may 39 = .ok (.ireturn, 1) := by decide +kernel
theorem dX8_roll_0 : decode cX8_roll 0 = .ok (.aload_n 0, 1) := by decide +kernel
theorem dX8_roll_1 : decode cX8_roll 1 = .ok (.iload_n 1, 1) := by decide +kernel
theorem dX8_roll_2 : decode cX8_roll 2 = .ok (.invokevirtual 123, 3) := by decide +kernel
theorem dX8_roll_5 : decode cX8_roll 5 = .ok (.ifCond .ne 6, 3) := by decide +kernel
theorem dX8_roll_8 : decode cX8_roll 8 = .ok (.bipush (-101), 2) := by decide +kernel
theorem dX8_roll_10 : decode cX8_roll 10 = .ok (.ireturn, 1) := by decide +kernel
theorem dX8_roll_11 : decode cX8_roll 11 = .ok (.iload_n 2, 1) := by decide +kernel
theorem dX8_roll_12 : decode cX8_roll 12 = .ok (.iconst 0, 1) := by decide +kernel
theorem dX8_roll_13 : decode cX8_roll 13 = .ok (.iconst 3, 1) := by decide +kernel
theorem dX8_roll_14 : decode cX8_roll 14 = .ok (.invokestatic 66, 3) := by decide +kernel
theorem dX8_roll_17 : decode cX8_roll 17 = .ok (.ifCond .ne 6, 3) := by decide +kernel
theorem dX8_roll_20 : decode cX8_roll 20 = .ok (.bipush (-102), 2) := by decide +kernel
theorem dX8_roll_22 : decode cX8_roll 22 = .ok (.ireturn, 1) := by decide +kernel
theorem dX8_roll_23 : decode cX8_roll 23 = .ok (.aload_n 0, 1) := by decide +kernel
theorem dX8_roll_24 : decode cX8_roll 24 = .ok (.iload_n 1, 1) := by decide +kernel
theorem dX8_roll_25 : decode cX8_roll 25 = .ok (.iload_n 2, 1) := by decide +kernel
theorem dX8_roll_26 : decode cX8_roll 26 = .ok (.invokevirtual 139, 3) := by decide +kernel
theorem dX8_roll_29 : decode cX8_roll 29 = .ok (.ifCond .ne 6, 3) := by decide +kernel
theorem dX8_roll_32 : decode cX8_roll 32 = .ok (.bipush (-103), 2) := by decide +kernel
theorem dX8_roll_34 : decode cX8_roll 34 = .ok (.ireturn, 1) := by decide +kernel
theorem dX8_roll_35 : decode cX8_roll 35 = .ok (.aload_n 0, 1) := by decide +kernel
theorem dX8_roll_36 : decode cX8_roll 36 = .ok (.iload_n 1, 1) := by decide +kernel
theorem dX8_roll_37 : decode cX8_roll 37 = .ok (.iload_n 2, 1) := by decide +kernel
theorem dX8_roll_38 : decode cX8_roll 38 = .ok (.invokevirtual 143, 3) := by decide +kernel
theorem dX8_roll_41 : decode cX8_roll 41 = .ok (.aload_n 0, 1) := by decide +kernel
theorem dX8_roll_42 : decode cX8_roll 42 = .ok (.getfield 20, 3) := by decide +kernel
theorem dX8_roll_45 : decode cX8_roll 45 = .ok (.iload_n 1, 1) := by decide +kernel
theorem dX8_roll_46 : decode cX8_roll 46 = .ok (.iaload, 1) := by decide +kernel
theorem dX8_roll_47 : decode cX8_roll 47 = .ok (.ireturn, 1) := by decide +kernel
theorem dX8_areBeside_0 : decode cX8_areBeside 0 = .ok (.iconst 0, 1) := by decide +kernel
theorem dX8_areBeside_1 : decode cX8_areBeside 1 = .ok (.istore_n 2, 1) := by decide +kernel
theorem dX8_areBeside_2 : decode cX8_areBeside 2 = .ok (.iconst 0, 1) := by decide +kernel
theorem dX8_areBeside_3 : decode cX8_areBeside 3 = .ok (.istore_n 3, 1) := by decide +kernel
theorem dX8_areBeside_4 : decode cX8_areBeside 4 = .ok (.iload_n 3, 1) := by decide +kernel
theorem dX8_areBeside_5 : decode cX8_areBeside 5 = .ok (.iconst 4, 1) := by decide +kernel
theorem dX8_areBeside_6 : decode cX8_areBeside 6 = .ok (.if_icmp .ge 28, 3) := by decide +kernel
theorem dX8_areBeside_9 : decode cX8_areBeside 9 = .ok (.iload_n 2, 1) := by decide +kernel
theorem dX8_areBeside_10 : decode cX8_areBeside 10 = .ok (.ifCond .ne 12, 3) := by decide +kernel
theorem dX8_areBeside_13 : decode cX8_areBeside 13 = .ok (.iload_n 0, 1) := by decide +kernel
theorem dX8_areBeside_14 : decode cX8_areBeside 14 = .ok (.iload_n 3, 1) := by decide +kernel
theorem dX8_areBeside_15 : decode cX8_areBeside 15 = .ok (.invokestatic 136, 3) := by decide +kernel
theorem dX8_areBeside_18 : decode cX8_areBeside 18 = .ok (.iload_n 1, 1) := by decide +kernel
theorem dX8_areBeside_19 : decode cX8_areBeside 19 = .ok (.if_icmp .ne 7, 3) := by decide +kernel
theorem dX8_areBeside_22 : decode cX8_areBeside 22 = .ok (.iconst 1, 1) := by decide +kernel
theorem dX8_areBeside_23 : decode cX8_areBeside 23 = .ok (.goto 4, 3) := by decide +kernel
theorem dX8_areBeside_26 : decode cX8_areBeside 26 = .ok (.iconst 0, 1) := by decide +kernel
theorem dX8_areBeside_27 : decode cX8_areBeside 27 = .ok (.istore_n 2, 1) := by decide +kernel
theorem dX8_areBeside_28 : decode cX8_areBeside 28 = .ok (.iinc 3 1, 3) := by decide +kernel
theorem dX8_areBeside_31 : decode cX8_areBeside 31 = .ok (.goto (-27), 3) := by decide +kernel
theorem dX8_areBeside_34 : decode cX8_areBeside 34 = .ok (.iload_n 2, 1) := by decide +kernel
theorem dX8_areBeside_35 : decode cX8_areBeside 35 = .ok (.ireturn, 1) := by decide +kernel
theorem dX8_standMany_0 : decode cX8_standMany 0 = .ok (.iconst 0, 1) := by decide +kernel
theorem dX8_standMany_1 : decode cX8_standMany 1 = .ok (.istore_n 2, 1) := by decide +kernel
theorem dX8_standMany_2 : decode cX8_standMany 2 = .ok (.iconst 0, 1) := by decide +kernel
theorem dX8_standMany_3 : decode cX8_standMany 3 = .ok (.istore_n 3, 1) := by decide +kernel
theorem dX8_standMany_4 : decode cX8_standMany 4 = .ok (.iload_n 3, 1) := by decide +kernel
theorem dX8_standMany_5 : decode cX8_standMany 5 = .ok (.aload_n 0, 1) := by decide +kernel
theorem dX8_standMany_6 : decode cX8_standMany 6 = .ok (.getfield 92, 3) := by decide +kernel
theorem dX8_standMany_9 : decode cX8_standMany 9 = .ok (.if_icmp .ge 27, 3) := by decide +kernel
theorem dX8_standMany_12 : decode cX8_standMany 12 = .ok (.iload_n 2, 1) := by decide +kernel
theorem dX8_standMany_13 : decode cX8_standMany 13 = .ok (.aload_n 0, 1) := by decide +kernel
theorem dX8_standMany_14 : decode cX8_standMany 14 = .ok (.getfield 23, 3) := by decide +kernel
theorem dX8_standMany_17 : decode cX8_standMany 17 = .ok (.iload_n 3, 1) := by decide +kernel
theorem dX8_standMany_18 : decode cX8_standMany 18 = .ok (.iaload, 1) := by decide +kernel
theorem dX8_standMany_19 : decode cX8_standMany 19 = .ok (.iload_n 1, 1) := by decide +kernel
theorem dX8_standMany_20 : decode cX8_standMany 20 = .ok (.if_icmp .ne 7, 3) := by decide +kernel
theorem dX8_standMany_23 : decode cX8_standMany 23 = .ok (.iconst 1, 1) := by decide +kernel
theorem dX8_standMany_24 : decode cX8_standMany 24 = .ok (.goto 4, 3) := by decide +kernel
theorem dX8_standMany_27 : decode cX8_standMany 27 = .ok (.iconst 0, 1) := by decide +kernel
theorem dX8_standMany_28 : decode cX8_standMany 28 = .ok (.iadd, 1) := by decide +kernel
theorem dX8_standMany_29 : decode cX8_standMany 29 = .ok (.istore_n 2, 1) := by decide +kernel
theorem dX8_standMany_30 : decode cX8_standMany 30 = .ok (.iinc 3 1, 3) := by decide +kernel
theorem dX8_standMany_33 : decode cX8_standMany 33 = .ok (.goto (-29), 3) := by decide +kernel
theorem dX8_standMany_36 : decode cX8_standMany 36 = .ok (.iload_n 2, 1) := by decide +kernel
theorem dX8_standMany_37 : decode cX8_standMany 37 = .ok (.ireturn, 1) := by decide +kernel
theorem dX8_mayLift_0 : decode cX8_mayLift 0 = .ok (.aload_n 0, 1) := by decide +kernel
theorem dX8_mayLift_1 : decode cX8_mayLift 1 = .ok (.iload_n 1, 1) := by decide +kernel
theorem dX8_mayLift_2 : decode cX8_mayLift 2 = .ok (.invokevirtual 133, 3) := by decide +kernel
theorem dX8_mayLift_5 : decode cX8_mayLift 5 = .ok (.ifCond .eq 36, 3) := by decide +kernel
theorem dX8_mayLift_8 : decode cX8_mayLift 8 = .ok (.aload_n 0, 1) := by decide +kernel
theorem dX8_mayLift_9 : decode cX8_mayLift 9 = .ok (.getfield 23, 3) := by decide +kernel
theorem dX8_mayLift_12 : decode cX8_mayLift 12 = .ok (.iload_n 2, 1) := by decide +kernel
theorem dX8_mayLift_13 : decode cX8_mayLift 13 = .ok (.iaload, 1) := by decide +kernel
theorem dX8_mayLift_14 : decode cX8_mayLift 14 = .ok (.iconst (-1), 1) := by decide +kernel
theorem dX8_mayLift_15 : decode cX8_mayLift 15 = .ok (.if_icmp .eq 26, 3) := by decide +kernel
theorem dX8_mayLift_18 : decode cX8_mayLift 18 = .ok (.aload_n 0, 1) := by decide +kernel
theorem dX8_mayLift_19 : decode cX8_mayLift 19 = .ok (.iload_n 2, 1) := by decide +kernel
theorem dX8_mayLift_20 : decode cX8_mayLift 20 = .ok (.invokevirtual 130, 3) := by decide +kernel
theorem dX8_mayLift_23 : decode cX8_mayLift 23 = .ok (.iconst (-1), 1) := by decide +kernel
theorem dX8_mayLift_24 : decode cX8_mayLift 24 = .ok (.if_icmp .ne 17, 3) := by decide +kernel
theorem dX8_mayLift_27 : decode cX8_mayLift 27 = .ok (.iconst 2, 1) := by decide +kernel
theorem dX8_mayLift_28 : decode cX8_mayLift 28 = .ok (.aload_n 0, 1) := by decide +kernel
theorem dX8_mayLift_29 : decode cX8_mayLift 29 = .ok (.iload_n 1, 1) := by decide +kernel
theorem dX8_mayLift_30 : decode cX8_mayLift 30 = .ok (.invokevirtual 117, 3) := by decide +kernel
theorem dX8_mayLift_33 : decode cX8_mayLift 33 = .ok (.imul, 1) := by decide +kernel
theorem dX8_mayLift_34 : decode cX8_mayLift 34 = .ok (.aload_n 0, 1) := by decide +kernel
theorem dX8_mayLift_35 : decode cX8_mayLift 35 = .ok (.getfield 13, 3) := by decide +kernel
theorem dX8_mayLift_38 : decode cX8_mayLift 38 = .ok (.if_icmp .le 5, 3) := by decide +kernel
theorem dX8_mayLift_41 : decode cX8_mayLift 41 = .ok (.iconst 0, 1) := by decide +kernel
theorem dX8_mayLift_42 : decode cX8_mayLift 42 = .ok (.ireturn, 1) := by decide +kernel
theorem dX8_mayLift_43 : decode cX8_mayLift 43 = .ok (.aload_n 0, 1) := by decide +kernel
theorem dX8_mayLift_44 : decode cX8_mayLift 44 = .ok (.getfield 23, 3) := by decide +kernel
theorem dX8_mayLift_47 : decode cX8_mayLift 47 = .ok (.iload_n 1, 1) := by decide +kernel
theorem dX8_mayLift_48 : decode cX8_mayLift 48 = .ok (.iaload, 1) := by decide +kernel
theorem dX8_mayLift_49 : decode cX8_mayLift 49 = .ok (.aload_n 0, 1) := by decide +kernel
theorem dX8_mayLift_50 : decode cX8_mayLift 50 = .ok (.getfield 23, 3) := by decide +kernel
theorem dX8_mayLift_53 : decode cX8_mayLift 53 = .ok (.iload_n 2, 1) := by decide +kernel
theorem dX8_mayLift_54 : decode cX8_mayLift 54 = .ok (.iaload, 1) := by decide +kernel
theorem dX8_mayLift_55 : decode cX8_mayLift 55 = .ok (.invokestatic 147, 3) := by decide +kernel
theorem dX8_mayLift_58 : decode cX8_mayLift 58 = .ok (.ifCond .eq 36, 3) := by decide +kernel
theorem dX8_mayLift_61 : decode cX8_mayLift 61 = .ok (.aload_n 0, 1) := by decide +kernel
theorem dX8_mayLift_62 : decode cX8_mayLift 62 = .ok (.getfield 20, 3) := by decide +kernel
theorem dX8_mayLift_65 : decode cX8_mayLift 65 = .ok (.iload_n 2, 1) := by decide +kernel
theorem dX8_mayLift_66 : decode cX8_mayLift 66 = .ok (.iaload, 1) := by decide +kernel
theorem dX8_mayLift_67 : decode cX8_mayLift 67 = .ok (.aload_n 0, 1) := by decide +kernel
theorem dX8_mayLift_68 : decode cX8_mayLift 68 = .ok (.getfield 20, 3) := by decide +kernel
theorem dX8_mayLift_71 : decode cX8_mayLift 71 = .ok (.iload_n 1, 1) := by decide +kernel
theorem dX8_mayLift_72 : decode cX8_mayLift 72 = .ok (.iaload, 1) := by decide +kernel
theorem dX8_mayLift_73 : decode cX8_mayLift 73 = .ok (.if_icmp .le 21, 3) := by decide +kernel
theorem dX8_mayLift_76 : decode cX8_mayLift 76 = .ok (.aload_n 0, 1) := by decide +kernel
theorem dX8_mayLift_77 : decode cX8_mayLift 77 = .ok (.aload_n 0, 1) := by decide +kernel
theorem dX8_mayLift_78 : decode cX8_mayLift 78 = .ok (.getfield 23, 3) := by decide +kernel
theorem dX8_mayLift_81 : decode cX8_mayLift 81 = .ok (.iload_n 2, 1) := by decide +kernel
theorem dX8_mayLift_82 : decode cX8_mayLift 82 = .ok (.iaload, 1) := by decide +kernel
theorem dX8_mayLift_83 : decode cX8_mayLift 83 = .ok (.invokevirtual 150, 3) := by decide +kernel
theorem dX8_mayLift_86 : decode cX8_mayLift 86 = .ok (.iconst 3, 1) := by decide +kernel
theorem dX8_mayLift_87 : decode cX8_mayLift 87 = .ok (.if_icmp .ge 7, 3) := by decide +kernel
theorem dX8_mayLift_90 : decode cX8_mayLift 90 = .ok (.iconst 1, 1) := by decide +kernel
theorem dX8_mayLift_91 : decode cX8_mayLift 91 = .ok (.goto 4, 3) := by decide +kernel
theorem dX8_mayLift_94 : decode cX8_mayLift 94 = .ok (.iconst 0, 1) := by decide +kernel
theorem dX8_mayLift_95 : decode cX8_mayLift 95 = .ok (.ireturn, 1) := by decide +kernel
theorem dX8_lift_0 : decode cX8_lift 0 = .ok (.aload_n 0, 1) := by decide +kernel
theorem dX8_lift_1 : decode cX8_lift 1 = .ok (.iload_n 1, 1) := by decide +kernel
theorem dX8_lift_2 : decode cX8_lift 2 = .ok (.invokevirtual 123, 3) := by decide +kernel
theorem dX8_lift_5 : decode cX8_lift 5 = .ok (.ifCond .eq 16, 3) := by decide +kernel
theorem dX8_lift_8 : decode cX8_lift 8 = .ok (.aload_n 0, 1) := by decide +kernel
theorem dX8_lift_9 : decode cX8_lift 9 = .ok (.iload_n 2, 1) := by decide +kernel
theorem dX8_lift_10 : decode cX8_lift 10 = .ok (.invokevirtual 123, 3) := by decide +kernel
theorem dX8_lift_13 : decode cX8_lift 13 = .ok (.ifCond .eq 8, 3) := by decide +kernel
theorem dX8_lift_16 : decode cX8_lift 16 = .ok (.iload_n 1, 1) := by decide +kernel
theorem dX8_lift_17 : decode cX8_lift 17 = .ok (.iload_n 2, 1) := by decide +kernel
theorem dX8_lift_18 : decode cX8_lift 18 = .ok (.if_icmp .ne 6, 3) := by decide +kernel
theorem dX8_lift_21 : decode cX8_lift 21 = .ok (.bipush (-101), 2) := by decide +kernel
theorem dX8_lift_23 : decode cX8_lift 23 = .ok (.ireturn, 1) := by decide +kernel
theorem dX8_lift_24 : decode cX8_lift 24 = .ok (.aload_n 0, 1) := by decide +kernel
theorem dX8_lift_25 : decode cX8_lift 25 = .ok (.iload_n 1, 1) := by decide +kernel
theorem dX8_lift_26 : decode cX8_lift 26 = .ok (.iload_n 2, 1) := by decide +kernel
theorem dX8_lift_27 : decode cX8_lift 27 = .ok (.invokevirtual 153, 3) := by decide +kernel
theorem dX8_lift_30 : decode cX8_lift 30 = .ok (.ifCond .ne 6, 3) := by decide +kernel
theorem dX8_lift_33 : decode cX8_lift 33 = .ok (.bipush (-103), 2) := by decide +kernel
theorem dX8_lift_35 : decode cX8_lift 35 = .ok (.ireturn, 1) := by decide +kernel
theorem dX8_lift_36 : decode cX8_lift 36 = .ok (.aload_n 0, 1) := by decide +kernel
theorem dX8_lift_37 : decode cX8_lift 37 = .ok (.getfield 23, 3) := by decide +kernel
theorem dX8_lift_40 : decode cX8_lift 40 = .ok (.iload_n 1, 1) := by decide +kernel
theorem dX8_lift_41 : decode cX8_lift 41 = .ok (.aload_n 0, 1) := by decide +kernel
theorem dX8_lift_42 : decode cX8_lift 42 = .ok (.getfield 23, 3) := by decide +kernel
theorem dX8_lift_45 : decode cX8_lift 45 = .ok (.iload_n 2, 1) := by decide +kernel
theorem dX8_lift_46 : decode cX8_lift 46 = .ok (.iaload, 1) := by decide +kernel
theorem dX8_lift_47 : decode cX8_lift 47 = .ok (.iastore, 1) := by decide +kernel
theorem dX8_lift_48 : decode cX8_lift 48 = .ok (.aload_n 0, 1) := by decide +kernel
theorem dX8_lift_49 : decode cX8_lift 49 = .ok (.getfield 26, 3) := by decide +kernel
theorem dX8_lift_52 : decode cX8_lift 52 = .ok (.iload_n 1, 1) := by decide +kernel
theorem dX8_lift_53 : decode cX8_lift 53 = .ok (.iload_n 2, 1) := by decide +kernel
theorem dX8_lift_54 : decode cX8_lift 54 = .ok (.iastore, 1) := by decide +kernel
theorem dX8_lift_55 : decode cX8_lift 55 = .ok (.aload_n 0, 1) := by decide +kernel
theorem dX8_lift_56 : decode cX8_lift 56 = .ok (.aload_n 0, 1) := by decide +kernel
theorem dX8_lift_57 : decode cX8_lift 57 = .ok (.getfield 23, 3) := by decide +kernel
theorem dX8_lift_60 : decode cX8_lift 60 = .ok (.iload_n 2, 1) := by decide +kernel
theorem dX8_lift_61 : decode cX8_lift 61 = .ok (.iaload, 1) := by decide +kernel
theorem dX8_lift_62 : decode cX8_lift 62 = .ok (.invokevirtual 110, 3) := by decide +kernel
theorem dX8_lift_65 : decode cX8_lift 65 = .ok (.ireturn, 1) := by decide +kernel
theorem dX8_loss_0 : decode cX8_loss 0 = .ok (.iload_n 0, 1) := by decide +kernel
theorem dX8_loss_1 : decode cX8_loss 1 = .ok (.iconst 4, 1) := by decide +kernel
theorem dX8_loss_2 : decode cX8_loss 2 = .ok (.if_icmp .ne 9, 3) := by decide +kernel
theorem dX8_loss_5 : decode cX8_loss 5 = .ok (.iconst 2, 1) := by decide +kernel
theorem dX8_loss_6 : decode cX8_loss 6 = .ok (.iload_n 1, 1) := by decide +kernel
theorem dX8_loss_7 : decode cX8_loss 7 = .ok (.imul, 1) := by decide +kernel
theorem dX8_loss_8 : decode cX8_loss 8 = .ok (.goto 15, 3) := by decide +kernel
theorem dX8_loss_11 : decode cX8_loss 11 = .ok (.iload_n 0, 1) := by decide +kernel
theorem dX8_loss_12 : decode cX8_loss 12 = .ok (.iconst 1, 1) := by decide +kernel
theorem dX8_loss_13 : decode cX8_loss 13 = .ok (.if_icmp .ne 9, 3) := by decide +kernel
theorem dX8_loss_16 : decode cX8_loss 16 = .ok (.iload_n 1, 1) := by decide +kernel
theorem dX8_loss_17 : decode cX8_loss 17 = .ok (.iconst 1, 1) := by decide +kernel
theorem dX8_loss_18 : decode cX8_loss 18 = .ok (.iadd, 1) := by decide +kernel
theorem dX8_loss_19 : decode cX8_loss 19 = .ok (.goto 4, 3) := by decide +kernel
theorem dX8_loss_22 : decode cX8_loss 22 = .ok (.iload_n 1, 1) := by decide +kernel
theorem dX8_loss_23 : decode cX8_loss 23 = .ok (.ireturn, 1) := by decide +kernel
theorem dX8_day_0 : decode cX8_day 0 = .ok (.iload_n 1, 1) := by decide +kernel
theorem dX8_day_1 : decode cX8_day 1 = .ok (.iconst 0, 1) := by decide +kernel
theorem dX8_day_2 : decode cX8_day 2 = .ok (.bipush 9, 2) := by decide +kernel
theorem dX8_day_4 : decode cX8_day 4 = .ok (.invokestatic 66, 3) := by decide +kernel
theorem dX8_day_7 : decode cX8_day 7 = .ok (.ifCond .ne 6, 3) := by decide +kernel
theorem dX8_day_10 : decode cX8_day 10 = .ok (.bipush (-102), 2) := by decide +kernel
theorem dX8_day_12 : decode cX8_day 12 = .ok (.ireturn, 1) := by decide +kernel
theorem dX8_day_13 : decode cX8_day 13 = .ok (.aload_n 0, 1) := by decide +kernel
theorem dX8_day_14 : decode cX8_day 14 = .ok (.getfield 82, 3) := by decide +kernel
theorem dX8_day_17 : decode cX8_day 17 = .ok (.ifCond .ne 6, 3) := by decide +kernel
theorem dX8_day_20 : decode cX8_day 20 = .ok (.bipush (-103), 2) := by decide +kernel
theorem dX8_day_22 : decode cX8_day 22 = .ok (.ireturn, 1) := by decide +kernel
theorem dX8_day_23 : decode cX8_day 23 = .ok (.iconst 0, 1) := by decide +kernel
theorem dX8_day_24 : decode cX8_day 24 = .ok (.istore_n 2, 1) := by decide +kernel
theorem dX8_day_25 : decode cX8_day 25 = .ok (.iconst 0, 1) := by decide +kernel
theorem dX8_day_26 : decode cX8_day 26 = .ok (.istore_n 3, 1) := by decide +kernel
theorem dX8_day_27 : decode cX8_day 27 = .ok (.iload_n 3, 1) := by decide +kernel
theorem dX8_day_28 : decode cX8_day 28 = .ok (.aload_n 0, 1) := by decide +kernel
theorem dX8_day_29 : decode cX8_day 29 = .ok (.getfield 92, 3) := by decide +kernel
theorem dX8_day_32 : decode cX8_day 32 = .ok (.if_icmp .ge 55, 3) := by decide +kernel
theorem dX8_day_35 : decode cX8_day 35 = .ok (.aload_n 0, 1) := by decide +kernel
theorem dX8_day_36 : decode cX8_day 36 = .ok (.getfield 23, 3) := by decide +kernel
theorem dX8_day_39 : decode cX8_day 39 = .ok (.iload_n 3, 1) := by decide +kernel
theorem dX8_day_40 : decode cX8_day 40 = .ok (.iaload, 1) := by decide +kernel
theorem dX8_day_41 : decode cX8_day 41 = .ok (.iconst (-1), 1) := by decide +kernel
theorem dX8_day_42 : decode cX8_day 42 = .ok (.if_icmp .eq 39, 3) := by decide +kernel
theorem dX8_day_45 : decode cX8_day 45 = .ok (.aload_n 0, 1) := by decide +kernel
theorem dX8_day_46 : decode cX8_day 46 = .ok (.getfield 20, 3) := by decide +kernel
theorem dX8_day_49 : decode cX8_day 49 = .ok (.iload_n 3, 1) := by decide +kernel
theorem dX8_day_50 : decode cX8_day 50 = .ok (.iaload, 1) := by decide +kernel
theorem dX8_day_51 : decode cX8_day 51 = .ok (.aload_n 0, 1) := by decide +kernel
theorem dX8_day_52 : decode cX8_day 52 = .ok (.getfield 17, 3) := by decide +kernel
theorem dX8_day_55 : decode cX8_day 55 = .ok (.iload_n 3, 1) := by decide +kernel
theorem dX8_day_56 : decode cX8_day 56 = .ok (.iaload, 1) := by decide +kernel
theorem dX8_day_57 : decode cX8_day 57 = .ok (.iload_n 1, 1) := by decide +kernel
theorem dX8_day_58 : decode cX8_day 58 = .ok (.invokestatic 156, 3) := by decide +kernel
theorem dX8_day_61 : decode cX8_day 61 = .ok (.isub, 1) := by decide +kernel
theorem dX8_day_62 : decode cX8_day 62 = .ok (.istore 4, 2) := by decide +kernel
theorem dX8_day_64 : decode cX8_day 64 = .ok (.aload_n 0, 1) := by decide +kernel
theorem dX8_day_65 : decode cX8_day 65 = .ok (.getfield 20, 3) := by decide +kernel
theorem dX8_day_68 : decode cX8_day 68 = .ok (.iload_n 3, 1) := by decide +kernel
theorem dX8_day_69 : decode cX8_day 69 = .ok (.iload 4, 2) := by decide +kernel
theorem dX8_day_71 : decode cX8_day 71 = .ok (.ifCond .ge 7, 3) := by decide +kernel
theorem dX8_day_74 : decode cX8_day 74 = .ok (.iconst 0, 1) := by decide +kernel
theorem dX8_day_75 : decode cX8_day 75 = .ok (.goto 5, 3) := by decide +kernel
theorem dX8_day_78 : decode cX8_day 78 = .ok (.iload 4, 2) := by decide +kernel
theorem dX8_day_80 : decode cX8_day 80 = .ok (.iastore, 1) := by decide +kernel
theorem dX8_day_81 : decode cX8_day 81 = .ok (.iinc 3 1, 3) := by decide +kernel
theorem dX8_day_84 : decode cX8_day 84 = .ok (.goto (-57), 3) := by decide +kernel
theorem dX8_day_87 : decode cX8_day 87 = .ok (.iconst 0, 1) := by decide +kernel
theorem dX8_day_88 : decode cX8_day 88 = .ok (.istore_n 3, 1) := by decide +kernel
theorem dX8_day_89 : decode cX8_day 89 = .ok (.iload_n 3, 1) := by decide +kernel
theorem dX8_day_90 : decode cX8_day 90 = .ok (.aload_n 0, 1) := by decide +kernel
theorem dX8_day_91 : decode cX8_day 91 = .ok (.getfield 92, 3) := by decide +kernel
theorem dX8_day_94 : decode cX8_day 94 = .ok (.if_icmp .ge 36, 3) := by decide +kernel
theorem dX8_day_97 : decode cX8_day 97 = .ok (.aload_n 0, 1) := by decide +kernel
theorem dX8_day_98 : decode cX8_day 98 = .ok (.getfield 23, 3) := by decide +kernel
theorem dX8_day_101 : decode cX8_day 101 = .ok (.iload_n 3, 1) := by decide +kernel
theorem dX8_day_102 : decode cX8_day 102 = .ok (.iaload, 1) := by decide +kernel
theorem dX8_day_103 : decode cX8_day 103 = .ok (.iconst (-1), 1) := by decide +kernel
theorem dX8_day_104 : decode cX8_day 104 = .ok (.if_icmp .eq 20, 3) := by decide +kernel
theorem dX8_day_107 : decode cX8_day 107 = .ok (.aload_n 0, 1) := by decide +kernel
theorem dX8_day_108 : decode cX8_day 108 = .ok (.getfield 20, 3) := by decide +kernel
theorem dX8_day_111 : decode cX8_day 111 = .ok (.iload_n 3, 1) := by decide +kernel
theorem dX8_day_112 : decode cX8_day 112 = .ok (.iaload, 1) := by decide +kernel
theorem dX8_day_113 : decode cX8_day 113 = .ok (.ifCond .ne 11, 3) := by decide +kernel
theorem dX8_day_116 : decode cX8_day 116 = .ok (.aload_n 0, 1) := by decide +kernel
theorem dX8_day_117 : decode cX8_day 117 = .ok (.iload_n 3, 1) := by decide +kernel
theorem dX8_day_118 : decode cX8_day 118 = .ok (.invokevirtual 159, 3) := by decide +kernel
theorem dX8_day_121 : decode cX8_day 121 = .ok (.iinc 2 1, 3) := by decide +kernel
theorem dX8_day_124 : decode cX8_day 124 = .ok (.iinc 3 1, 3) := by decide +kernel
theorem dX8_day_127 : decode cX8_day 127 = .ok (.goto (-38), 3) := by decide +kernel
theorem dX8_day_130 : decode cX8_day 130 = .ok (.aload_n 0, 1) := by decide +kernel
theorem dX8_day_131 : decode cX8_day 131 = .ok (.dup, 1) := by decide +kernel
theorem dX8_day_132 : decode cX8_day 132 = .ok (.getfield 89, 3) := by decide +kernel
theorem dX8_day_135 : decode cX8_day 135 = .ok (.iconst 1, 1) := by decide +kernel
theorem dX8_day_136 : decode cX8_day 136 = .ok (.iadd, 1) := by decide +kernel
theorem dX8_day_137 : decode cX8_day 137 = .ok (.putfield 89, 3) := by decide +kernel
theorem dX8_day_140 : decode cX8_day 140 = .ok (.iload_n 2, 1) := by decide +kernel
theorem dX8_day_141 : decode cX8_day 141 = .ok (.ireturn, 1) := by decide +kernel
theorem dX8_goAway_0 : decode cX8_goAway 0 = .ok (.aload_n 0, 1) := by decide +kernel
theorem dX8_goAway_1 : decode cX8_goAway 1 = .ok (.getfield 26, 3) := by decide +kernel
theorem dX8_goAway_4 : decode cX8_goAway 4 = .ok (.iload_n 1, 1) := by decide +kernel
theorem dX8_goAway_5 : decode cX8_goAway 5 = .ok (.iaload, 1) := by decide +kernel
theorem dX8_goAway_6 : decode cX8_goAway 6 = .ok (.istore_n 2, 1) := by decide +kernel
theorem dX8_goAway_7 : decode cX8_goAway 7 = .ok (.aload_n 0, 1) := by decide +kernel
theorem dX8_goAway_8 : decode cX8_goAway 8 = .ok (.getfield 23, 3) := by decide +kernel
theorem dX8_goAway_11 : decode cX8_goAway 11 = .ok (.iload_n 1, 1) := by decide +kernel
theorem dX8_goAway_12 : decode cX8_goAway 12 = .ok (.iconst (-1), 1) := by decide +kernel
theorem dX8_goAway_13 : decode cX8_goAway 13 = .ok (.iastore, 1) := by decide +kernel
theorem dX8_goAway_14 : decode cX8_goAway 14 = .ok (.aload_n 0, 1) := by decide +kernel
theorem dX8_goAway_15 : decode cX8_goAway 15 = .ok (.getfield 26, 3) := by decide +kernel
theorem dX8_goAway_18 : decode cX8_goAway 18 = .ok (.iload_n 1, 1) := by decide +kernel
theorem dX8_goAway_19 : decode cX8_goAway 19 = .ok (.iconst (-1), 1) := by decide +kernel
theorem dX8_goAway_20 : decode cX8_goAway 20 = .ok (.iastore, 1) := by decide +kernel
theorem dX8_goAway_21 : decode cX8_goAway 21 = .ok (.iconst 0, 1) := by decide +kernel
theorem dX8_goAway_22 : decode cX8_goAway 22 = .ok (.istore_n 3, 1) := by decide +kernel
theorem dX8_goAway_23 : decode cX8_goAway 23 = .ok (.iload_n 3, 1) := by decide +kernel
theorem dX8_goAway_24 : decode cX8_goAway 24 = .ok (.aload_n 0, 1) := by decide +kernel
theorem dX8_goAway_25 : decode cX8_goAway 25 = .ok (.getfield 92, 3) := by decide +kernel
theorem dX8_goAway_28 : decode cX8_goAway 28 = .ok (.if_icmp .ge 35, 3) := by decide +kernel
theorem dX8_goAway_31 : decode cX8_goAway 31 = .ok (.aload_n 0, 1) := by decide +kernel
theorem dX8_goAway_32 : decode cX8_goAway 32 = .ok (.getfield 26, 3) := by decide +kernel
theorem dX8_goAway_35 : decode cX8_goAway 35 = .ok (.iload_n 3, 1) := by decide +kernel
theorem dX8_goAway_36 : decode cX8_goAway 36 = .ok (.aload_n 0, 1) := by decide +kernel
theorem dX8_goAway_37 : decode cX8_goAway 37 = .ok (.getfield 26, 3) := by decide +kernel
theorem dX8_goAway_40 : decode cX8_goAway 40 = .ok (.iload_n 3, 1) := by decide +kernel
theorem dX8_goAway_41 : decode cX8_goAway 41 = .ok (.iaload, 1) := by decide +kernel
theorem dX8_goAway_42 : decode cX8_goAway 42 = .ok (.iload_n 1, 1) := by decide +kernel
theorem dX8_goAway_43 : decode cX8_goAway 43 = .ok (.if_icmp .ne 7, 3) := by decide +kernel
theorem dX8_goAway_46 : decode cX8_goAway 46 = .ok (.iload_n 2, 1) := by decide +kernel
theorem dX8_goAway_47 : decode cX8_goAway 47 = .ok (.goto 9, 3) := by decide +kernel
theorem dX8_goAway_50 : decode cX8_goAway 50 = .ok (.aload_n 0, 1) := by decide +kernel
theorem dX8_goAway_51 : decode cX8_goAway 51 = .ok (.getfield 26, 3) := by decide +kernel
theorem dX8_goAway_54 : decode cX8_goAway 54 = .ok (.iload_n 3, 1) := by decide +kernel
theorem dX8_goAway_55 : decode cX8_goAway 55 = .ok (.iaload, 1) := by decide +kernel
theorem dX8_goAway_56 : decode cX8_goAway 56 = .ok (.iastore, 1) := by decide +kernel
theorem dX8_goAway_57 : decode cX8_goAway 57 = .ok (.iinc 3 1, 3) := by decide +kernel
theorem dX8_goAway_60 : decode cX8_goAway 60 = .ok (.goto (-37), 3) := by decide +kernel
theorem dX8_goAway_63 : decode cX8_goAway 63 = .ok (.return_, 1) := by decide +kernel
theorem dX8_save_0 : decode cX8_save 0 = .ok (.iconst 0, 1) := by decide +kernel
theorem dX8_save_1 : decode cX8_save 1 = .ok (.istore_n 2, 1) := by decide +kernel
theorem dX8_save_2 : decode cX8_save 2 = .ok (.iload_n 2, 1) := by decide +kernel
theorem dX8_save_3 : decode cX8_save 3 = .ok (.bipush 20, 2) := by decide +kernel
theorem dX8_save_5 : decode cX8_save 5 = .ok (.if_icmp .ge 21, 3) := by decide +kernel
theorem dX8_save_8 : decode cX8_save 8 = .ok (.aload_n 0, 1) := by decide +kernel
theorem dX8_save_9 : decode cX8_save 9 = .ok (.getfield 36, 3) := by decide +kernel
theorem dX8_save_12 : decode cX8_save 12 = .ok (.iload_n 2, 1) := by decide +kernel
theorem dX8_save_13 : decode cX8_save 13 = .ok (.aload_n 0, 1) := by decide +kernel
theorem dX8_save_14 : decode cX8_save 14 = .ok (.getfield 7, 3) := by decide +kernel
theorem dX8_save_17 : decode cX8_save 17 = .ok (.iload_n 2, 1) := by decide +kernel
theorem dX8_save_18 : decode cX8_save 18 = .ok (.iaload, 1) := by decide +kernel
theorem dX8_save_19 : decode cX8_save 19 = .ok (.iastore, 1) := by decide +kernel
theorem dX8_save_20 : decode cX8_save 20 = .ok (.iinc 2 1, 3) := by decide +kernel
theorem dX8_save_23 : decode cX8_save 23 = .ok (.goto (-21), 3) := by decide +kernel
theorem dX8_save_26 : decode cX8_save 26 = .ok (.aload_n 0, 1) := by decide +kernel
theorem dX8_save_27 : decode cX8_save 27 = .ok (.aload_n 0, 1) := by decide +kernel
theorem dX8_save_28 : decode cX8_save 28 = .ok (.getfield 20, 3) := by decide +kernel
theorem dX8_save_31 : decode cX8_save 31 = .ok (.iload_n 1, 1) := by decide +kernel
theorem dX8_save_32 : decode cX8_save 32 = .ok (.iaload, 1) := by decide +kernel
theorem dX8_save_33 : decode cX8_save 33 = .ok (.putfield 163, 3) := by decide +kernel
theorem dX8_save_36 : decode cX8_save 36 = .ok (.aload_n 0, 1) := by decide +kernel
theorem dX8_save_37 : decode cX8_save 37 = .ok (.aload_n 0, 1) := by decide +kernel
theorem dX8_save_38 : decode cX8_save 38 = .ok (.getfield 23, 3) := by decide +kernel
theorem dX8_save_41 : decode cX8_save 41 = .ok (.iload_n 1, 1) := by decide +kernel
theorem dX8_save_42 : decode cX8_save 42 = .ok (.iaload, 1) := by decide +kernel
theorem dX8_save_43 : decode cX8_save 43 = .ok (.putfield 166, 3) := by decide +kernel
theorem dX8_save_46 : decode cX8_save 46 = .ok (.aload_n 0, 1) := by decide +kernel
theorem dX8_save_47 : decode cX8_save 47 = .ok (.aload_n 0, 1) := by decide +kernel
theorem dX8_save_48 : decode cX8_save 48 = .ok (.getfield 29, 3) := by decide +kernel
theorem dX8_save_51 : decode cX8_save 51 = .ok (.iload_n 1, 1) := by decide +kernel
theorem dX8_save_52 : decode cX8_save 52 = .ok (.iaload, 1) := by decide +kernel
theorem dX8_save_53 : decode cX8_save 53 = .ok (.putfield 169, 3) := by decide +kernel
theorem dX8_save_56 : decode cX8_save 56 = .ok (.return_, 1) := by decide +kernel
theorem dX8_back_0 : decode cX8_back 0 = .ok (.iconst 0, 1) := by decide +kernel
theorem dX8_back_1 : decode cX8_back 1 = .ok (.istore_n 2, 1) := by decide +kernel
theorem dX8_back_2 : decode cX8_back 2 = .ok (.iload_n 2, 1) := by decide +kernel
theorem dX8_back_3 : decode cX8_back 3 = .ok (.bipush 20, 2) := by decide +kernel
theorem dX8_back_5 : decode cX8_back 5 = .ok (.if_icmp .ge 21, 3) := by decide +kernel
theorem dX8_back_8 : decode cX8_back 8 = .ok (.aload_n 0, 1) := by decide +kernel
theorem dX8_back_9 : decode cX8_back 9 = .ok (.getfield 7, 3) := by decide +kernel
theorem dX8_back_12 : decode cX8_back 12 = .ok (.iload_n 2, 1) := by decide +kernel
theorem dX8_back_13 : decode cX8_back 13 = .ok (.aload_n 0, 1) := by decide +kernel
theorem dX8_back_14 : decode cX8_back 14 = .ok (.getfield 36, 3) := by decide +kernel
theorem dX8_back_17 : decode cX8_back 17 = .ok (.iload_n 2, 1) := by decide +kernel
theorem dX8_back_18 : decode cX8_back 18 = .ok (.iaload, 1) := by decide +kernel
theorem dX8_back_19 : decode cX8_back 19 = .ok (.iastore, 1) := by decide +kernel
theorem dX8_back_20 : decode cX8_back 20 = .ok (.iinc 2 1, 3) := by decide +kernel
theorem dX8_back_23 : decode cX8_back 23 = .ok (.goto (-21), 3) := by decide +kernel
theorem dX8_back_26 : decode cX8_back 26 = .ok (.aload_n 0, 1) := by decide +kernel
theorem dX8_back_27 : decode cX8_back 27 = .ok (.getfield 20, 3) := by decide +kernel
theorem dX8_back_30 : decode cX8_back 30 = .ok (.iload_n 1, 1) := by decide +kernel
theorem dX8_back_31 : decode cX8_back 31 = .ok (.aload_n 0, 1) := by decide +kernel
theorem dX8_back_32 : decode cX8_back 32 = .ok (.getfield 163, 3) := by decide +kernel
theorem dX8_back_35 : decode cX8_back 35 = .ok (.iastore, 1) := by decide +kernel
theorem dX8_back_36 : decode cX8_back 36 = .ok (.aload_n 0, 1) := by decide +kernel
theorem dX8_back_37 : decode cX8_back 37 = .ok (.getfield 23, 3) := by decide +kernel
theorem dX8_back_40 : decode cX8_back 40 = .ok (.iload_n 1, 1) := by decide +kernel
theorem dX8_back_41 : decode cX8_back 41 = .ok (.aload_n 0, 1) := by decide +kernel
theorem dX8_back_42 : decode cX8_back 42 = .ok (.getfield 166, 3) := by decide +kernel
theorem dX8_back_45 : decode cX8_back 45 = .ok (.iastore, 1) := by decide +kernel
theorem dX8_back_46 : decode cX8_back 46 = .ok (.aload_n 0, 1) := by decide +kernel
theorem dX8_back_47 : decode cX8_back 47 = .ok (.getfield 29, 3) := by decide +kernel
theorem dX8_back_50 : decode cX8_back 50 = .ok (.iload_n 1, 1) := by decide +kernel
theorem dX8_back_51 : decode cX8_back 51 = .ok (.aload_n 0, 1) := by decide +kernel
theorem dX8_back_52 : decode cX8_back 52 = .ok (.getfield 169, 3) := by decide +kernel
theorem dX8_back_55 : decode cX8_back 55 = .ok (.iastore, 1) := by decide +kernel
theorem dX8_back_56 : decode cX8_back 56 = .ok (.return_, 1) := by decide +kernel
theorem dX8_power_0 : decode cX8_power 0 = .ok (.iconst 1, 1) := by decide +kernel
theorem dX8_power_1 : decode cX8_power 1 = .ok (.istore_n 1, 1) := by decide +kernel
theorem dX8_power_2 : decode cX8_power 2 = .ok (.iconst 0, 1) := by decide +kernel
theorem dX8_power_3 : decode cX8_power 3 = .ok (.istore_n 2, 1) := by decide +kernel
theorem dX8_power_4 : decode cX8_power 4 = .ok (.iload_n 2, 1) := by decide +kernel
theorem dX8_power_5 : decode cX8_power 5 = .ok (.iload_n 0, 1) := by decide +kernel
theorem dX8_power_6 : decode cX8_power 6 = .ok (.if_icmp .ge 13, 3) := by decide +kernel
theorem dX8_power_9 : decode cX8_power 9 = .ok (.iload_n 1, 1) := by decide +kernel
theorem dX8_power_10 : decode cX8_power 10 = .ok (.iconst 4, 1) := by decide +kernel
theorem dX8_power_11 : decode cX8_power 11 = .ok (.imul, 1) := by decide +kernel
theorem dX8_power_12 : decode cX8_power 12 = .ok (.istore_n 1, 1) := by decide +kernel
theorem dX8_power_13 : decode cX8_power 13 = .ok (.iinc 2 1, 3) := by decide +kernel
theorem dX8_power_16 : decode cX8_power 16 = .ok (.goto (-12), 3) := by decide +kernel
theorem dX8_power_19 : decode cX8_power 19 = .ok (.iload_n 1, 1) := by decide +kernel
theorem dX8_power_20 : decode cX8_power 20 = .ok (.ireturn, 1) := by decide +kernel
theorem dX8_rollsBy_0 : decode cX8_rollsBy 0 = .ok (.iload_n 2, 1) := by decide +kernel
theorem dX8_rollsBy_1 : decode cX8_rollsBy 1 = .ok (.istore 4, 2) := by decide +kernel
theorem dX8_rollsBy_3 : decode cX8_rollsBy 3 = .ok (.iconst 1, 1) := by decide +kernel
theorem dX8_rollsBy_4 : decode cX8_rollsBy 4 = .ok (.istore 5, 2) := by decide +kernel
theorem dX8_rollsBy_6 : decode cX8_rollsBy 6 = .ok (.iload_n 3, 1) := by decide +kernel
theorem dX8_rollsBy_7 : decode cX8_rollsBy 7 = .ok (.iconst 1, 1) := by decide +kernel
theorem dX8_rollsBy_8 : decode cX8_rollsBy 8 = .ok (.isub, 1) := by decide +kernel
theorem dX8_rollsBy_9 : decode cX8_rollsBy 9 = .ok (.istore 6, 2) := by decide +kernel
theorem dX8_rollsBy_11 : decode cX8_rollsBy 11 = .ok (.iload 6, 2) := by decide +kernel
theorem dX8_rollsBy_13 : decode cX8_rollsBy 13 = .ok (.ifCond .lt 55, 3) := by decide +kernel
theorem dX8_rollsBy_16 : decode cX8_rollsBy 16 = .ok (.iload 5, 2) := by decide +kernel
theorem dX8_rollsBy_18 : decode cX8_rollsBy 18 = .ok (.ifCond .eq 50, 3) := by decide +kernel
theorem dX8_rollsBy_21 : decode cX8_rollsBy 21 = .ok (.iload 4, 2) := by decide +kernel
theorem dX8_rollsBy_23 : decode cX8_rollsBy 23 = .ok (.iload 6, 2) := by decide +kernel
theorem dX8_rollsBy_25 : decode cX8_rollsBy 25 = .ok (.invokestatic 172, 3) := by decide +kernel
theorem dX8_rollsBy_28 : decode cX8_rollsBy 28 = .ok (.idiv, 1) := by decide +kernel
theorem dX8_rollsBy_29 : decode cX8_rollsBy 29 = .ok (.istore 7, 2) := by decide +kernel
theorem dX8_rollsBy_31 : decode cX8_rollsBy 31 = .ok (.iload 4, 2) := by decide +kernel
theorem dX8_rollsBy_33 : decode cX8_rollsBy 33 = .ok (.iload 6, 2) := by decide +kernel
theorem dX8_rollsBy_35 : decode cX8_rollsBy 35 = .ok (.invokestatic 172, 3) := by decide +kernel
theorem dX8_rollsBy_38 : decode cX8_rollsBy 38 = .ok (.irem, 1) := by decide +kernel
theorem dX8_rollsBy_39 : decode cX8_rollsBy 39 = .ok (.istore 4, 2) := by decide +kernel
theorem dX8_rollsBy_41 : decode cX8_rollsBy 41 = .ok (.aload_n 0, 1) := by decide +kernel
theorem dX8_rollsBy_42 : decode cX8_rollsBy 42 = .ok (.iload_n 1, 1) := by decide +kernel
theorem dX8_rollsBy_43 : decode cX8_rollsBy 43 = .ok (.iload 7, 2) := by decide +kernel
theorem dX8_rollsBy_45 : decode cX8_rollsBy 45 = .ok (.invokevirtual 139, 3) := by decide +kernel
theorem dX8_rollsBy_48 : decode cX8_rollsBy 48 = .ok (.istore 5, 2) := by decide +kernel
theorem dX8_rollsBy_50 : decode cX8_rollsBy 50 = .ok (.iload 5, 2) := by decide +kernel
theorem dX8_rollsBy_52 : decode cX8_rollsBy 52 = .ok (.ifCond .eq 10, 3) := by decide +kernel
theorem dX8_rollsBy_55 : decode cX8_rollsBy 55 = .ok (.aload_n 0, 1) := by decide +kernel
theorem dX8_rollsBy_56 : decode cX8_rollsBy 56 = .ok (.iload_n 1, 1) := by decide +kernel
theorem dX8_rollsBy_57 : decode cX8_rollsBy 57 = .ok (.iload 7, 2) := by decide +kernel
theorem dX8_rollsBy_59 : decode cX8_rollsBy 59 = .ok (.invokevirtual 143, 3) := by decide +kernel
theorem dX8_rollsBy_62 : decode cX8_rollsBy 62 = .ok (.iinc 6 (-1), 3) := by decide +kernel
theorem dX8_rollsBy_65 : decode cX8_rollsBy 65 = .ok (.goto (-54), 3) := by decide +kernel
theorem dX8_rollsBy_68 : decode cX8_rollsBy 68 = .ok (.iload 5, 2) := by decide +kernel
theorem dX8_rollsBy_70 : decode cX8_rollsBy 70 = .ok (.ireturn, 1) := by decide +kernel
theorem dX8_layLargest_0 : decode cX8_layLargest 0 = .ok (.aload_n 0, 1) := by decide +kernel
theorem dX8_layLargest_1 : decode cX8_layLargest 1 = .ok (.aload_n 0, 1) := by decide +kernel
theorem dX8_layLargest_2 : decode cX8_layLargest 2 = .ok (.getfield 20, 3) := by decide +kernel
theorem dX8_layLargest_5 : decode cX8_layLargest 5 = .ok (.iload_n 1, 1) := by decide +kernel
theorem dX8_layLargest_6 : decode cX8_layLargest 6 = .ok (.iaload, 1) := by decide +kernel
theorem dX8_layLargest_7 : decode cX8_layLargest 7 = .ok (.putfield 175, 3) := by decide +kernel
theorem dX8_layLargest_10 : decode cX8_layLargest 10 = .ok (.aload_n 0, 1) := by decide +kernel
theorem dX8_layLargest_11 : decode cX8_layLargest 11 = .ok (.iconst (-1), 1) := by decide +kernel
theorem dX8_layLargest_12 : decode cX8_layLargest 12 = .ok (.putfield 178, 3) := by decide +kernel
theorem dX8_layLargest_15 : decode cX8_layLargest 15 = .ok (.aload_n 0, 1) := by decide +kernel
theorem dX8_layLargest_16 : decode cX8_layLargest 16 = .ok (.iload_n 1, 1) := by decide +kernel
theorem dX8_layLargest_17 : decode cX8_layLargest 17 = .ok (.invokevirtual 181, 3) := by decide +kernel
theorem dX8_layLargest_20 : decode cX8_layLargest 20 = .ok (.iconst 1, 1) := by decide +kernel
theorem dX8_layLargest_21 : decode cX8_layLargest 21 = .ok (.istore_n 3, 1) := by decide +kernel
theorem dX8_layLargest_22 : decode cX8_layLargest 22 = .ok (.iload_n 3, 1) := by decide +kernel
theorem dX8_layLargest_23 : decode cX8_layLargest 23 = .ok (.iload_n 2, 1) := by decide +kernel
theorem dX8_layLargest_24 : decode cX8_layLargest 24 = .ok (.if_icmp .gt 83, 3) := by decide +kernel
theorem dX8_layLargest_27 : decode cX8_layLargest 27 = .ok (.iconst 0, 1) := by decide +kernel
theorem dX8_layLargest_28 : decode cX8_layLargest 28 = .ok (.istore 4, 2) := by decide +kernel
theorem dX8_layLargest_30 : decode cX8_layLargest 30 = .ok (.iload 4, 2) := by decide +kernel
theorem dX8_layLargest_32 : decode cX8_layLargest 32 = .ok (.iload_n 3, 1) := by decide +kernel
theorem dX8_layLargest_33 : decode cX8_layLargest 33 = .ok (.invokestatic 172, 3) := by decide +kernel
theorem dX8_layLargest_36 : decode cX8_layLargest 36 = .ok (.if_icmp .ge 65, 3) := by decide +kernel
theorem dX8_layLargest_39 : decode cX8_layLargest 39 = .ok (.aload_n 0, 1) := by decide +kernel
theorem dX8_layLargest_40 : decode cX8_layLargest 40 = .ok (.iload_n 1, 1) := by decide +kernel
theorem dX8_layLargest_41 : decode cX8_layLargest 41 = .ok (.iload 4, 2) := by decide +kernel
theorem dX8_layLargest_43 : decode cX8_layLargest 43 = .ok (.iload_n 3, 1) := by decide +kernel
theorem dX8_layLargest_44 : decode cX8_layLargest 44 = .ok (.invokevirtual 184, 3) := by decide +kernel
theorem dX8_layLargest_47 : decode cX8_layLargest 47 = .ok (.istore 5, 2) := by decide +kernel
theorem dX8_layLargest_49 : decode cX8_layLargest 49 = .ok (.aload_n 0, 1) := by decide +kernel
theorem dX8_layLargest_50 : decode cX8_layLargest 50 = .ok (.getfield 20, 3) := by decide +kernel
theorem dX8_layLargest_53 : decode cX8_layLargest 53 = .ok (.iload_n 1, 1) := by decide +kernel
theorem dX8_layLargest_54 : decode cX8_layLargest 54 = .ok (.iaload, 1) := by decide +kernel
theorem dX8_layLargest_55 : decode cX8_layLargest 55 = .ok (.istore 6, 2) := by decide +kernel
theorem dX8_layLargest_57 : decode cX8_layLargest 57 = .ok (.aload_n 0, 1) := by decide +kernel
theorem dX8_layLargest_58 : decode cX8_layLargest 58 = .ok (.iload_n 1, 1) := by decide +kernel
theorem dX8_layLargest_59 : decode cX8_layLargest 59 = .ok (.invokevirtual 187, 3) := by decide +kernel
theorem dX8_layLargest_62 : decode cX8_layLargest 62 = .ok (.iload 5, 2) := by decide +kernel
theorem dX8_layLargest_64 : decode cX8_layLargest 64 = .ok (.ifCond .eq 31, 3) := by decide +kernel
theorem dX8_layLargest_67 : decode cX8_layLargest 67 = .ok (.iload 6, 2) := by decide +kernel
theorem dX8_layLargest_69 : decode cX8_layLargest 69 = .ok (.aload_n 0, 1) := by decide +kernel
theorem dX8_layLargest_70 : decode cX8_layLargest 70 = .ok (.getfield 175, 3) := by decide +kernel
theorem dX8_layLargest_73 : decode cX8_layLargest 73 = .ok (.if_icmp .le 22, 3) := by decide +kernel
theorem dX8_layLargest_76 : decode cX8_layLargest 76 = .ok (.aload_n 0, 1) := by decide +kernel
theorem dX8_layLargest_77 : decode cX8_layLargest 77 = .ok (.iload 6, 2) := by decide +kernel
theorem dX8_layLargest_79 : decode cX8_layLargest 79 = .ok (.putfield 175, 3) := by decide +kernel
theorem dX8_layLargest_82 : decode cX8_layLargest 82 = .ok (.aload_n 0, 1) := by decide +kernel
theorem dX8_layLargest_83 : decode cX8_layLargest 83 = .ok (.iload 4, 2) := by decide +kernel
theorem dX8_layLargest_85 : decode cX8_layLargest 85 = .ok (.iload_n 3, 1) := by decide +kernel
theorem dX8_layLargest_86 : decode cX8_layLargest 86 = .ok (.iconst 1, 1) := by decide +kernel
theorem dX8_layLargest_87 : decode cX8_layLargest 87 = .ok (.isub, 1) := by decide +kernel
theorem dX8_layLargest_88 : decode cX8_layLargest 88 = .ok (.invokestatic 172, 3) := by decide +kernel
theorem dX8_layLargest_91 : decode cX8_layLargest 91 = .ok (.idiv, 1) := by decide +kernel
theorem dX8_layLargest_92 : decode cX8_layLargest 92 = .ok (.putfield 178, 3) := by decide +kernel
theorem dX8_layLargest_95 : decode cX8_layLargest 95 = .ok (.iinc 4 1, 3) := by decide +kernel
theorem dX8_layLargest_98 : decode cX8_layLargest 98 = .ok (.goto (-68), 3) := by decide +kernel
theorem dX8_layLargest_101 : decode cX8_layLargest 101 = .ok (.iinc 3 1, 3) := by decide +kernel
theorem dX8_layLargest_104 : decode cX8_layLargest 104 = .ok (.goto (-82), 3) := by decide +kernel
theorem dX8_layLargest_107 : decode cX8_layLargest 107 = .ok (.return_, 1) := by decide +kernel
theorem dX8_largest_0 : decode cX8_largest 0 = .ok (.aload_n 0, 1) := by decide +kernel
theorem dX8_largest_1 : decode cX8_largest 1 = .ok (.iload_n 1, 1) := by decide +kernel
theorem dX8_largest_2 : decode cX8_largest 2 = .ok (.invokevirtual 123, 3) := by decide +kernel
theorem dX8_largest_5 : decode cX8_largest 5 = .ok (.ifCond .ne 6, 3) := by decide +kernel
theorem dX8_largest_8 : decode cX8_largest 8 = .ok (.bipush (-101), 2) := by decide +kernel
theorem dX8_largest_10 : decode cX8_largest 10 = .ok (.ireturn, 1) := by decide +kernel
theorem dX8_largest_11 : decode cX8_largest 11 = .ok (.iload_n 2, 1) := by decide +kernel
theorem dX8_largest_12 : decode cX8_largest 12 = .ok (.iconst 0, 1) := by decide +kernel
theorem dX8_largest_13 : decode cX8_largest 13 = .ok (.bipush 6, 2) := by decide +kernel
theorem dX8_largest_15 : decode cX8_largest 15 = .ok (.invokestatic 66, 3) := by decide +kernel
theorem dX8_largest_18 : decode cX8_largest 18 = .ok (.ifCond .eq 12, 3) := by decide +kernel
theorem dX8_largest_21 : decode cX8_largest 21 = .ok (.iload_n 3, 1) := by decide +kernel
theorem dX8_largest_22 : decode cX8_largest 22 = .ok (.iconst 0, 1) := by decide +kernel
theorem dX8_largest_23 : decode cX8_largest 23 = .ok (.iconst 1, 1) := by decide +kernel
theorem dX8_largest_24 : decode cX8_largest 24 = .ok (.invokestatic 66, 3) := by decide +kernel
theorem dX8_largest_27 : decode cX8_largest 27 = .ok (.ifCond .ne 6, 3) := by decide +kernel
theorem dX8_largest_30 : decode cX8_largest 30 = .ok (.bipush (-102), 2) := by decide +kernel
theorem dX8_largest_32 : decode cX8_largest 32 = .ok (.ireturn, 1) := by decide +kernel
theorem dX8_largest_33 : decode cX8_largest 33 = .ok (.aload_n 0, 1) := by decide +kernel
theorem dX8_largest_34 : decode cX8_largest 34 = .ok (.getfield 23, 3) := by decide +kernel
theorem dX8_largest_37 : decode cX8_largest 37 = .ok (.iload_n 1, 1) := by decide +kernel
theorem dX8_largest_38 : decode cX8_largest 38 = .ok (.iaload, 1) := by decide +kernel
theorem dX8_largest_39 : decode cX8_largest 39 = .ok (.iconst (-1), 1) := by decide +kernel
theorem dX8_largest_40 : decode cX8_largest 40 = .ok (.if_icmp .eq 12, 3) := by decide +kernel
theorem dX8_largest_43 : decode cX8_largest 43 = .ok (.aload_n 0, 1) := by decide +kernel
theorem dX8_largest_44 : decode cX8_largest 44 = .ok (.getfield 190, 3) := by decide +kernel
theorem dX8_largest_47 : decode cX8_largest 47 = .ok (.bipush 60, 2) := by decide +kernel
theorem dX8_largest_49 : decode cX8_largest 49 = .ok (.if_icmp .ne 6, 3) := by decide +kernel
theorem dX8_largest_52 : decode cX8_largest 52 = .ok (.bipush (-103), 2) := by decide +kernel
theorem dX8_largest_54 : decode cX8_largest 54 = .ok (.ireturn, 1) := by decide +kernel
theorem dX8_largest_55 : decode cX8_largest 55 = .ok (.aload_n 0, 1) := by decide +kernel
theorem dX8_largest_56 : decode cX8_largest 56 = .ok (.dup, 1) := by decide +kernel
theorem dX8_largest_57 : decode cX8_largest 57 = .ok (.getfield 190, 3) := by decide +kernel
theorem dX8_largest_60 : decode cX8_largest 60 = .ok (.iconst 1, 1) := by decide +kernel
theorem dX8_largest_61 : decode cX8_largest 61 = .ok (.iadd, 1) := by decide +kernel
theorem dX8_largest_62 : decode cX8_largest 62 = .ok (.putfield 190, 3) := by decide +kernel
theorem dX8_largest_65 : decode cX8_largest 65 = .ok (.aload_n 0, 1) := by decide +kernel
theorem dX8_largest_66 : decode cX8_largest 66 = .ok (.iload_n 1, 1) := by decide +kernel
theorem dX8_largest_67 : decode cX8_largest 67 = .ok (.iload_n 2, 1) := by decide +kernel
theorem dX8_largest_68 : decode cX8_largest 68 = .ok (.invokevirtual 193, 3) := by decide +kernel
theorem dX8_largest_71 : decode cX8_largest 71 = .ok (.iload_n 3, 1) := by decide +kernel
theorem dX8_largest_72 : decode cX8_largest 72 = .ok (.ifCond .ne 10, 3) := by decide +kernel
theorem dX8_largest_75 : decode cX8_largest 75 = .ok (.aload_n 0, 1) := by decide +kernel
theorem dX8_largest_76 : decode cX8_largest 76 = .ok (.getfield 175, 3) := by decide +kernel
theorem dX8_largest_79 : decode cX8_largest 79 = .ok (.goto 7, 3) := by decide +kernel
theorem dX8_largest_82 : decode cX8_largest 82 = .ok (.aload_n 0, 1) := by decide +kernel
theorem dX8_largest_83 : decode cX8_largest 83 = .ok (.getfield 178, 3) := by decide +kernel
theorem dX8_largest_86 : decode cX8_largest 86 = .ok (.ireturn, 1) := by decide +kernel
theorem dX8_comesNow_0 : decode cX8_comesNow 0 = .ok (.aload_n 0, 1) := by decide +kernel
theorem dX8_comesNow_1 : decode cX8_comesNow 1 = .ok (.getfield 23, 3) := by decide +kernel
theorem dX8_comesNow_4 : decode cX8_comesNow 4 = .ok (.iload_n 1, 1) := by decide +kernel
theorem dX8_comesNow_5 : decode cX8_comesNow 5 = .ok (.iaload, 1) := by decide +kernel
theorem dX8_comesNow_6 : decode cX8_comesNow 6 = .ok (.iload_n 2, 1) := by decide +kernel
theorem dX8_comesNow_7 : decode cX8_comesNow 7 = .ok (.if_icmp .ne 5, 3) := by decide +kernel
theorem dX8_comesNow_10 : decode cX8_comesNow 10 = .ok (.iconst 0, 1) := by decide +kernel
theorem dX8_comesNow_11 : decode cX8_comesNow 11 = .ok (.ireturn, 1) := by decide +kernel
theorem dX8_comesNow_12 : decode cX8_comesNow 12 = .ok (.aload_n 0, 1) := by decide +kernel
theorem dX8_comesNow_13 : decode cX8_comesNow 13 = .ok (.iload_n 1, 1) := by decide +kernel
theorem dX8_comesNow_14 : decode cX8_comesNow 14 = .ok (.invokevirtual 181, 3) := by decide +kernel
theorem dX8_comesNow_17 : decode cX8_comesNow 17 = .ok (.iconst 1, 1) := by decide +kernel
theorem dX8_comesNow_18 : decode cX8_comesNow 18 = .ok (.istore_n 3, 1) := by decide +kernel
theorem dX8_comesNow_19 : decode cX8_comesNow 19 = .ok (.iload_n 3, 1) := by decide +kernel
theorem dX8_comesNow_20 : decode cX8_comesNow 20 = .ok (.bipush 6, 2) := by decide +kernel
theorem dX8_comesNow_22 : decode cX8_comesNow 22 = .ok (.if_icmp .gt 71, 3) := by decide +kernel
theorem dX8_comesNow_25 : decode cX8_comesNow 25 = .ok (.iconst 0, 1) := by decide +kernel
theorem dX8_comesNow_26 : decode cX8_comesNow 26 = .ok (.istore 4, 2) := by decide +kernel
theorem dX8_comesNow_28 : decode cX8_comesNow 28 = .ok (.iload 4, 2) := by decide +kernel
theorem dX8_comesNow_30 : decode cX8_comesNow 30 = .ok (.iload_n 3, 1) := by decide +kernel
theorem dX8_comesNow_31 : decode cX8_comesNow 31 = .ok (.invokestatic 172, 3) := by decide +kernel
theorem dX8_comesNow_34 : decode cX8_comesNow 34 = .ok (.if_icmp .ge 53, 3) := by decide +kernel
theorem dX8_comesNow_37 : decode cX8_comesNow 37 = .ok (.aload_n 0, 1) := by decide +kernel
theorem dX8_comesNow_38 : decode cX8_comesNow 38 = .ok (.iload_n 1, 1) := by decide +kernel
theorem dX8_comesNow_39 : decode cX8_comesNow 39 = .ok (.iload 4, 2) := by decide +kernel
theorem dX8_comesNow_41 : decode cX8_comesNow 41 = .ok (.iload_n 3, 1) := by decide +kernel
theorem dX8_comesNow_42 : decode cX8_comesNow 42 = .ok (.invokevirtual 184, 3) := by decide +kernel
theorem dX8_comesNow_45 : decode cX8_comesNow 45 = .ok (.istore 5, 2) := by decide +kernel
theorem dX8_comesNow_47 : decode cX8_comesNow 47 = .ok (.aload_n 0, 1) := by decide +kernel
theorem dX8_comesNow_48 : decode cX8_comesNow 48 = .ok (.getfield 23, 3) := by decide +kernel
theorem dX8_comesNow_51 : decode cX8_comesNow 51 = .ok (.iload_n 1, 1) := by decide +kernel
theorem dX8_comesNow_52 : decode cX8_comesNow 52 = .ok (.iaload, 1) := by decide +kernel
theorem dX8_comesNow_53 : decode cX8_comesNow 53 = .ok (.iload_n 2, 1) := by decide +kernel
theorem dX8_comesNow_54 : decode cX8_comesNow 54 = .ok (.if_icmp .ne 7, 3) := by decide +kernel
theorem dX8_comesNow_57 : decode cX8_comesNow 57 = .ok (.iconst 1, 1) := by decide +kernel
theorem dX8_comesNow_58 : decode cX8_comesNow 58 = .ok (.goto 4, 3) := by decide +kernel
theorem dX8_comesNow_61 : decode cX8_comesNow 61 = .ok (.iconst 0, 1) := by decide +kernel
theorem dX8_comesNow_62 : decode cX8_comesNow 62 = .ok (.istore 6, 2) := by decide +kernel
theorem dX8_comesNow_64 : decode cX8_comesNow 64 = .ok (.aload_n 0, 1) := by decide +kernel
theorem dX8_comesNow_65 : decode cX8_comesNow 65 = .ok (.iload_n 1, 1) := by decide +kernel
theorem dX8_comesNow_66 : decode cX8_comesNow 66 = .ok (.invokevirtual 187, 3) := by decide +kernel
theorem dX8_comesNow_69 : decode cX8_comesNow 69 = .ok (.iload 5, 2) := by decide +kernel
theorem dX8_comesNow_71 : decode cX8_comesNow 71 = .ok (.ifCond .eq 10, 3) := by decide +kernel
theorem dX8_comesNow_74 : decode cX8_comesNow 74 = .ok (.iload 6, 2) := by decide +kernel
theorem dX8_comesNow_76 : decode cX8_comesNow 76 = .ok (.ifCond .eq 5, 3) := by decide +kernel
theorem dX8_comesNow_79 : decode cX8_comesNow 79 = .ok (.iload_n 3, 1) := by decide +kernel
theorem dX8_comesNow_80 : decode cX8_comesNow 80 = .ok (.ireturn, 1) := by decide +kernel
theorem dX8_comesNow_81 : decode cX8_comesNow 81 = .ok (.iinc 4 1, 3) := by decide +kernel
theorem dX8_comesNow_84 : decode cX8_comesNow 84 = .ok (.goto (-56), 3) := by decide +kernel
theorem dX8_comesNow_87 : decode cX8_comesNow 87 = .ok (.iinc 3 1, 3) := by decide +kernel
theorem dX8_comesNow_90 : decode cX8_comesNow 90 = .ok (.goto (-71), 3) := by decide +kernel
theorem dX8_comesNow_93 : decode cX8_comesNow 93 = .ok (.iconst (-1), 1) := by decide +kernel
theorem dX8_comesNow_94 : decode cX8_comesNow 94 = .ok (.ireturn, 1) := by decide +kernel
theorem dX8_comes_0 : decode cX8_comes 0 = .ok (.aload_n 0, 1) := by decide +kernel
theorem dX8_comes_1 : decode cX8_comes 1 = .ok (.iload_n 1, 1) := by decide +kernel
theorem dX8_comes_2 : decode cX8_comes 2 = .ok (.invokevirtual 123, 3) := by decide +kernel
theorem dX8_comes_5 : decode cX8_comes 5 = .ok (.ifCond .eq 10, 3) := by decide +kernel
theorem dX8_comes_8 : decode cX8_comes 8 = .ok (.iload_n 2, 1) := by decide +kernel
theorem dX8_comes_9 : decode cX8_comes 9 = .ok (.invokestatic 103, 3) := by decide +kernel
theorem dX8_comes_12 : decode cX8_comes 12 = .ok (.ifCond .ne 6, 3) := by decide +kernel
theorem dX8_comes_15 : decode cX8_comes 15 = .ok (.bipush (-101), 2) := by decide +kernel
theorem dX8_comes_17 : decode cX8_comes 17 = .ok (.ireturn, 1) := by decide +kernel
theorem dX8_comes_18 : decode cX8_comes 18 = .ok (.aload_n 0, 1) := by decide +kernel
theorem dX8_comes_19 : decode cX8_comes 19 = .ok (.getfield 23, 3) := by decide +kernel
theorem dX8_comes_22 : decode cX8_comes 22 = .ok (.iload_n 1, 1) := by decide +kernel
theorem dX8_comes_23 : decode cX8_comes 23 = .ok (.iaload, 1) := by decide +kernel
theorem dX8_comes_24 : decode cX8_comes 24 = .ok (.iconst (-1), 1) := by decide +kernel
theorem dX8_comes_25 : decode cX8_comes 25 = .ok (.if_icmp .eq 12, 3) := by decide +kernel
theorem dX8_comes_28 : decode cX8_comes 28 = .ok (.aload_n 0, 1) := by decide +kernel
theorem dX8_comes_29 : decode cX8_comes 29 = .ok (.getfield 190, 3) := by decide +kernel
theorem dX8_comes_32 : decode cX8_comes 32 = .ok (.bipush 60, 2) := by decide +kernel
theorem dX8_comes_34 : decode cX8_comes 34 = .ok (.if_icmp .ne 6, 3) := by decide +kernel
theorem dX8_comes_37 : decode cX8_comes 37 = .ok (.bipush (-103), 2) := by decide +kernel
theorem dX8_comes_39 : decode cX8_comes 39 = .ok (.ireturn, 1) := by decide +kernel
theorem dX8_comes_40 : decode cX8_comes 40 = .ok (.aload_n 0, 1) := by decide +kernel
theorem dX8_comes_41 : decode cX8_comes 41 = .ok (.dup, 1) := by decide +kernel
theorem dX8_comes_42 : decode cX8_comes 42 = .ok (.getfield 190, 3) := by decide +kernel
theorem dX8_comes_45 : decode cX8_comes 45 = .ok (.iconst 1, 1) := by decide +kernel
theorem dX8_comes_46 : decode cX8_comes 46 = .ok (.iadd, 1) := by decide +kernel
theorem dX8_comes_47 : decode cX8_comes 47 = .ok (.putfield 190, 3) := by decide +kernel
theorem dX8_comes_50 : decode cX8_comes 50 = .ok (.aload_n 0, 1) := by decide +kernel
theorem dX8_comes_51 : decode cX8_comes 51 = .ok (.iload_n 1, 1) := by decide +kernel
theorem dX8_comes_52 : decode cX8_comes 52 = .ok (.iload_n 2, 1) := by decide +kernel
theorem dX8_comes_53 : decode cX8_comes 53 = .ok (.invokevirtual 196, 3) := by decide +kernel
theorem dX8_comes_56 : decode cX8_comes 56 = .ok (.ireturn, 1) := by decide +kernel
theorem dX8_mayStand_0 : decode cX8_mayStand 0 = .ok (.aload_n 0, 1) := by decide +kernel
theorem dX8_mayStand_1 : decode cX8_mayStand 1 = .ok (.getfield 23, 3) := by decide +kernel
theorem dX8_mayStand_4 : decode cX8_mayStand 4 = .ok (.iload_n 1, 1) := by decide +kernel
theorem dX8_mayStand_5 : decode cX8_mayStand 5 = .ok (.iaload, 1) := by decide +kernel
theorem dX8_mayStand_6 : decode cX8_mayStand 6 = .ok (.iconst (-1), 1) := by decide +kernel
theorem dX8_mayStand_7 : decode cX8_mayStand 7 = .ok (.if_icmp .eq 27, 3) := by decide +kernel
theorem dX8_mayStand_10 : decode cX8_mayStand 10 = .ok (.aload_n 0, 1) := by decide +kernel
theorem dX8_mayStand_11 : decode cX8_mayStand 11 = .ok (.getfield 23, 3) := by decide +kernel
theorem dX8_mayStand_14 : decode cX8_mayStand 14 = .ok (.iload_n 2, 1) := by decide +kernel
theorem dX8_mayStand_15 : decode cX8_mayStand 15 = .ok (.iaload, 1) := by decide +kernel
theorem dX8_mayStand_16 : decode cX8_mayStand 16 = .ok (.iconst (-1), 1) := by decide +kernel
theorem dX8_mayStand_17 : decode cX8_mayStand 17 = .ok (.if_icmp .eq 17, 3) := by decide +kernel
theorem dX8_mayStand_20 : decode cX8_mayStand 20 = .ok (.aload_n 0, 1) := by decide +kernel
theorem dX8_mayStand_21 : decode cX8_mayStand 21 = .ok (.getfield 23, 3) := by decide +kernel
theorem dX8_mayStand_24 : decode cX8_mayStand 24 = .ok (.iload_n 3, 1) := by decide +kernel
theorem dX8_mayStand_25 : decode cX8_mayStand 25 = .ok (.iaload, 1) := by decide +kernel
theorem dX8_mayStand_26 : decode cX8_mayStand 26 = .ok (.iconst (-1), 1) := by decide +kernel
theorem dX8_mayStand_27 : decode cX8_mayStand 27 = .ok (.if_icmp .eq 7, 3) := by decide +kernel
theorem dX8_mayStand_30 : decode cX8_mayStand 30 = .ok (.iconst 1, 1) := by decide +kernel
theorem dX8_mayStand_31 : decode cX8_mayStand 31 = .ok (.goto 4, 3) := by decide +kernel
theorem dX8_mayStand_34 : decode cX8_mayStand 34 = .ok (.iconst 0, 1) := by decide +kernel
theorem dX8_mayStand_35 : decode cX8_mayStand 35 = .ok (.istore 4, 2) := by decide +kernel
theorem dX8_mayStand_37 : decode cX8_mayStand 37 = .ok (.aload_n 0, 1) := by decide +kernel
theorem dX8_mayStand_38 : decode cX8_mayStand 38 = .ok (.getfield 20, 3) := by decide +kernel
theorem dX8_mayStand_41 : decode cX8_mayStand 41 = .ok (.iload_n 1, 1) := by decide +kernel
theorem dX8_mayStand_42 : decode cX8_mayStand 42 = .ok (.iaload, 1) := by decide +kernel
theorem dX8_mayStand_43 : decode cX8_mayStand 43 = .ok (.aload_n 0, 1) := by decide +kernel
theorem dX8_mayStand_44 : decode cX8_mayStand 44 = .ok (.getfield 20, 3) := by decide +kernel
theorem dX8_mayStand_47 : decode cX8_mayStand 47 = .ok (.iload_n 2, 1) := by decide +kernel
theorem dX8_mayStand_48 : decode cX8_mayStand 48 = .ok (.iaload, 1) := by decide +kernel
theorem dX8_mayStand_49 : decode cX8_mayStand 49 = .ok (.if_icmp .le 22, 3) := by decide +kernel
theorem dX8_mayStand_52 : decode cX8_mayStand 52 = .ok (.aload_n 0, 1) := by decide +kernel
theorem dX8_mayStand_53 : decode cX8_mayStand 53 = .ok (.getfield 20, 3) := by decide +kernel
theorem dX8_mayStand_56 : decode cX8_mayStand 56 = .ok (.iload_n 2, 1) := by decide +kernel
theorem dX8_mayStand_57 : decode cX8_mayStand 57 = .ok (.iaload, 1) := by decide +kernel
theorem dX8_mayStand_58 : decode cX8_mayStand 58 = .ok (.aload_n 0, 1) := by decide +kernel
theorem dX8_mayStand_59 : decode cX8_mayStand 59 = .ok (.getfield 20, 3) := by decide +kernel
theorem dX8_mayStand_62 : decode cX8_mayStand 62 = .ok (.iload_n 3, 1) := by decide +kernel
theorem dX8_mayStand_63 : decode cX8_mayStand 63 = .ok (.iaload, 1) := by decide +kernel
theorem dX8_mayStand_64 : decode cX8_mayStand 64 = .ok (.if_icmp .le 7, 3) := by decide +kernel
theorem dX8_mayStand_67 : decode cX8_mayStand 67 = .ok (.iconst 1, 1) := by decide +kernel
theorem dX8_mayStand_68 : decode cX8_mayStand 68 = .ok (.goto 4, 3) := by decide +kernel
theorem dX8_mayStand_71 : decode cX8_mayStand 71 = .ok (.iconst 0, 1) := by decide +kernel
theorem dX8_mayStand_72 : decode cX8_mayStand 72 = .ok (.istore 5, 2) := by decide +kernel
theorem dX8_mayStand_74 : decode cX8_mayStand 74 = .ok (.iload 4, 2) := by decide +kernel
theorem dX8_mayStand_76 : decode cX8_mayStand 76 = .ok (.ifCond .eq 40, 3) := by decide +kernel
theorem dX8_mayStand_79 : decode cX8_mayStand 79 = .ok (.iload 5, 2) := by decide +kernel
theorem dX8_mayStand_81 : decode cX8_mayStand 81 = .ok (.ifCond .eq 35, 3) := by decide +kernel
theorem dX8_mayStand_84 : decode cX8_mayStand 84 = .ok (.iconst 2, 1) := by decide +kernel
theorem dX8_mayStand_85 : decode cX8_mayStand 85 = .ok (.aload_n 0, 1) := by decide +kernel
theorem dX8_mayStand_86 : decode cX8_mayStand 86 = .ok (.iload_n 2, 1) := by decide +kernel
theorem dX8_mayStand_87 : decode cX8_mayStand 87 = .ok (.invokevirtual 117, 3) := by decide +kernel
theorem dX8_mayStand_90 : decode cX8_mayStand 90 = .ok (.imul, 1) := by decide +kernel
theorem dX8_mayStand_91 : decode cX8_mayStand 91 = .ok (.aload_n 0, 1) := by decide +kernel
theorem dX8_mayStand_92 : decode cX8_mayStand 92 = .ok (.getfield 13, 3) := by decide +kernel
theorem dX8_mayStand_95 : decode cX8_mayStand 95 = .ok (.if_icmp .gt 21, 3) := by decide +kernel
theorem dX8_mayStand_98 : decode cX8_mayStand 98 = .ok (.iconst 2, 1) := by decide +kernel
theorem dX8_mayStand_99 : decode cX8_mayStand 99 = .ok (.aload_n 0, 1) := by decide +kernel
theorem dX8_mayStand_100 : decode cX8_mayStand 100 = .ok (.iload_n 3, 1) := by decide +kernel
theorem dX8_mayStand_101 : decode cX8_mayStand 101 = .ok (.invokevirtual 117, 3) := by decide +kernel
theorem dX8_mayStand_104 : decode cX8_mayStand 104 = .ok (.imul, 1) := by decide +kernel
theorem dX8_mayStand_105 : decode cX8_mayStand 105 = .ok (.aload_n 0, 1) := by decide +kernel
theorem dX8_mayStand_106 : decode cX8_mayStand 106 = .ok (.getfield 13, 3) := by decide +kernel
theorem dX8_mayStand_109 : decode cX8_mayStand 109 = .ok (.if_icmp .gt 7, 3) := by decide +kernel
theorem dX8_mayStand_112 : decode cX8_mayStand 112 = .ok (.iconst 1, 1) := by decide +kernel
theorem dX8_mayStand_113 : decode cX8_mayStand 113 = .ok (.goto 4, 3) := by decide +kernel
theorem dX8_mayStand_116 : decode cX8_mayStand 116 = .ok (.iconst 0, 1) := by decide +kernel
theorem dX8_mayStand_117 : decode cX8_mayStand 117 = .ok (.ireturn, 1) := by decide +kernel
theorem dX8_highestNow_0 : decode cX8_highestNow 0 = .ok (.iconst (-1), 1) := by decide +kernel
theorem dX8_highestNow_1 : decode cX8_highestNow 1 = .ok (.istore_n 2, 1) := by decide +kernel
theorem dX8_highestNow_2 : decode cX8_highestNow 2 = .ok (.iconst (-1), 1) := by decide +kernel
theorem dX8_highestNow_3 : decode cX8_highestNow 3 = .ok (.istore_n 3, 1) := by decide +kernel
theorem dX8_highestNow_4 : decode cX8_highestNow 4 = .ok (.iconst 0, 1) := by decide +kernel
theorem dX8_highestNow_5 : decode cX8_highestNow 5 = .ok (.istore 4, 2) := by decide +kernel
theorem dX8_highestNow_7 : decode cX8_highestNow 7 = .ok (.iload 4, 2) := by decide +kernel
theorem dX8_highestNow_9 : decode cX8_highestNow 9 = .ok (.bipush 64, 2) := by decide +kernel
theorem dX8_highestNow_11 : decode cX8_highestNow 11 = .ok (.if_icmp .ge 158, 3) := by decide +kernel
theorem dX8_highestNow_14 : decode cX8_highestNow 14 = .ok (.iload 4, 2) := by decide +kernel
theorem dX8_highestNow_16 : decode cX8_highestNow 16 = .ok (.bipush 16, 2) := by decide +kernel
theorem dX8_highestNow_18 : decode cX8_highestNow 18 = .ok (.idiv, 1) := by decide +kernel
theorem dX8_highestNow_19 : decode cX8_highestNow 19 = .ok (.istore 5, 2) := by decide +kernel
theorem dX8_highestNow_21 : decode cX8_highestNow 21 = .ok (.iload 4, 2) := by decide +kernel
theorem dX8_highestNow_23 : decode cX8_highestNow 23 = .ok (.iconst 4, 1) := by decide +kernel
theorem dX8_highestNow_24 : decode cX8_highestNow 24 = .ok (.idiv, 1) := by decide +kernel
theorem dX8_highestNow_25 : decode cX8_highestNow 25 = .ok (.iconst 4, 1) := by decide +kernel
theorem dX8_highestNow_26 : decode cX8_highestNow 26 = .ok (.irem, 1) := by decide +kernel
theorem dX8_highestNow_27 : decode cX8_highestNow 27 = .ok (.istore 6, 2) := by decide +kernel
theorem dX8_highestNow_29 : decode cX8_highestNow 29 = .ok (.iload 4, 2) := by decide +kernel
theorem dX8_highestNow_31 : decode cX8_highestNow 31 = .ok (.iconst 4, 1) := by decide +kernel
theorem dX8_highestNow_32 : decode cX8_highestNow 32 = .ok (.irem, 1) := by decide +kernel
theorem dX8_highestNow_33 : decode cX8_highestNow 33 = .ok (.istore 7, 2) := by decide +kernel
theorem dX8_highestNow_35 : decode cX8_highestNow 35 = .ok (.iload 5, 2) := by decide +kernel
theorem dX8_highestNow_37 : decode cX8_highestNow 37 = .ok (.aload_n 0, 1) := by decide +kernel
theorem dX8_highestNow_38 : decode cX8_highestNow 38 = .ok (.getfield 92, 3) := by decide +kernel
theorem dX8_highestNow_41 : decode cX8_highestNow 41 = .ok (.if_icmp .ge 122, 3) := by decide +kernel
theorem dX8_highestNow_44 : decode cX8_highestNow 44 = .ok (.iload 6, 2) := by decide +kernel
theorem dX8_highestNow_46 : decode cX8_highestNow 46 = .ok (.aload_n 0, 1) := by decide +kernel
theorem dX8_highestNow_47 : decode cX8_highestNow 47 = .ok (.getfield 92, 3) := by decide +kernel
theorem dX8_highestNow_50 : decode cX8_highestNow 50 = .ok (.if_icmp .ge 113, 3) := by decide +kernel
theorem dX8_highestNow_53 : decode cX8_highestNow 53 = .ok (.iload 7, 2) := by decide +kernel
theorem dX8_highestNow_55 : decode cX8_highestNow 55 = .ok (.aload_n 0, 1) := by decide +kernel
theorem dX8_highestNow_56 : decode cX8_highestNow 56 = .ok (.getfield 92, 3) := by decide +kernel
theorem dX8_highestNow_59 : decode cX8_highestNow 59 = .ok (.if_icmp .ge 104, 3) := by decide +kernel
theorem dX8_highestNow_62 : decode cX8_highestNow 62 = .ok (.aload_n 0, 1) := by decide +kernel
theorem dX8_highestNow_63 : decode cX8_highestNow 63 = .ok (.iload 5, 2) := by decide +kernel
theorem dX8_highestNow_65 : decode cX8_highestNow 65 = .ok (.iload 6, 2) := by decide +kernel
theorem dX8_highestNow_67 : decode cX8_highestNow 67 = .ok (.iload 7, 2) := by decide +kernel
theorem dX8_highestNow_69 : decode cX8_highestNow 69 = .ok (.invokevirtual 199, 3) := by decide +kernel
theorem dX8_highestNow_72 : decode cX8_highestNow 72 = .ok (.ifCond .eq 91, 3) := by decide +kernel
theorem dX8_highestNow_75 : decode cX8_highestNow 75 = .ok (.aload_n 0, 1) := by decide +kernel
theorem dX8_highestNow_76 : decode cX8_highestNow 76 = .ok (.getfield 20, 3) := by decide +kernel
theorem dX8_highestNow_79 : decode cX8_highestNow 79 = .ok (.iload 5, 2) := by decide +kernel
theorem dX8_highestNow_81 : decode cX8_highestNow 81 = .ok (.iaload, 1) := by decide +kernel
theorem dX8_highestNow_82 : decode cX8_highestNow 82 = .ok (.invokestatic 99, 3) := by decide +kernel
theorem dX8_highestNow_85 : decode cX8_highestNow 85 = .ok (.aload_n 0, 1) := by decide +kernel
theorem dX8_highestNow_86 : decode cX8_highestNow 86 = .ok (.getfield 20, 3) := by decide +kernel
theorem dX8_highestNow_89 : decode cX8_highestNow 89 = .ok (.iload 6, 2) := by decide +kernel
theorem dX8_highestNow_91 : decode cX8_highestNow 91 = .ok (.iaload, 1) := by decide +kernel
theorem dX8_highestNow_92 : decode cX8_highestNow 92 = .ok (.invokestatic 99, 3) := by decide +kernel
theorem dX8_highestNow_95 : decode cX8_highestNow 95 = .ok (.iadd, 1) := by decide +kernel
theorem dX8_highestNow_96 : decode cX8_highestNow 96 = .ok (.aload_n 0, 1) := by decide +kernel
theorem dX8_highestNow_97 : decode cX8_highestNow 97 = .ok (.getfield 20, 3) := by decide +kernel
theorem dX8_highestNow_100 : decode cX8_highestNow 100 = .ok (.iload 7, 2) := by decide +kernel
theorem dX8_highestNow_102 : decode cX8_highestNow 102 = .ok (.iaload, 1) := by decide +kernel
theorem dX8_highestNow_103 : decode cX8_highestNow 103 = .ok (.invokestatic 99, 3) := by decide +kernel
theorem dX8_highestNow_106 : decode cX8_highestNow 106 = .ok (.iadd, 1) := by decide +kernel
theorem dX8_highestNow_107 : decode cX8_highestNow 107 = .ok (.istore 8, 2) := by decide +kernel
theorem dX8_highestNow_109 : decode cX8_highestNow 109 = .ok (.iconst 1, 1) := by decide +kernel
theorem dX8_highestNow_110 : decode cX8_highestNow 110 = .ok (.iload 5, 2) := by decide +kernel
theorem dX8_highestNow_112 : decode cX8_highestNow 112 = .ok (.ishl, 1) := by decide +kernel
theorem dX8_highestNow_113 : decode cX8_highestNow 113 = .ok (.iconst 1, 1) := by decide +kernel
theorem dX8_highestNow_114 : decode cX8_highestNow 114 = .ok (.iload 6, 2) := by decide +kernel
theorem dX8_highestNow_116 : decode cX8_highestNow 116 = .ok (.ishl, 1) := by decide +kernel
theorem dX8_highestNow_117 : decode cX8_highestNow 117 = .ok (.ior, 1) := by decide +kernel
theorem dX8_highestNow_118 : decode cX8_highestNow 118 = .ok (.iconst 1, 1) := by decide +kernel
theorem dX8_highestNow_119 : decode cX8_highestNow 119 = .ok (.iload 7, 2) := by decide +kernel
theorem dX8_highestNow_121 : decode cX8_highestNow 121 = .ok (.ishl, 1) := by decide +kernel
theorem dX8_highestNow_122 : decode cX8_highestNow 122 = .ok (.ior, 1) := by decide +kernel
theorem dX8_highestNow_123 : decode cX8_highestNow 123 = .ok (.istore 9, 2) := by decide +kernel
theorem dX8_highestNow_125 : decode cX8_highestNow 125 = .ok (.iload 8, 2) := by decide +kernel
theorem dX8_highestNow_127 : decode cX8_highestNow 127 = .ok (.iload_n 2, 1) := by decide +kernel
theorem dX8_highestNow_128 : decode cX8_highestNow 128 = .ok (.if_icmp .gt 15, 3) := by decide +kernel
theorem dX8_highestNow_131 : decode cX8_highestNow 131 = .ok (.iload 8, 2) := by decide +kernel
theorem dX8_highestNow_133 : decode cX8_highestNow 133 = .ok (.iload_n 2, 1) := by decide +kernel
theorem dX8_highestNow_134 : decode cX8_highestNow 134 = .ok (.if_icmp .ne 14, 3) := by decide +kernel
theorem dX8_highestNow_137 : decode cX8_highestNow 137 = .ok (.iload 9, 2) := by decide +kernel
theorem dX8_highestNow_139 : decode cX8_highestNow 139 = .ok (.iload_n 3, 1) := by decide +kernel
theorem dX8_highestNow_140 : decode cX8_highestNow 140 = .ok (.if_icmp .ge 8, 3) := by decide +kernel
theorem dX8_highestNow_143 : decode cX8_highestNow 143 = .ok (.iload 9, 2) := by decide +kernel
theorem dX8_highestNow_145 : decode cX8_highestNow 145 = .ok (.goto 4, 3) := by decide +kernel
theorem dX8_highestNow_148 : decode cX8_highestNow 148 = .ok (.iload_n 3, 1) := by decide +kernel
theorem dX8_highestNow_149 : decode cX8_highestNow 149 = .ok (.istore_n 3, 1) := by decide +kernel
theorem dX8_highestNow_150 : decode cX8_highestNow 150 = .ok (.iload 8, 2) := by decide +kernel
theorem dX8_highestNow_152 : decode cX8_highestNow 152 = .ok (.iload_n 2, 1) := by decide +kernel
theorem dX8_highestNow_153 : decode cX8_highestNow 153 = .ok (.if_icmp .le 8, 3) := by decide +kernel
theorem dX8_highestNow_156 : decode cX8_highestNow 156 = .ok (.iload 8, 2) := by decide +kernel
theorem dX8_highestNow_158 : decode cX8_highestNow 158 = .ok (.goto 4, 3) := by decide +kernel
theorem dX8_highestNow_161 : decode cX8_highestNow 161 = .ok (.iload_n 2, 1) := by decide +kernel
theorem dX8_highestNow_162 : decode cX8_highestNow 162 = .ok (.istore_n 2, 1) := by decide +kernel
theorem dX8_highestNow_163 : decode cX8_highestNow 163 = .ok (.iinc 4 1, 3) := by decide +kernel
theorem dX8_highestNow_166 : decode cX8_highestNow 166 = .ok (.goto (-159), 3) := by decide +kernel
theorem dX8_highestNow_169 : decode cX8_highestNow 169 = .ok (.iload_n 1, 1) := by decide +kernel
theorem dX8_highestNow_170 : decode cX8_highestNow 170 = .ok (.ifCond .ne 7, 3) := by decide +kernel
theorem dX8_highestNow_173 : decode cX8_highestNow 173 = .ok (.iload_n 2, 1) := by decide +kernel
theorem dX8_highestNow_174 : decode cX8_highestNow 174 = .ok (.goto 4, 3) := by decide +kernel
theorem dX8_highestNow_177 : decode cX8_highestNow 177 = .ok (.iload_n 3, 1) := by decide +kernel
theorem dX8_highestNow_178 : decode cX8_highestNow 178 = .ok (.ireturn, 1) := by decide +kernel
theorem dX8_highest_0 : decode cX8_highest 0 = .ok (.iload_n 1, 1) := by decide +kernel
theorem dX8_highest_1 : decode cX8_highest 1 = .ok (.iconst 0, 1) := by decide +kernel
theorem dX8_highest_2 : decode cX8_highest 2 = .ok (.iconst 1, 1) := by decide +kernel
theorem dX8_highest_3 : decode cX8_highest 3 = .ok (.invokestatic 66, 3) := by decide +kernel
theorem dX8_highest_6 : decode cX8_highest 6 = .ok (.ifCond .eq 11, 3) := by decide +kernel
theorem dX8_highest_9 : decode cX8_highest 9 = .ok (.aload_n 0, 1) := by decide +kernel
theorem dX8_highest_10 : decode cX8_highest 10 = .ok (.iload_n 1, 1) := by decide +kernel
theorem dX8_highest_11 : decode cX8_highest 11 = .ok (.invokevirtual 202, 3) := by decide +kernel
theorem dX8_highest_14 : decode cX8_highest 14 = .ok (.goto 5, 3) := by decide +kernel
theorem dX8_highest_17 : decode cX8_highest 17 = .ok (.bipush (-102), 2) := by decide +kernel
theorem dX8_highest_19 : decode cX8_highest 19 = .ok (.ireturn, 1) := by decide +kernel
theorem dX8_lastsNow_0 : decode cX8_lastsNow 0 = .ok (.iconst (-1), 1) := by decide +kernel
theorem dX8_lastsNow_1 : decode cX8_lastsNow 1 = .ok (.istore_n 2, 1) := by decide +kernel
theorem dX8_lastsNow_2 : decode cX8_lastsNow 2 = .ok (.iconst 0, 1) := by decide +kernel
theorem dX8_lastsNow_3 : decode cX8_lastsNow 3 = .ok (.istore_n 3, 1) := by decide +kernel
theorem dX8_lastsNow_4 : decode cX8_lastsNow 4 = .ok (.iload_n 3, 1) := by decide +kernel
theorem dX8_lastsNow_5 : decode cX8_lastsNow 5 = .ok (.aload_n 0, 1) := by decide +kernel
theorem dX8_lastsNow_6 : decode cX8_lastsNow 6 = .ok (.getfield 92, 3) := by decide +kernel
theorem dX8_lastsNow_9 : decode cX8_lastsNow 9 = .ok (.if_icmp .ge 65, 3) := by decide +kernel
theorem dX8_lastsNow_12 : decode cX8_lastsNow 12 = .ok (.aload_n 0, 1) := by decide +kernel
theorem dX8_lastsNow_13 : decode cX8_lastsNow 13 = .ok (.getfield 23, 3) := by decide +kernel
theorem dX8_lastsNow_16 : decode cX8_lastsNow 16 = .ok (.iload_n 3, 1) := by decide +kernel
theorem dX8_lastsNow_17 : decode cX8_lastsNow 17 = .ok (.iaload, 1) := by decide +kernel
theorem dX8_lastsNow_18 : decode cX8_lastsNow 18 = .ok (.iconst (-1), 1) := by decide +kernel
theorem dX8_lastsNow_19 : decode cX8_lastsNow 19 = .ok (.if_icmp .eq 49, 3) := by decide +kernel
theorem dX8_lastsNow_22 : decode cX8_lastsNow 22 = .ok (.aload_n 0, 1) := by decide +kernel
theorem dX8_lastsNow_23 : decode cX8_lastsNow 23 = .ok (.getfield 17, 3) := by decide +kernel
theorem dX8_lastsNow_26 : decode cX8_lastsNow 26 = .ok (.iload_n 3, 1) := by decide +kernel
theorem dX8_lastsNow_27 : decode cX8_lastsNow 27 = .ok (.iaload, 1) := by decide +kernel
theorem dX8_lastsNow_28 : decode cX8_lastsNow 28 = .ok (.iload_n 1, 1) := by decide +kernel
theorem dX8_lastsNow_29 : decode cX8_lastsNow 29 = .ok (.invokestatic 156, 3) := by decide +kernel
theorem dX8_lastsNow_32 : decode cX8_lastsNow 32 = .ok (.istore 4, 2) := by decide +kernel
theorem dX8_lastsNow_34 : decode cX8_lastsNow 34 = .ok (.aload_n 0, 1) := by decide +kernel
theorem dX8_lastsNow_35 : decode cX8_lastsNow 35 = .ok (.getfield 20, 3) := by decide +kernel
theorem dX8_lastsNow_38 : decode cX8_lastsNow 38 = .ok (.iload_n 3, 1) := by decide +kernel
theorem dX8_lastsNow_39 : decode cX8_lastsNow 39 = .ok (.iaload, 1) := by decide +kernel
theorem dX8_lastsNow_40 : decode cX8_lastsNow 40 = .ok (.iload 4, 2) := by decide +kernel
theorem dX8_lastsNow_42 : decode cX8_lastsNow 42 = .ok (.iadd, 1) := by decide +kernel
theorem dX8_lastsNow_43 : decode cX8_lastsNow 43 = .ok (.iconst 1, 1) := by decide +kernel
theorem dX8_lastsNow_44 : decode cX8_lastsNow 44 = .ok (.isub, 1) := by decide +kernel
theorem dX8_lastsNow_45 : decode cX8_lastsNow 45 = .ok (.iload 4, 2) := by decide +kernel
theorem dX8_lastsNow_47 : decode cX8_lastsNow 47 = .ok (.idiv, 1) := by decide +kernel
theorem dX8_lastsNow_48 : decode cX8_lastsNow 48 = .ok (.istore 5, 2) := by decide +kernel
theorem dX8_lastsNow_50 : decode cX8_lastsNow 50 = .ok (.iload_n 2, 1) := by decide +kernel
theorem dX8_lastsNow_51 : decode cX8_lastsNow 51 = .ok (.iconst (-1), 1) := by decide +kernel
theorem dX8_lastsNow_52 : decode cX8_lastsNow 52 = .ok (.if_icmp .eq 9, 3) := by decide +kernel
theorem dX8_lastsNow_55 : decode cX8_lastsNow 55 = .ok (.iload 5, 2) := by decide +kernel
theorem dX8_lastsNow_57 : decode cX8_lastsNow 57 = .ok (.iload_n 2, 1) := by decide +kernel
theorem dX8_lastsNow_58 : decode cX8_lastsNow 58 = .ok (.if_icmp .ge 8, 3) := by decide +kernel
theorem dX8_lastsNow_61 : decode cX8_lastsNow 61 = .ok (.iload 5, 2) := by decide +kernel
theorem dX8_lastsNow_63 : decode cX8_lastsNow 63 = .ok (.goto 4, 3) := by decide +kernel
theorem dX8_lastsNow_66 : decode cX8_lastsNow 66 = .ok (.iload_n 2, 1) := by decide +kernel
theorem dX8_lastsNow_67 : decode cX8_lastsNow 67 = .ok (.istore_n 2, 1) := by decide +kernel
theorem dX8_lastsNow_68 : decode cX8_lastsNow 68 = .ok (.iinc 3 1, 3) := by decide +kernel
theorem dX8_lastsNow_71 : decode cX8_lastsNow 71 = .ok (.goto (-67), 3) := by decide +kernel
theorem dX8_lastsNow_74 : decode cX8_lastsNow 74 = .ok (.iload_n 2, 1) := by decide +kernel
theorem dX8_lastsNow_75 : decode cX8_lastsNow 75 = .ok (.ireturn, 1) := by decide +kernel
theorem dX8_lasts_0 : decode cX8_lasts 0 = .ok (.iload_n 1, 1) := by decide +kernel
theorem dX8_lasts_1 : decode cX8_lasts 1 = .ok (.iconst 1, 1) := by decide +kernel
theorem dX8_lasts_2 : decode cX8_lasts 2 = .ok (.bipush 9, 2) := by decide +kernel
theorem dX8_lasts_4 : decode cX8_lasts 4 = .ok (.invokestatic 66, 3) := by decide +kernel
theorem dX8_lasts_7 : decode cX8_lasts 7 = .ok (.ifCond .eq 11, 3) := by decide +kernel
theorem dX8_lasts_10 : decode cX8_lasts 10 = .ok (.aload_n 0, 1) := by decide +kernel
theorem dX8_lasts_11 : decode cX8_lasts 11 = .ok (.iload_n 1, 1) := by decide +kernel
theorem dX8_lasts_12 : decode cX8_lasts 12 = .ok (.invokevirtual 205, 3) := by decide +kernel
theorem dX8_lasts_15 : decode cX8_lasts 15 = .ok (.goto 5, 3) := by decide +kernel
theorem dX8_lasts_18 : decode cX8_lasts 18 = .ok (.bipush (-102), 2) := by decide +kernel
theorem dX8_lasts_20 : decode cX8_lasts 20 = .ok (.ireturn, 1) := by decide +kernel
theorem dX8_bookNow_0 : decode cX8_bookNow 0 = .ok (.iconst 0, 1) := by decide +kernel
theorem dX8_bookNow_1 : decode cX8_bookNow 1 = .ok (.istore 5, 2) := by decide +kernel
theorem dX8_bookNow_3 : decode cX8_bookNow 3 = .ok (.aload_n 0, 1) := by decide +kernel
theorem dX8_bookNow_4 : decode cX8_bookNow 4 = .ok (.iconst 4, 1) := by decide +kernel
theorem dX8_bookNow_5 : decode cX8_bookNow 5 = .ok (.iload_n 1, 1) := by decide +kernel
theorem dX8_bookNow_6 : decode cX8_bookNow 6 = .ok (.iload_n 2, 1) := by decide +kernel
theorem dX8_bookNow_7 : decode cX8_bookNow 7 = .ok (.invokevirtual 113, 3) := by decide +kernel
theorem dX8_bookNow_10 : decode cX8_bookNow 10 = .ok (.aload_n 0, 1) := by decide +kernel
theorem dX8_bookNow_11 : decode cX8_bookNow 11 = .ok (.iconst 4, 1) := by decide +kernel
theorem dX8_bookNow_12 : decode cX8_bookNow 12 = .ok (.invokevirtual 181, 3) := by decide +kernel
theorem dX8_bookNow_15 : decode cX8_bookNow 15 = .ok (.iconst 0, 1) := by decide +kernel
theorem dX8_bookNow_16 : decode cX8_bookNow 16 = .ok (.istore 6, 2) := by decide +kernel
theorem dX8_bookNow_18 : decode cX8_bookNow 18 = .ok (.iload 6, 2) := by decide +kernel
theorem dX8_bookNow_20 : decode cX8_bookNow 20 = .ok (.iload_n 3, 1) := by decide +kernel
theorem dX8_bookNow_21 : decode cX8_bookNow 21 = .ok (.invokestatic 172, 3) := by decide +kernel
theorem dX8_bookNow_24 : decode cX8_bookNow 24 = .ok (.if_icmp .ge 50, 3) := by decide +kernel
theorem dX8_bookNow_27 : decode cX8_bookNow 27 = .ok (.aload_n 0, 1) := by decide +kernel
theorem dX8_bookNow_28 : decode cX8_bookNow 28 = .ok (.iconst 4, 1) := by decide +kernel
theorem dX8_bookNow_29 : decode cX8_bookNow 29 = .ok (.iload 6, 2) := by decide +kernel
theorem dX8_bookNow_31 : decode cX8_bookNow 31 = .ok (.iload_n 3, 1) := by decide +kernel
theorem dX8_bookNow_32 : decode cX8_bookNow 32 = .ok (.invokevirtual 184, 3) := by decide +kernel
theorem dX8_bookNow_35 : decode cX8_bookNow 35 = .ok (.istore 7, 2) := by decide +kernel
theorem dX8_bookNow_37 : decode cX8_bookNow 37 = .ok (.iload 5, 2) := by decide +kernel
theorem dX8_bookNow_39 : decode cX8_bookNow 39 = .ok (.iload 7, 2) := by decide +kernel
theorem dX8_bookNow_41 : decode cX8_bookNow 41 = .ok (.ifCond .eq 18, 3) := by decide +kernel
theorem dX8_bookNow_44 : decode cX8_bookNow 44 = .ok (.aload_n 0, 1) := by decide +kernel
theorem dX8_bookNow_45 : decode cX8_bookNow 45 = .ok (.getfield 20, 3) := by decide +kernel
theorem dX8_bookNow_48 : decode cX8_bookNow 48 = .ok (.iconst 4, 1) := by decide +kernel
theorem dX8_bookNow_49 : decode cX8_bookNow 49 = .ok (.iaload, 1) := by decide +kernel
theorem dX8_bookNow_50 : decode cX8_bookNow 50 = .ok (.iload 4, 2) := by decide +kernel
theorem dX8_bookNow_52 : decode cX8_bookNow 52 = .ok (.if_icmp .ne 7, 3) := by decide +kernel
theorem dX8_bookNow_55 : decode cX8_bookNow 55 = .ok (.iconst 1, 1) := by decide +kernel
theorem dX8_bookNow_56 : decode cX8_bookNow 56 = .ok (.goto 4, 3) := by decide +kernel
theorem dX8_bookNow_59 : decode cX8_bookNow 59 = .ok (.iconst 0, 1) := by decide +kernel
theorem dX8_bookNow_60 : decode cX8_bookNow 60 = .ok (.iadd, 1) := by decide +kernel
theorem dX8_bookNow_61 : decode cX8_bookNow 61 = .ok (.istore 5, 2) := by decide +kernel
theorem dX8_bookNow_63 : decode cX8_bookNow 63 = .ok (.aload_n 0, 1) := by decide +kernel
theorem dX8_bookNow_64 : decode cX8_bookNow 64 = .ok (.iconst 4, 1) := by decide +kernel
theorem dX8_bookNow_65 : decode cX8_bookNow 65 = .ok (.invokevirtual 187, 3) := by decide +kernel
theorem dX8_bookNow_68 : decode cX8_bookNow 68 = .ok (.iinc 6 1, 3) := by decide +kernel
theorem dX8_bookNow_71 : decode cX8_bookNow 71 = .ok (.goto (-53), 3) := by decide +kernel
theorem dX8_bookNow_74 : decode cX8_bookNow 74 = .ok (.iload 5, 2) := by decide +kernel
theorem dX8_bookNow_76 : decode cX8_bookNow 76 = .ok (.ireturn, 1) := by decide +kernel
theorem dX8_book_0 : decode cX8_book 0 = .ok (.iload_n 1, 1) := by decide +kernel
theorem dX8_book_1 : decode cX8_book 1 = .ok (.iconst 0, 1) := by decide +kernel
theorem dX8_book_2 : decode cX8_book 2 = .ok (.iconst 4, 1) := by decide +kernel
theorem dX8_book_3 : decode cX8_book 3 = .ok (.invokestatic 66, 3) := by decide +kernel
theorem dX8_book_6 : decode cX8_book 6 = .ok (.ifCond .ne 6, 3) := by decide +kernel
theorem dX8_book_9 : decode cX8_book 9 = .ok (.bipush (-102), 2) := by decide +kernel
theorem dX8_book_11 : decode cX8_book 11 = .ok (.ireturn, 1) := by decide +kernel
theorem dX8_book_12 : decode cX8_book 12 = .ok (.iload_n 2, 1) := by decide +kernel
theorem dX8_book_13 : decode cX8_book 13 = .ok (.invokestatic 103, 3) := by decide +kernel
theorem dX8_book_16 : decode cX8_book 16 = .ok (.ifCond .ne 6, 3) := by decide +kernel
theorem dX8_book_19 : decode cX8_book 19 = .ok (.bipush (-101), 2) := by decide +kernel
theorem dX8_book_21 : decode cX8_book 21 = .ok (.ireturn, 1) := by decide +kernel
theorem dX8_book_22 : decode cX8_book 22 = .ok (.iload_n 3, 1) := by decide +kernel
theorem dX8_book_23 : decode cX8_book 23 = .ok (.iconst 0, 1) := by decide +kernel
theorem dX8_book_24 : decode cX8_book 24 = .ok (.iconst 5, 1) := by decide +kernel
theorem dX8_book_25 : decode cX8_book 25 = .ok (.invokestatic 66, 3) := by decide +kernel
theorem dX8_book_28 : decode cX8_book 28 = .ok (.ifCond .eq 14, 3) := by decide +kernel
theorem dX8_book_31 : decode cX8_book 31 = .ok (.iload 4, 2) := by decide +kernel
theorem dX8_book_33 : decode cX8_book 33 = .ok (.iconst 0, 1) := by decide +kernel
theorem dX8_book_34 : decode cX8_book 34 = .ok (.bipush 99, 2) := by decide +kernel
theorem dX8_book_36 : decode cX8_book 36 = .ok (.invokestatic 66, 3) := by decide +kernel
theorem dX8_book_39 : decode cX8_book 39 = .ok (.ifCond .ne 6, 3) := by decide +kernel
theorem dX8_book_42 : decode cX8_book 42 = .ok (.bipush (-102), 2) := by decide +kernel
theorem dX8_book_44 : decode cX8_book 44 = .ok (.ireturn, 1) := by decide +kernel
theorem dX8_book_45 : decode cX8_book 45 = .ok (.aload_n 0, 1) := by decide +kernel
theorem dX8_book_46 : decode cX8_book 46 = .ok (.getfield 82, 3) := by decide +kernel
theorem dX8_book_49 : decode cX8_book 49 = .ok (.ifCond .eq 12, 3) := by decide +kernel
theorem dX8_book_52 : decode cX8_book 52 = .ok (.aload_n 0, 1) := by decide +kernel
theorem dX8_book_53 : decode cX8_book 53 = .ok (.getfield 208, 3) := by decide +kernel
theorem dX8_book_56 : decode cX8_book 56 = .ok (.bipush 60, 2) := by decide +kernel
theorem dX8_book_58 : decode cX8_book 58 = .ok (.if_icmp .ne 6, 3) := by decide +kernel
theorem dX8_book_61 : decode cX8_book 61 = .ok (.bipush (-103), 2) := by decide +kernel
theorem dX8_book_63 : decode cX8_book 63 = .ok (.ireturn, 1) := by decide +kernel
theorem dX8_book_64 : decode cX8_book 64 = .ok (.aload_n 0, 1) := by decide +kernel
theorem dX8_book_65 : decode cX8_book 65 = .ok (.dup, 1) := by decide +kernel
theorem dX8_book_66 : decode cX8_book 66 = .ok (.getfield 208, 3) := by decide +kernel
theorem dX8_book_69 : decode cX8_book 69 = .ok (.iconst 1, 1) := by decide +kernel
theorem dX8_book_70 : decode cX8_book 70 = .ok (.iadd, 1) := by decide +kernel
theorem dX8_book_71 : decode cX8_book 71 = .ok (.putfield 208, 3) := by decide +kernel
theorem dX8_book_74 : decode cX8_book 74 = .ok (.aload_n 0, 1) := by decide +kernel
theorem dX8_book_75 : decode cX8_book 75 = .ok (.iload_n 1, 1) := by decide +kernel
theorem dX8_book_76 : decode cX8_book 76 = .ok (.iload_n 2, 1) := by decide +kernel
theorem dX8_book_77 : decode cX8_book 77 = .ok (.iload_n 3, 1) := by decide +kernel
theorem dX8_book_78 : decode cX8_book 78 = .ok (.iload 4, 2) := by decide +kernel
theorem dX8_book_80 : decode cX8_book 80 = .ok (.invokevirtual 211, 3) := by decide +kernel
theorem dX8_book_83 : decode cX8_book 83 = .ok (.ireturn, 1) := by decide +kernel
theorem dX8_draw_0 : decode cX8_draw 0 = .ok (.aload_n 0, 1) := by decide +kernel
theorem dX8_draw_1 : decode cX8_draw 1 = .ok (.ldc2_w 215, 3) := by decide +kernel
theorem dX8_draw_4 : decode cX8_draw 4 = .ok (.aload_n 0, 1) := by decide +kernel
theorem dX8_draw_5 : decode cX8_draw 5 = .ok (.getfield 217, 3) := by decide +kernel
theorem dX8_draw_8 : decode cX8_draw 8 = .ok (.lmul, 1) := by decide +kernel
theorem dX8_draw_9 : decode cX8_draw 9 = .ok (.ldc2_w 221, 3) := by decide +kernel
theorem dX8_draw_12 : decode cX8_draw 12 = .ok (.ladd, 1) := by decide +kernel
theorem dX8_draw_13 : decode cX8_draw 13 = .ok (.ldc2_w 223, 3) := by decide +kernel
theorem dX8_draw_16 : decode cX8_draw 16 = .ok (.land, 1) := by decide +kernel
theorem dX8_draw_17 : decode cX8_draw 17 = .ok (.putfield 217, 3) := by decide +kernel
theorem dX8_draw_20 : decode cX8_draw 20 = .ok (.aload_n 0, 1) := by decide +kernel
theorem dX8_draw_21 : decode cX8_draw 21 = .ok (.getfield 217, 3) := by decide +kernel
theorem dX8_draw_24 : decode cX8_draw 24 = .ok (.ldc2_w 225, 3) := by decide +kernel
theorem dX8_draw_27 : decode cX8_draw 27 = .ok (.ldiv, 1) := by decide +kernel
theorem dX8_draw_28 : decode cX8_draw 28 = .ok (.iload_n 1, 1) := by decide +kernel
theorem dX8_draw_29 : decode cX8_draw 29 = .ok (.i2l, 1) := by decide +kernel
theorem dX8_draw_30 : decode cX8_draw 30 = .ok (.lrem, 1) := by decide +kernel
theorem dX8_draw_31 : decode cX8_draw 31 = .ok (.l2i, 1) := by decide +kernel
theorem dX8_draw_32 : decode cX8_draw 32 = .ok (.ireturn, 1) := by decide +kernel
theorem dX8_sizeAll_0 : decode cX8_sizeAll 0 = .ok (.iconst 0, 1) := by decide +kernel
theorem dX8_sizeAll_1 : decode cX8_sizeAll 1 = .ok (.istore_n 1, 1) := by decide +kernel
theorem dX8_sizeAll_2 : decode cX8_sizeAll 2 = .ok (.iconst 0, 1) := by decide +kernel
theorem dX8_sizeAll_3 : decode cX8_sizeAll 3 = .ok (.istore_n 2, 1) := by decide +kernel
theorem dX8_sizeAll_4 : decode cX8_sizeAll 4 = .ok (.iload_n 2, 1) := by decide +kernel
theorem dX8_sizeAll_5 : decode cX8_sizeAll 5 = .ok (.aload_n 0, 1) := by decide +kernel
theorem dX8_sizeAll_6 : decode cX8_sizeAll 6 = .ok (.getfield 92, 3) := by decide +kernel
theorem dX8_sizeAll_9 : decode cX8_sizeAll 9 = .ok (.if_icmp .ge 18, 3) := by decide +kernel
theorem dX8_sizeAll_12 : decode cX8_sizeAll 12 = .ok (.iload_n 1, 1) := by decide +kernel
theorem dX8_sizeAll_13 : decode cX8_sizeAll 13 = .ok (.aload_n 0, 1) := by decide +kernel
theorem dX8_sizeAll_14 : decode cX8_sizeAll 14 = .ok (.getfield 20, 3) := by decide +kernel
theorem dX8_sizeAll_17 : decode cX8_sizeAll 17 = .ok (.iload_n 2, 1) := by decide +kernel
theorem dX8_sizeAll_18 : decode cX8_sizeAll 18 = .ok (.iaload, 1) := by decide +kernel
theorem dX8_sizeAll_19 : decode cX8_sizeAll 19 = .ok (.iadd, 1) := by decide +kernel
theorem dX8_sizeAll_20 : decode cX8_sizeAll 20 = .ok (.istore_n 1, 1) := by decide +kernel
theorem dX8_sizeAll_21 : decode cX8_sizeAll 21 = .ok (.iinc 2 1, 3) := by decide +kernel
theorem dX8_sizeAll_24 : decode cX8_sizeAll 24 = .ok (.goto (-20), 3) := by decide +kernel
theorem dX8_sizeAll_27 : decode cX8_sizeAll 27 = .ok (.iload_n 1, 1) := by decide +kernel
theorem dX8_sizeAll_28 : decode cX8_sizeAll 28 = .ok (.ireturn, 1) := by decide +kernel
theorem dX8_gamesNow_0 : decode cX8_gamesNow 0 = .ok (.iconst 0, 1) := by decide +kernel
theorem dX8_gamesNow_1 : decode cX8_gamesNow 1 = .ok (.istore 4, 2) := by decide +kernel
theorem dX8_gamesNow_3 : decode cX8_gamesNow 3 = .ok (.iload 4, 2) := by decide +kernel
theorem dX8_gamesNow_5 : decode cX8_gamesNow 5 = .ok (.bipush 20, 2) := by decide +kernel
theorem dX8_gamesNow_7 : decode cX8_gamesNow 7 = .ok (.if_icmp .ge 23, 3) := by decide +kernel
theorem dX8_gamesNow_10 : decode cX8_gamesNow 10 = .ok (.aload_n 0, 1) := by decide +kernel
theorem dX8_gamesNow_11 : decode cX8_gamesNow 11 = .ok (.getfield 48, 3) := by decide +kernel
theorem dX8_gamesNow_14 : decode cX8_gamesNow 14 = .ok (.iload 4, 2) := by decide +kernel
theorem dX8_gamesNow_16 : decode cX8_gamesNow 16 = .ok (.aload_n 0, 1) := by decide +kernel
theorem dX8_gamesNow_17 : decode cX8_gamesNow 17 = .ok (.getfield 7, 3) := by decide +kernel
theorem dX8_gamesNow_20 : decode cX8_gamesNow 20 = .ok (.iload 4, 2) := by decide +kernel
theorem dX8_gamesNow_22 : decode cX8_gamesNow 22 = .ok (.iaload, 1) := by decide +kernel
theorem dX8_gamesNow_23 : decode cX8_gamesNow 23 = .ok (.iastore, 1) := by decide +kernel
theorem dX8_gamesNow_24 : decode cX8_gamesNow 24 = .ok (.iinc 4 1, 3) := by decide +kernel
theorem dX8_gamesNow_27 : decode cX8_gamesNow 27 = .ok (.goto (-24), 3) := by decide +kernel
theorem dX8_gamesNow_30 : decode cX8_gamesNow 30 = .ok (.iconst 0, 1) := by decide +kernel
theorem dX8_gamesNow_31 : decode cX8_gamesNow 31 = .ok (.istore 4, 2) := by decide +kernel
theorem dX8_gamesNow_33 : decode cX8_gamesNow 33 = .ok (.iload 4, 2) := by decide +kernel
theorem dX8_gamesNow_35 : decode cX8_gamesNow 35 = .ok (.aload_n 0, 1) := by decide +kernel
theorem dX8_gamesNow_36 : decode cX8_gamesNow 36 = .ok (.getfield 92, 3) := by decide +kernel
theorem dX8_gamesNow_39 : decode cX8_gamesNow 39 = .ok (.if_icmp .ge 51, 3) := by decide +kernel
theorem dX8_gamesNow_42 : decode cX8_gamesNow 42 = .ok (.aload_n 0, 1) := by decide +kernel
theorem dX8_gamesNow_43 : decode cX8_gamesNow 43 = .ok (.getfield 39, 3) := by decide +kernel
theorem dX8_gamesNow_46 : decode cX8_gamesNow 46 = .ok (.iload 4, 2) := by decide +kernel
theorem dX8_gamesNow_48 : decode cX8_gamesNow 48 = .ok (.aload_n 0, 1) := by decide +kernel
theorem dX8_gamesNow_49 : decode cX8_gamesNow 49 = .ok (.getfield 20, 3) := by decide +kernel
theorem dX8_gamesNow_52 : decode cX8_gamesNow 52 = .ok (.iload 4, 2) := by decide +kernel
theorem dX8_gamesNow_54 : decode cX8_gamesNow 54 = .ok (.iaload, 1) := by decide +kernel
theorem dX8_gamesNow_55 : decode cX8_gamesNow 55 = .ok (.iastore, 1) := by decide +kernel
theorem dX8_gamesNow_56 : decode cX8_gamesNow 56 = .ok (.aload_n 0, 1) := by decide +kernel
theorem dX8_gamesNow_57 : decode cX8_gamesNow 57 = .ok (.getfield 42, 3) := by decide +kernel
theorem dX8_gamesNow_60 : decode cX8_gamesNow 60 = .ok (.iload 4, 2) := by decide +kernel
theorem dX8_gamesNow_62 : decode cX8_gamesNow 62 = .ok (.aload_n 0, 1) := by decide +kernel
theorem dX8_gamesNow_63 : decode cX8_gamesNow 63 = .ok (.getfield 23, 3) := by decide +kernel
theorem dX8_gamesNow_66 : decode cX8_gamesNow 66 = .ok (.iload 4, 2) := by decide +kernel
theorem dX8_gamesNow_68 : decode cX8_gamesNow 68 = .ok (.iaload, 1) := by decide +kernel
theorem dX8_gamesNow_69 : decode cX8_gamesNow 69 = .ok (.iastore, 1) := by decide +kernel
theorem dX8_gamesNow_70 : decode cX8_gamesNow 70 = .ok (.aload_n 0, 1) := by decide +kernel
theorem dX8_gamesNow_71 : decode cX8_gamesNow 71 = .ok (.getfield 45, 3) := by decide +kernel
theorem dX8_gamesNow_74 : decode cX8_gamesNow 74 = .ok (.iload 4, 2) := by decide +kernel
theorem dX8_gamesNow_76 : decode cX8_gamesNow 76 = .ok (.aload_n 0, 1) := by decide +kernel
theorem dX8_gamesNow_77 : decode cX8_gamesNow 77 = .ok (.getfield 29, 3) := by decide +kernel
theorem dX8_gamesNow_80 : decode cX8_gamesNow 80 = .ok (.iload 4, 2) := by decide +kernel
theorem dX8_gamesNow_82 : decode cX8_gamesNow 82 = .ok (.iaload, 1) := by decide +kernel
theorem dX8_gamesNow_83 : decode cX8_gamesNow 83 = .ok (.iastore, 1) := by decide +kernel
theorem dX8_gamesNow_84 : decode cX8_gamesNow 84 = .ok (.iinc 4 1, 3) := by decide +kernel
theorem dX8_gamesNow_87 : decode cX8_gamesNow 87 = .ok (.goto (-54), 3) := by decide +kernel
theorem dX8_gamesNow_90 : decode cX8_gamesNow 90 = .ok (.aload_n 0, 1) := by decide +kernel
theorem dX8_gamesNow_91 : decode cX8_gamesNow 91 = .ok (.iload_n 2, 1) := by decide +kernel
theorem dX8_gamesNow_92 : decode cX8_gamesNow 92 = .ok (.i2l, 1) := by decide +kernel
theorem dX8_gamesNow_93 : decode cX8_gamesNow 93 = .ok (.putfield 217, 3) := by decide +kernel
theorem dX8_gamesNow_96 : decode cX8_gamesNow 96 = .ok (.iconst 0, 1) := by decide +kernel
theorem dX8_gamesNow_97 : decode cX8_gamesNow 97 = .ok (.istore 4, 2) := by decide +kernel
theorem dX8_gamesNow_99 : decode cX8_gamesNow 99 = .ok (.iconst 0, 1) := by decide +kernel
theorem dX8_gamesNow_100 : decode cX8_gamesNow 100 = .ok (.istore 5, 2) := by decide +kernel
theorem dX8_gamesNow_102 : decode cX8_gamesNow 102 = .ok (.iload 5, 2) := by decide +kernel
theorem dX8_gamesNow_104 : decode cX8_gamesNow 104 = .ok (.iload_n 1, 1) := by decide +kernel
theorem dX8_gamesNow_105 : decode cX8_gamesNow 105 = .ok (.if_icmp .ge 48, 3) := by decide +kernel
theorem dX8_gamesNow_108 : decode cX8_gamesNow 108 = .ok (.aload_n 0, 1) := by decide +kernel
theorem dX8_gamesNow_109 : decode cX8_gamesNow 109 = .ok (.aload_n 0, 1) := by decide +kernel
theorem dX8_gamesNow_110 : decode cX8_gamesNow 110 = .ok (.getfield 92, 3) := by decide +kernel
theorem dX8_gamesNow_113 : decode cX8_gamesNow 113 = .ok (.invokevirtual 227, 3) := by decide +kernel
theorem dX8_gamesNow_116 : decode cX8_gamesNow 116 = .ok (.istore 6, 2) := by decide +kernel
theorem dX8_gamesNow_118 : decode cX8_gamesNow 118 = .ok (.aload_n 0, 1) := by decide +kernel
theorem dX8_gamesNow_119 : decode cX8_gamesNow 119 = .ok (.iconst 4, 1) := by decide +kernel
theorem dX8_gamesNow_120 : decode cX8_gamesNow 120 = .ok (.invokevirtual 227, 3) := by decide +kernel
theorem dX8_gamesNow_123 : decode cX8_gamesNow 123 = .ok (.istore 7, 2) := by decide +kernel
theorem dX8_gamesNow_125 : decode cX8_gamesNow 125 = .ok (.aload_n 0, 1) := by decide +kernel
theorem dX8_gamesNow_126 : decode cX8_gamesNow 126 = .ok (.iload 6, 2) := by decide +kernel
theorem dX8_gamesNow_128 : decode cX8_gamesNow 128 = .ok (.iload 7, 2) := by decide +kernel
theorem dX8_gamesNow_130 : decode cX8_gamesNow 130 = .ok (.invokevirtual 139, 3) := by decide +kernel
theorem dX8_gamesNow_133 : decode cX8_gamesNow 133 = .ok (.ifCond .eq 14, 3) := by decide +kernel
theorem dX8_gamesNow_136 : decode cX8_gamesNow 136 = .ok (.aload_n 0, 1) := by decide +kernel
theorem dX8_gamesNow_137 : decode cX8_gamesNow 137 = .ok (.iload 6, 2) := by decide +kernel
theorem dX8_gamesNow_139 : decode cX8_gamesNow 139 = .ok (.iload 7, 2) := by decide +kernel
theorem dX8_gamesNow_141 : decode cX8_gamesNow 141 = .ok (.invokevirtual 143, 3) := by decide +kernel
theorem dX8_gamesNow_144 : decode cX8_gamesNow 144 = .ok (.iinc 4 1, 3) := by decide +kernel
theorem dX8_gamesNow_147 : decode cX8_gamesNow 147 = .ok (.iinc 5 1, 3) := by decide +kernel
theorem dX8_gamesNow_150 : decode cX8_gamesNow 150 = .ok (.goto (-48), 3) := by decide +kernel
theorem dX8_gamesNow_153 : decode cX8_gamesNow 153 = .ok (.iload_n 3, 1) := by decide +kernel
theorem dX8_gamesNow_154 : decode cX8_gamesNow 154 = .ok (.ifCond .ne 10, 3) := by decide +kernel
theorem dX8_gamesNow_157 : decode cX8_gamesNow 157 = .ok (.aload_n 0, 1) := by decide +kernel
theorem dX8_gamesNow_158 : decode cX8_gamesNow 158 = .ok (.invokevirtual 230, 3) := by decide +kernel
theorem dX8_gamesNow_161 : decode cX8_gamesNow 161 = .ok (.goto 30, 3) := by decide +kernel
theorem dX8_gamesNow_164 : decode cX8_gamesNow 164 = .ok (.iload_n 3, 1) := by decide +kernel
theorem dX8_gamesNow_165 : decode cX8_gamesNow 165 = .ok (.iconst 1, 1) := by decide +kernel
theorem dX8_gamesNow_166 : decode cX8_gamesNow 166 = .ok (.if_icmp .ne 8, 3) := by decide +kernel
theorem dX8_gamesNow_169 : decode cX8_gamesNow 169 = .ok (.iload 4, 2) := by decide +kernel
theorem dX8_gamesNow_171 : decode cX8_gamesNow 171 = .ok (.goto 20, 3) := by decide +kernel
theorem dX8_gamesNow_174 : decode cX8_gamesNow 174 = .ok (.iload_n 3, 1) := by decide +kernel
theorem dX8_gamesNow_175 : decode cX8_gamesNow 175 = .ok (.iconst 2, 1) := by decide +kernel
theorem dX8_gamesNow_176 : decode cX8_gamesNow 176 = .ok (.if_icmp .ne 10, 3) := by decide +kernel
theorem dX8_gamesNow_179 : decode cX8_gamesNow 179 = .ok (.aload_n 0, 1) := by decide +kernel
theorem dX8_gamesNow_180 : decode cX8_gamesNow 180 = .ok (.invokevirtual 95, 3) := by decide +kernel
theorem dX8_gamesNow_183 : decode cX8_gamesNow 183 = .ok (.goto 8, 3) := by decide +kernel
theorem dX8_gamesNow_186 : decode cX8_gamesNow 186 = .ok (.aload_n 0, 1) := by decide +kernel
theorem dX8_gamesNow_187 : decode cX8_gamesNow 187 = .ok (.getfield 217, 3) := by decide +kernel
theorem dX8_gamesNow_190 : decode cX8_gamesNow 190 = .ok (.l2i, 1) := by decide +kernel
theorem dX8_gamesNow_191 : decode cX8_gamesNow 191 = .ok (.istore 5, 2) := by decide +kernel
theorem dX8_gamesNow_193 : decode cX8_gamesNow 193 = .ok (.iconst 0, 1) := by decide +kernel
theorem dX8_gamesNow_194 : decode cX8_gamesNow 194 = .ok (.istore 6, 2) := by decide +kernel
theorem dX8_gamesNow_196 : decode cX8_gamesNow 196 = .ok (.iload 6, 2) := by decide +kernel
theorem dX8_gamesNow_198 : decode cX8_gamesNow 198 = .ok (.bipush 20, 2) := by decide +kernel
theorem dX8_gamesNow_200 : decode cX8_gamesNow 200 = .ok (.if_icmp .ge 23, 3) := by decide +kernel
theorem dX8_gamesNow_203 : decode cX8_gamesNow 203 = .ok (.aload_n 0, 1) := by decide +kernel
theorem dX8_gamesNow_204 : decode cX8_gamesNow 204 = .ok (.getfield 7, 3) := by decide +kernel
theorem dX8_gamesNow_207 : decode cX8_gamesNow 207 = .ok (.iload 6, 2) := by decide +kernel
theorem dX8_gamesNow_209 : decode cX8_gamesNow 209 = .ok (.aload_n 0, 1) := by decide +kernel
theorem dX8_gamesNow_210 : decode cX8_gamesNow 210 = .ok (.getfield 48, 3) := by decide +kernel
theorem dX8_gamesNow_213 : decode cX8_gamesNow 213 = .ok (.iload 6, 2) := by decide +kernel
theorem dX8_gamesNow_215 : decode cX8_gamesNow 215 = .ok (.iaload, 1) := by decide +kernel
theorem dX8_gamesNow_216 : decode cX8_gamesNow 216 = .ok (.iastore, 1) := by decide +kernel
theorem dX8_gamesNow_217 : decode cX8_gamesNow 217 = .ok (.iinc 6 1, 3) := by decide +kernel
theorem dX8_gamesNow_220 : decode cX8_gamesNow 220 = .ok (.goto (-24), 3) := by decide +kernel
theorem dX8_gamesNow_223 : decode cX8_gamesNow 223 = .ok (.iconst 0, 1) := by decide +kernel
theorem dX8_gamesNow_224 : decode cX8_gamesNow 224 = .ok (.istore 6, 2) := by decide +kernel
theorem dX8_gamesNow_226 : decode cX8_gamesNow 226 = .ok (.iload 6, 2) := by decide +kernel
theorem dX8_gamesNow_228 : decode cX8_gamesNow 228 = .ok (.aload_n 0, 1) := by decide +kernel
theorem dX8_gamesNow_229 : decode cX8_gamesNow 229 = .ok (.getfield 92, 3) := by decide +kernel
theorem dX8_gamesNow_232 : decode cX8_gamesNow 232 = .ok (.if_icmp .ge 51, 3) := by decide +kernel
theorem dX8_gamesNow_235 : decode cX8_gamesNow 235 = .ok (.aload_n 0, 1) := by decide +kernel
theorem dX8_gamesNow_236 : decode cX8_gamesNow 236 = .ok (.getfield 20, 3) := by decide +kernel
theorem dX8_gamesNow_239 : decode cX8_gamesNow 239 = .ok (.iload 6, 2) := by decide +kernel
theorem dX8_gamesNow_241 : decode cX8_gamesNow 241 = .ok (.aload_n 0, 1) := by decide +kernel
theorem dX8_gamesNow_242 : decode cX8_gamesNow 242 = .ok (.getfield 39, 3) := by decide +kernel
theorem dX8_gamesNow_245 : decode cX8_gamesNow 245 = .ok (.iload 6, 2) := by decide +kernel
theorem dX8_gamesNow_247 : decode cX8_gamesNow 247 = .ok (.iaload, 1) := by decide +kernel
theorem dX8_gamesNow_248 : decode cX8_gamesNow 248 = .ok (.iastore, 1) := by decide +kernel
theorem dX8_gamesNow_249 : decode cX8_gamesNow 249 = .ok (.aload_n 0, 1) := by decide +kernel
theorem dX8_gamesNow_250 : decode cX8_gamesNow 250 = .ok (.getfield 23, 3) := by decide +kernel
theorem dX8_gamesNow_253 : decode cX8_gamesNow 253 = .ok (.iload 6, 2) := by decide +kernel
theorem dX8_gamesNow_255 : decode cX8_gamesNow 255 = .ok (.aload_n 0, 1) := by decide +kernel
theorem dX8_gamesNow_256 : decode cX8_gamesNow 256 = .ok (.getfield 42, 3) := by decide +kernel
theorem dX8_gamesNow_259 : decode cX8_gamesNow 259 = .ok (.iload 6, 2) := by decide +kernel
theorem dX8_gamesNow_261 : decode cX8_gamesNow 261 = .ok (.iaload, 1) := by decide +kernel
theorem dX8_gamesNow_262 : decode cX8_gamesNow 262 = .ok (.iastore, 1) := by decide +kernel
theorem dX8_gamesNow_263 : decode cX8_gamesNow 263 = .ok (.aload_n 0, 1) := by decide +kernel
theorem dX8_gamesNow_264 : decode cX8_gamesNow 264 = .ok (.getfield 29, 3) := by decide +kernel
theorem dX8_gamesNow_267 : decode cX8_gamesNow 267 = .ok (.iload 6, 2) := by decide +kernel
theorem dX8_gamesNow_269 : decode cX8_gamesNow 269 = .ok (.aload_n 0, 1) := by decide +kernel
theorem dX8_gamesNow_270 : decode cX8_gamesNow 270 = .ok (.getfield 45, 3) := by decide +kernel
theorem dX8_gamesNow_273 : decode cX8_gamesNow 273 = .ok (.iload 6, 2) := by decide +kernel
theorem dX8_gamesNow_275 : decode cX8_gamesNow 275 = .ok (.iaload, 1) := by decide +kernel
theorem dX8_gamesNow_276 : decode cX8_gamesNow 276 = .ok (.iastore, 1) := by decide +kernel
theorem dX8_gamesNow_277 : decode cX8_gamesNow 277 = .ok (.iinc 6 1, 3) := by decide +kernel
theorem dX8_gamesNow_280 : decode cX8_gamesNow 280 = .ok (.goto (-54), 3) := by decide +kernel
theorem dX8_gamesNow_283 : decode cX8_gamesNow 283 = .ok (.iload 5, 2) := by decide +kernel
theorem dX8_gamesNow_285 : decode cX8_gamesNow 285 = .ok (.ireturn, 1) := by decide +kernel
theorem dX8_games_0 : decode cX8_games 0 = .ok (.iload_n 1, 1) := by decide +kernel
theorem dX8_games_1 : decode cX8_games 1 = .ok (.iconst 1, 1) := by decide +kernel
theorem dX8_games_2 : decode cX8_games 2 = .ok (.bipush 60, 2) := by decide +kernel
theorem dX8_games_4 : decode cX8_games 4 = .ok (.invokestatic 66, 3) := by decide +kernel
theorem dX8_games_7 : decode cX8_games 7 = .ok (.ifCond .eq 16, 3) := by decide +kernel
theorem dX8_games_10 : decode cX8_games 10 = .ok (.iload_n 2, 1) := by decide +kernel
theorem dX8_games_11 : decode cX8_games 11 = .ok (.ifCond .lt 12, 3) := by decide +kernel
theorem dX8_games_14 : decode cX8_games 14 = .ok (.iload_n 3, 1) := by decide +kernel
theorem dX8_games_15 : decode cX8_games 15 = .ok (.iconst 0, 1) := by decide +kernel
theorem dX8_games_16 : decode cX8_games 16 = .ok (.iconst 3, 1) := by decide +kernel
theorem dX8_games_17 : decode cX8_games 17 = .ok (.invokestatic 66, 3) := by decide +kernel
theorem dX8_games_20 : decode cX8_games 20 = .ok (.ifCond .ne 6, 3) := by decide +kernel
theorem dX8_games_23 : decode cX8_games 23 = .ok (.bipush (-102), 2) := by decide +kernel
theorem dX8_games_25 : decode cX8_games 25 = .ok (.ireturn, 1) := by decide +kernel
theorem dX8_games_26 : decode cX8_games 26 = .ok (.aload_n 0, 1) := by decide +kernel
theorem dX8_games_27 : decode cX8_games 27 = .ok (.getfield 82, 3) := by decide +kernel
theorem dX8_games_30 : decode cX8_games 30 = .ok (.ifCond .eq 20, 3) := by decide +kernel
theorem dX8_games_33 : decode cX8_games 33 = .ok (.aload_n 0, 1) := by decide +kernel
theorem dX8_games_34 : decode cX8_games 34 = .ok (.getfield 92, 3) := by decide +kernel
theorem dX8_games_37 : decode cX8_games 37 = .ok (.ifCond .le 13, 3) := by decide +kernel
theorem dX8_games_40 : decode cX8_games 40 = .ok (.aload_n 0, 1) := by decide +kernel
theorem dX8_games_41 : decode cX8_games 41 = .ok (.iload_n 1, 1) := by decide +kernel
theorem dX8_games_42 : decode cX8_games 42 = .ok (.iload_n 2, 1) := by decide +kernel
theorem dX8_games_43 : decode cX8_games 43 = .ok (.iload_n 3, 1) := by decide +kernel
theorem dX8_games_44 : decode cX8_games 44 = .ok (.invokevirtual 233, 3) := by decide +kernel
theorem dX8_games_47 : decode cX8_games 47 = .ok (.goto 5, 3) := by decide +kernel
theorem dX8_games_50 : decode cX8_games 50 = .ok (.bipush (-103), 2) := by decide +kernel
theorem dX8_games_52 : decode cX8_games 52 = .ok (.ireturn, 1) := by decide +kernel
theorem dX8_image_0 : decode cX8_image 0 = .ok (.aload_n 0, 1) := by decide +kernel
theorem dX8_image_1 : decode cX8_image 1 = .ok (.getfield 82, 3) := by decide +kernel
theorem dX8_image_4 : decode cX8_image 4 = .ok (.ifCond .ne 6, 3) := by decide +kernel
theorem dX8_image_7 : decode cX8_image 7 = .ok (.bipush (-103), 2) := by decide +kernel
theorem dX8_image_9 : decode cX8_image 9 = .ok (.ireturn, 1) := by decide +kernel
theorem dX8_image_10 : decode cX8_image 10 = .ok (.aload_n 0, 1) := by decide +kernel
theorem dX8_image_11 : decode cX8_image 11 = .ok (.iconst 1, 1) := by decide +kernel
theorem dX8_image_12 : decode cX8_image 12 = .ok (.putfield 237, 3) := by decide +kernel
theorem dX8_image_15 : decode cX8_image 15 = .ok (.aload_n 0, 1) := by decide +kernel
theorem dX8_image_16 : decode cX8_image 16 = .ok (.aload_n 0, 1) := by decide +kernel
theorem dX8_image_17 : decode cX8_image 17 = .ok (.getfield 86, 3) := by decide +kernel
theorem dX8_image_20 : decode cX8_image 20 = .ok (.putfield 240, 3) := by decide +kernel
theorem dX8_image_23 : decode cX8_image 23 = .ok (.aload_n 0, 1) := by decide +kernel
theorem dX8_image_24 : decode cX8_image 24 = .ok (.aload_n 0, 1) := by decide +kernel
theorem dX8_image_25 : decode cX8_image 25 = .ok (.getfield 92, 3) := by decide +kernel
theorem dX8_image_28 : decode cX8_image 28 = .ok (.putfield 243, 3) := by decide +kernel
theorem dX8_image_31 : decode cX8_image 31 = .ok (.aload_n 0, 1) := by decide +kernel
theorem dX8_image_32 : decode cX8_image 32 = .ok (.aload_n 0, 1) := by decide +kernel
theorem dX8_image_33 : decode cX8_image 33 = .ok (.getfield 13, 3) := by decide +kernel
theorem dX8_image_36 : decode cX8_image 36 = .ok (.putfield 246, 3) := by decide +kernel
theorem dX8_image_39 : decode cX8_image 39 = .ok (.aload_n 0, 1) := by decide +kernel
theorem dX8_image_40 : decode cX8_image 40 = .ok (.aload_n 0, 1) := by decide +kernel
theorem dX8_image_41 : decode cX8_image 41 = .ok (.getfield 89, 3) := by decide +kernel
theorem dX8_image_44 : decode cX8_image 44 = .ok (.putfield 249, 3) := by decide +kernel
theorem dX8_image_47 : decode cX8_image 47 = .ok (.iconst 0, 1) := by decide +kernel
theorem dX8_image_48 : decode cX8_image 48 = .ok (.istore_n 1, 1) := by decide +kernel
theorem dX8_image_49 : decode cX8_image 49 = .ok (.iload_n 1, 1) := by decide +kernel
theorem dX8_image_50 : decode cX8_image 50 = .ok (.bipush 20, 2) := by decide +kernel
theorem dX8_image_52 : decode cX8_image 52 = .ok (.if_icmp .ge 21, 3) := by decide +kernel
theorem dX8_image_55 : decode cX8_image 55 = .ok (.aload_n 0, 1) := by decide +kernel
theorem dX8_image_56 : decode cX8_image 56 = .ok (.getfield 51, 3) := by decide +kernel
theorem dX8_image_59 : decode cX8_image 59 = .ok (.iload_n 1, 1) := by decide +kernel
theorem dX8_image_60 : decode cX8_image 60 = .ok (.aload_n 0, 1) := by decide +kernel
theorem dX8_image_61 : decode cX8_image 61 = .ok (.getfield 7, 3) := by decide +kernel
theorem dX8_image_64 : decode cX8_image 64 = .ok (.iload_n 1, 1) := by decide +kernel
theorem dX8_image_65 : decode cX8_image 65 = .ok (.iaload, 1) := by decide +kernel
theorem dX8_image_66 : decode cX8_image 66 = .ok (.iastore, 1) := by decide +kernel
theorem dX8_image_67 : decode cX8_image 67 = .ok (.iinc 1 1, 3) := by decide +kernel
theorem dX8_image_70 : decode cX8_image 70 = .ok (.goto (-21), 3) := by decide +kernel
theorem dX8_image_73 : decode cX8_image 73 = .ok (.iconst 0, 1) := by decide +kernel
theorem dX8_image_74 : decode cX8_image 74 = .ok (.istore_n 1, 1) := by decide +kernel
theorem dX8_image_75 : decode cX8_image 75 = .ok (.iload_n 1, 1) := by decide +kernel
theorem dX8_image_76 : decode cX8_image 76 = .ok (.iconst 4, 1) := by decide +kernel
theorem dX8_image_77 : decode cX8_image 77 = .ok (.if_icmp .ge 57, 3) := by decide +kernel
theorem dX8_image_80 : decode cX8_image 80 = .ok (.aload_n 0, 1) := by decide +kernel
theorem dX8_image_81 : decode cX8_image 81 = .ok (.getfield 54, 3) := by decide +kernel
theorem dX8_image_84 : decode cX8_image 84 = .ok (.iload_n 1, 1) := by decide +kernel
theorem dX8_image_85 : decode cX8_image 85 = .ok (.aload_n 0, 1) := by decide +kernel
theorem dX8_image_86 : decode cX8_image 86 = .ok (.getfield 20, 3) := by decide +kernel
theorem dX8_image_89 : decode cX8_image 89 = .ok (.iload_n 1, 1) := by decide +kernel
theorem dX8_image_90 : decode cX8_image 90 = .ok (.iaload, 1) := by decide +kernel
theorem dX8_image_91 : decode cX8_image 91 = .ok (.iastore, 1) := by decide +kernel
theorem dX8_image_92 : decode cX8_image 92 = .ok (.aload_n 0, 1) := by decide +kernel
theorem dX8_image_93 : decode cX8_image 93 = .ok (.getfield 57, 3) := by decide +kernel
theorem dX8_image_96 : decode cX8_image 96 = .ok (.iload_n 1, 1) := by decide +kernel
theorem dX8_image_97 : decode cX8_image 97 = .ok (.aload_n 0, 1) := by decide +kernel
theorem dX8_image_98 : decode cX8_image 98 = .ok (.getfield 23, 3) := by decide +kernel
theorem dX8_image_101 : decode cX8_image 101 = .ok (.iload_n 1, 1) := by decide +kernel
theorem dX8_image_102 : decode cX8_image 102 = .ok (.iaload, 1) := by decide +kernel
theorem dX8_image_103 : decode cX8_image 103 = .ok (.iastore, 1) := by decide +kernel
theorem dX8_image_104 : decode cX8_image 104 = .ok (.aload_n 0, 1) := by decide +kernel
theorem dX8_image_105 : decode cX8_image 105 = .ok (.getfield 60, 3) := by decide +kernel
theorem dX8_image_108 : decode cX8_image 108 = .ok (.iload_n 1, 1) := by decide +kernel
theorem dX8_image_109 : decode cX8_image 109 = .ok (.aload_n 0, 1) := by decide +kernel
theorem dX8_image_110 : decode cX8_image 110 = .ok (.getfield 26, 3) := by decide +kernel
theorem dX8_image_113 : decode cX8_image 113 = .ok (.iload_n 1, 1) := by decide +kernel
theorem dX8_image_114 : decode cX8_image 114 = .ok (.iaload, 1) := by decide +kernel
theorem dX8_image_115 : decode cX8_image 115 = .ok (.iastore, 1) := by decide +kernel
theorem dX8_image_116 : decode cX8_image 116 = .ok (.aload_n 0, 1) := by decide +kernel
theorem dX8_image_117 : decode cX8_image 117 = .ok (.getfield 63, 3) := by decide +kernel
theorem dX8_image_120 : decode cX8_image 120 = .ok (.iload_n 1, 1) := by decide +kernel
theorem dX8_image_121 : decode cX8_image 121 = .ok (.aload_n 0, 1) := by decide +kernel
theorem dX8_image_122 : decode cX8_image 122 = .ok (.getfield 29, 3) := by decide +kernel
theorem dX8_image_125 : decode cX8_image 125 = .ok (.iload_n 1, 1) := by decide +kernel
theorem dX8_image_126 : decode cX8_image 126 = .ok (.iaload, 1) := by decide +kernel
theorem dX8_image_127 : decode cX8_image 127 = .ok (.iastore, 1) := by decide +kernel
theorem dX8_image_128 : decode cX8_image 128 = .ok (.iinc 1 1, 3) := by decide +kernel
theorem dX8_image_131 : decode cX8_image 131 = .ok (.goto (-56), 3) := by decide +kernel
theorem dX8_image_134 : decode cX8_image 134 = .ok (.aload_n 0, 1) := by decide +kernel
theorem dX8_image_135 : decode cX8_image 135 = .ok (.getfield 92, 3) := by decide +kernel
theorem dX8_image_138 : decode cX8_image 138 = .ok (.ireturn, 1) := by decide +kernel
theorem dX8_restore_0 : decode cX8_restore 0 = .ok (.aload_n 0, 1) := by decide +kernel
theorem dX8_restore_1 : decode cX8_restore 1 = .ok (.getfield 237, 3) := by decide +kernel
theorem dX8_restore_4 : decode cX8_restore 4 = .ok (.ifCond .eq 14, 3) := by decide +kernel
theorem dX8_restore_7 : decode cX8_restore 7 = .ok (.aload_n 0, 1) := by decide +kernel
theorem dX8_restore_8 : decode cX8_restore 8 = .ok (.getfield 240, 3) := by decide +kernel
theorem dX8_restore_11 : decode cX8_restore 11 = .ok (.aload_n 0, 1) := by decide +kernel
theorem dX8_restore_12 : decode cX8_restore 12 = .ok (.getfield 86, 3) := by decide +kernel
theorem dX8_restore_15 : decode cX8_restore 15 = .ok (.if_icmp .eq 6, 3) := by decide +kernel
theorem dX8_restore_18 : decode cX8_restore 18 = .ok (.bipush (-103), 2) := by decide +kernel
theorem dX8_restore_20 : decode cX8_restore 20 = .ok (.ireturn, 1) := by decide +kernel
theorem dX8_restore_21 : decode cX8_restore 21 = .ok (.aload_n 0, 1) := by decide +kernel
theorem dX8_restore_22 : decode cX8_restore 22 = .ok (.aload_n 0, 1) := by decide +kernel
theorem dX8_restore_23 : decode cX8_restore 23 = .ok (.getfield 243, 3) := by decide +kernel
theorem dX8_restore_26 : decode cX8_restore 26 = .ok (.putfield 92, 3) := by decide +kernel
theorem dX8_restore_29 : decode cX8_restore 29 = .ok (.aload_n 0, 1) := by decide +kernel
theorem dX8_restore_30 : decode cX8_restore 30 = .ok (.aload_n 0, 1) := by decide +kernel
theorem dX8_restore_31 : decode cX8_restore 31 = .ok (.getfield 246, 3) := by decide +kernel
theorem dX8_restore_34 : decode cX8_restore 34 = .ok (.putfield 13, 3) := by decide +kernel
theorem dX8_restore_37 : decode cX8_restore 37 = .ok (.aload_n 0, 1) := by decide +kernel
theorem dX8_restore_38 : decode cX8_restore 38 = .ok (.aload_n 0, 1) := by decide +kernel
theorem dX8_restore_39 : decode cX8_restore 39 = .ok (.getfield 249, 3) := by decide +kernel
theorem dX8_restore_42 : decode cX8_restore 42 = .ok (.putfield 89, 3) := by decide +kernel
theorem dX8_restore_45 : decode cX8_restore 45 = .ok (.iconst 0, 1) := by decide +kernel
theorem dX8_restore_46 : decode cX8_restore 46 = .ok (.istore_n 1, 1) := by decide +kernel
theorem dX8_restore_47 : decode cX8_restore 47 = .ok (.iload_n 1, 1) := by decide +kernel
theorem dX8_restore_48 : decode cX8_restore 48 = .ok (.bipush 20, 2) := by decide +kernel
theorem dX8_restore_50 : decode cX8_restore 50 = .ok (.if_icmp .ge 21, 3) := by decide +kernel
theorem dX8_restore_53 : decode cX8_restore 53 = .ok (.aload_n 0, 1) := by decide +kernel
theorem dX8_restore_54 : decode cX8_restore 54 = .ok (.getfield 7, 3) := by decide +kernel
theorem dX8_restore_57 : decode cX8_restore 57 = .ok (.iload_n 1, 1) := by decide +kernel
theorem dX8_restore_58 : decode cX8_restore 58 = .ok (.aload_n 0, 1) := by decide +kernel
theorem dX8_restore_59 : decode cX8_restore 59 = .ok (.getfield 51, 3) := by decide +kernel
theorem dX8_restore_62 : decode cX8_restore 62 = .ok (.iload_n 1, 1) := by decide +kernel
theorem dX8_restore_63 : decode cX8_restore 63 = .ok (.iaload, 1) := by decide +kernel
theorem dX8_restore_64 : decode cX8_restore 64 = .ok (.iastore, 1) := by decide +kernel
theorem dX8_restore_65 : decode cX8_restore 65 = .ok (.iinc 1 1, 3) := by decide +kernel
theorem dX8_restore_68 : decode cX8_restore 68 = .ok (.goto (-21), 3) := by decide +kernel
theorem dX8_restore_71 : decode cX8_restore 71 = .ok (.iconst 0, 1) := by decide +kernel
theorem dX8_restore_72 : decode cX8_restore 72 = .ok (.istore_n 1, 1) := by decide +kernel
theorem dX8_restore_73 : decode cX8_restore 73 = .ok (.iload_n 1, 1) := by decide +kernel
theorem dX8_restore_74 : decode cX8_restore 74 = .ok (.iconst 4, 1) := by decide +kernel
theorem dX8_restore_75 : decode cX8_restore 75 = .ok (.if_icmp .ge 57, 3) := by decide +kernel
theorem dX8_restore_78 : decode cX8_restore 78 = .ok (.aload_n 0, 1) := by decide +kernel
theorem dX8_restore_79 : decode cX8_restore 79 = .ok (.getfield 20, 3) := by decide +kernel
theorem dX8_restore_82 : decode cX8_restore 82 = .ok (.iload_n 1, 1) := by decide +kernel
theorem dX8_restore_83 : decode cX8_restore 83 = .ok (.aload_n 0, 1) := by decide +kernel
theorem dX8_restore_84 : decode cX8_restore 84 = .ok (.getfield 54, 3) := by decide +kernel
theorem dX8_restore_87 : decode cX8_restore 87 = .ok (.iload_n 1, 1) := by decide +kernel
theorem dX8_restore_88 : decode cX8_restore 88 = .ok (.iaload, 1) := by decide +kernel
theorem dX8_restore_89 : decode cX8_restore 89 = .ok (.iastore, 1) := by decide +kernel
theorem dX8_restore_90 : decode cX8_restore 90 = .ok (.aload_n 0, 1) := by decide +kernel
theorem dX8_restore_91 : decode cX8_restore 91 = .ok (.getfield 23, 3) := by decide +kernel
theorem dX8_restore_94 : decode cX8_restore 94 = .ok (.iload_n 1, 1) := by decide +kernel
theorem dX8_restore_95 : decode cX8_restore 95 = .ok (.aload_n 0, 1) := by decide +kernel
theorem dX8_restore_96 : decode cX8_restore 96 = .ok (.getfield 57, 3) := by decide +kernel
theorem dX8_restore_99 : decode cX8_restore 99 = .ok (.iload_n 1, 1) := by decide +kernel
theorem dX8_restore_100 : decode cX8_restore 100 = .ok (.iaload, 1) := by decide +kernel
theorem dX8_restore_101 : decode cX8_restore 101 = .ok (.iastore, 1) := by decide +kernel
theorem dX8_restore_102 : decode cX8_restore 102 = .ok (.aload_n 0, 1) := by decide +kernel
theorem dX8_restore_103 : decode cX8_restore 103 = .ok (.getfield 26, 3) := by decide +kernel
theorem dX8_restore_106 : decode cX8_restore 106 = .ok (.iload_n 1, 1) := by decide +kernel
theorem dX8_restore_107 : decode cX8_restore 107 = .ok (.aload_n 0, 1) := by decide +kernel
theorem dX8_restore_108 : decode cX8_restore 108 = .ok (.getfield 60, 3) := by decide +kernel
theorem dX8_restore_111 : decode cX8_restore 111 = .ok (.iload_n 1, 1) := by decide +kernel
theorem dX8_restore_112 : decode cX8_restore 112 = .ok (.iaload, 1) := by decide +kernel
theorem dX8_restore_113 : decode cX8_restore 113 = .ok (.iastore, 1) := by decide +kernel
theorem dX8_restore_114 : decode cX8_restore 114 = .ok (.aload_n 0, 1) := by decide +kernel
theorem dX8_restore_115 : decode cX8_restore 115 = .ok (.getfield 29, 3) := by decide +kernel
theorem dX8_restore_118 : decode cX8_restore 118 = .ok (.iload_n 1, 1) := by decide +kernel
theorem dX8_restore_119 : decode cX8_restore 119 = .ok (.aload_n 0, 1) := by decide +kernel
theorem dX8_restore_120 : decode cX8_restore 120 = .ok (.getfield 63, 3) := by decide +kernel
theorem dX8_restore_123 : decode cX8_restore 123 = .ok (.iload_n 1, 1) := by decide +kernel
theorem dX8_restore_124 : decode cX8_restore 124 = .ok (.iaload, 1) := by decide +kernel
theorem dX8_restore_125 : decode cX8_restore 125 = .ok (.iastore, 1) := by decide +kernel
theorem dX8_restore_126 : decode cX8_restore 126 = .ok (.iinc 1 1, 3) := by decide +kernel
theorem dX8_restore_129 : decode cX8_restore 129 = .ok (.goto (-56), 3) := by decide +kernel
theorem dX8_restore_132 : decode cX8_restore 132 = .ok (.aload_n 0, 1) := by decide +kernel
theorem dX8_restore_133 : decode cX8_restore 133 = .ok (.getfield 92, 3) := by decide +kernel
theorem dX8_restore_136 : decode cX8_restore 136 = .ok (.ireturn, 1) := by decide +kernel
theorem dX8_goneMany_0 : decode cX8_goneMany 0 = .ok (.iconst 0, 1) := by decide +kernel
theorem dX8_goneMany_1 : decode cX8_goneMany 1 = .ok (.istore_n 1, 1) := by decide +kernel
theorem dX8_goneMany_2 : decode cX8_goneMany 2 = .ok (.iconst 0, 1) := by decide +kernel
theorem dX8_goneMany_3 : decode cX8_goneMany 3 = .ok (.istore_n 2, 1) := by decide +kernel
theorem dX8_goneMany_4 : decode cX8_goneMany 4 = .ok (.iload_n 2, 1) := by decide +kernel
theorem dX8_goneMany_5 : decode cX8_goneMany 5 = .ok (.aload_n 0, 1) := by decide +kernel
theorem dX8_goneMany_6 : decode cX8_goneMany 6 = .ok (.getfield 92, 3) := by decide +kernel
theorem dX8_goneMany_9 : decode cX8_goneMany 9 = .ok (.if_icmp .ge 27, 3) := by decide +kernel
theorem dX8_goneMany_12 : decode cX8_goneMany 12 = .ok (.iload_n 1, 1) := by decide +kernel
theorem dX8_goneMany_13 : decode cX8_goneMany 13 = .ok (.aload_n 0, 1) := by decide +kernel
theorem dX8_goneMany_14 : decode cX8_goneMany 14 = .ok (.getfield 23, 3) := by decide +kernel
theorem dX8_goneMany_17 : decode cX8_goneMany 17 = .ok (.iload_n 2, 1) := by decide +kernel
theorem dX8_goneMany_18 : decode cX8_goneMany 18 = .ok (.iaload, 1) := by decide +kernel
theorem dX8_goneMany_19 : decode cX8_goneMany 19 = .ok (.iconst (-1), 1) := by decide +kernel
theorem dX8_goneMany_20 : decode cX8_goneMany 20 = .ok (.if_icmp .ne 7, 3) := by decide +kernel
theorem dX8_goneMany_23 : decode cX8_goneMany 23 = .ok (.iconst 1, 1) := by decide +kernel
theorem dX8_goneMany_24 : decode cX8_goneMany 24 = .ok (.goto 4, 3) := by decide +kernel
theorem dX8_goneMany_27 : decode cX8_goneMany 27 = .ok (.iconst 0, 1) := by decide +kernel
theorem dX8_goneMany_28 : decode cX8_goneMany 28 = .ok (.iadd, 1) := by decide +kernel
theorem dX8_goneMany_29 : decode cX8_goneMany 29 = .ok (.istore_n 1, 1) := by decide +kernel
theorem dX8_goneMany_30 : decode cX8_goneMany 30 = .ok (.iinc 2 1, 3) := by decide +kernel
theorem dX8_goneMany_33 : decode cX8_goneMany 33 = .ok (.goto (-29), 3) := by decide +kernel
theorem dX8_goneMany_36 : decode cX8_goneMany 36 = .ok (.iload_n 1, 1) := by decide +kernel
theorem dX8_goneMany_37 : decode cX8_goneMany 37 = .ok (.ireturn, 1) := by decide +kernel
theorem dX8_greenMany_0 : decode cX8_greenMany 0 = .ok (.iconst 0, 1) := by decide +kernel
theorem dX8_greenMany_1 : decode cX8_greenMany 1 = .ok (.istore_n 1, 1) := by decide +kernel
theorem dX8_greenMany_2 : decode cX8_greenMany 2 = .ok (.iconst 0, 1) := by decide +kernel
theorem dX8_greenMany_3 : decode cX8_greenMany 3 = .ok (.istore_n 2, 1) := by decide +kernel
theorem dX8_greenMany_4 : decode cX8_greenMany 4 = .ok (.iload_n 2, 1) := by decide +kernel
theorem dX8_greenMany_5 : decode cX8_greenMany 5 = .ok (.bipush 20, 2) := by decide +kernel
theorem dX8_greenMany_7 : decode cX8_greenMany 7 = .ok (.if_icmp .ge 33, 3) := by decide +kernel
theorem dX8_greenMany_10 : decode cX8_greenMany 10 = .ok (.iload_n 1, 1) := by decide +kernel
theorem dX8_greenMany_11 : decode cX8_greenMany 11 = .ok (.aload_n 0, 1) := by decide +kernel
theorem dX8_greenMany_12 : decode cX8_greenMany 12 = .ok (.getfield 82, 3) := by decide +kernel
theorem dX8_greenMany_15 : decode cX8_greenMany 15 = .ok (.ifCond .eq 16, 3) := by decide +kernel
theorem dX8_greenMany_18 : decode cX8_greenMany 18 = .ok (.aload_n 0, 1) := by decide +kernel
theorem dX8_greenMany_19 : decode cX8_greenMany 19 = .ok (.getfield 7, 3) := by decide +kernel
theorem dX8_greenMany_22 : decode cX8_greenMany 22 = .ok (.iload_n 2, 1) := by decide +kernel
theorem dX8_greenMany_23 : decode cX8_greenMany 23 = .ok (.iaload, 1) := by decide +kernel
theorem dX8_greenMany_24 : decode cX8_greenMany 24 = .ok (.ifCond .ne 7, 3) := by decide +kernel
theorem dX8_greenMany_27 : decode cX8_greenMany 27 = .ok (.iconst 1, 1) := by decide +kernel
theorem dX8_greenMany_28 : decode cX8_greenMany 28 = .ok (.goto 4, 3) := by decide +kernel
theorem dX8_greenMany_31 : decode cX8_greenMany 31 = .ok (.iconst 0, 1) := by decide +kernel
theorem dX8_greenMany_32 : decode cX8_greenMany 32 = .ok (.iadd, 1) := by decide +kernel
theorem dX8_greenMany_33 : decode cX8_greenMany 33 = .ok (.istore_n 1, 1) := by decide +kernel
theorem dX8_greenMany_34 : decode cX8_greenMany 34 = .ok (.iinc 2 1, 3) := by decide +kernel
theorem dX8_greenMany_37 : decode cX8_greenMany 37 = .ok (.goto (-33), 3) := by decide +kernel
theorem dX8_greenMany_40 : decode cX8_greenMany 40 = .ok (.iload_n 1, 1) := by decide +kernel
theorem dX8_greenMany_41 : decode cX8_greenMany 41 = .ok (.ireturn, 1) := by decide +kernel
theorem dX8_howMany_0 : decode cX8_howMany 0 = .ok (.iload_n 1, 1) := by decide +kernel
theorem dX8_howMany_1 : decode cX8_howMany 1 = .ok (.tableswitch 123 0 11 #[63, 68, 73, 78, 83, 88, 93, 98, 103, 108, 113, 118], 63) := by decide +kernel
theorem dX8_howMany_64 : decode cX8_howMany 64 = .ok (.aload_n 0, 1) := by decide +kernel
theorem dX8_howMany_65 : decode cX8_howMany 65 = .ok (.invokevirtual 95, 3) := by decide +kernel
theorem dX8_howMany_68 : decode cX8_howMany 68 = .ok (.ireturn, 1) := by decide +kernel
theorem dX8_howMany_69 : decode cX8_howMany 69 = .ok (.aload_n 0, 1) := by decide +kernel
theorem dX8_howMany_70 : decode cX8_howMany 70 = .ok (.getfield 92, 3) := by decide +kernel
theorem dX8_howMany_73 : decode cX8_howMany 73 = .ok (.ireturn, 1) := by decide +kernel
theorem dX8_howMany_74 : decode cX8_howMany 74 = .ok (.aload_n 0, 1) := by decide +kernel
theorem dX8_howMany_75 : decode cX8_howMany 75 = .ok (.invokevirtual 252, 3) := by decide +kernel
theorem dX8_howMany_78 : decode cX8_howMany 78 = .ok (.ireturn, 1) := by decide +kernel
theorem dX8_howMany_79 : decode cX8_howMany 79 = .ok (.aload_n 0, 1) := by decide +kernel
theorem dX8_howMany_80 : decode cX8_howMany 80 = .ok (.invokevirtual 255, 3) := by decide +kernel
theorem dX8_howMany_83 : decode cX8_howMany 83 = .ok (.ireturn, 1) := by decide +kernel
theorem dX8_howMany_84 : decode cX8_howMany 84 = .ok (.aload_n 0, 1) := by decide +kernel
theorem dX8_howMany_85 : decode cX8_howMany 85 = .ok (.getfield 79, 3) := by decide +kernel
theorem dX8_howMany_88 : decode cX8_howMany 88 = .ok (.ireturn, 1) := by decide +kernel
theorem dX8_howMany_89 : decode cX8_howMany 89 = .ok (.aload_n 0, 1) := by decide +kernel
theorem dX8_howMany_90 : decode cX8_howMany 90 = .ok (.getfield 13, 3) := by decide +kernel
theorem dX8_howMany_93 : decode cX8_howMany 93 = .ok (.ireturn, 1) := by decide +kernel
theorem dX8_howMany_94 : decode cX8_howMany 94 = .ok (.aload_n 0, 1) := by decide +kernel
theorem dX8_howMany_95 : decode cX8_howMany 95 = .ok (.getfield 89, 3) := by decide +kernel
theorem dX8_howMany_98 : decode cX8_howMany 98 = .ok (.ireturn, 1) := by decide +kernel
theorem dX8_howMany_99 : decode cX8_howMany 99 = .ok (.aload_n 0, 1) := by decide +kernel
theorem dX8_howMany_100 : decode cX8_howMany 100 = .ok (.invokevirtual 230, 3) := by decide +kernel
theorem dX8_howMany_103 : decode cX8_howMany 103 = .ok (.ireturn, 1) := by decide +kernel
theorem dX8_howMany_104 : decode cX8_howMany 104 = .ok (.aload_n 0, 1) := by decide +kernel
theorem dX8_howMany_105 : decode cX8_howMany 105 = .ok (.getfield 70, 3) := by decide +kernel
theorem dX8_howMany_108 : decode cX8_howMany 108 = .ok (.ireturn, 1) := by decide +kernel
theorem dX8_howMany_109 : decode cX8_howMany 109 = .ok (.aload_n 0, 1) := by decide +kernel
theorem dX8_howMany_110 : decode cX8_howMany 110 = .ok (.getfield 86, 3) := by decide +kernel
theorem dX8_howMany_113 : decode cX8_howMany 113 = .ok (.ireturn, 1) := by decide +kernel
theorem dX8_howMany_114 : decode cX8_howMany 114 = .ok (.aload_n 0, 1) := by decide +kernel
theorem dX8_howMany_115 : decode cX8_howMany 115 = .ok (.getfield 190, 3) := by decide +kernel
theorem dX8_howMany_118 : decode cX8_howMany 118 = .ok (.ireturn, 1) := by decide +kernel
theorem dX8_howMany_119 : decode cX8_howMany 119 = .ok (.aload_n 0, 1) := by decide +kernel
theorem dX8_howMany_120 : decode cX8_howMany 120 = .ok (.getfield 208, 3) := by decide +kernel
theorem dX8_howMany_123 : decode cX8_howMany 123 = .ok (.ireturn, 1) := by decide +kernel
theorem dX8_howMany_124 : decode cX8_howMany 124 = .ok (.bipush (-102), 2) := by decide +kernel
theorem dX8_howMany_126 : decode cX8_howMany 126 = .ok (.ireturn, 1) := by decide +kernel
theorem dX8_count_0 : decode cX8_count 0 = .ok (.aload_n 0, 1) := by decide +kernel
theorem dX8_count_1 : decode cX8_count 1 = .ok (.iload_n 1, 1) := by decide +kernel
theorem dX8_count_2 : decode cX8_count 2 = .ok (.invokevirtual 258, 3) := by decide +kernel
theorem dX8_count_5 : decode cX8_count 5 = .ok (.ireturn, 1) := by decide +kernel
theorem dX8_mix_0 : decode cX8_mix 0 = .ok (.aload_n 0, 1) := by decide +kernel
theorem dX8_mix_1 : decode cX8_mix 1 = .ok (.ldc2_w 261, 3) := by decide +kernel
theorem dX8_mix_4 : decode cX8_mix 4 = .ok (.aload_n 0, 1) := by decide +kernel
theorem dX8_mix_5 : decode cX8_mix 5 = .ok (.getfield 263, 3) := by decide +kernel
theorem dX8_mix_8 : decode cX8_mix 8 = .ok (.lmul, 1) := by decide +kernel
theorem dX8_mix_9 : decode cX8_mix 9 = .ok (.lload_n 1, 1) := by decide +kernel
theorem dX8_mix_10 : decode cX8_mix 10 = .ok (.ladd, 1) := by decide +kernel
theorem dX8_mix_11 : decode cX8_mix 11 = .ok (.putfield 263, 3) := by decide +kernel
theorem dX8_mix_14 : decode cX8_mix 14 = .ok (.return_, 1) := by decide +kernel
theorem dX8_digest_0 : decode cX8_digest 0 = .ok (.aload_n 0, 1) := by decide +kernel
theorem dX8_digest_1 : decode cX8_digest 1 = .ok (.ldc2_w 266, 3) := by decide +kernel
theorem dX8_digest_4 : decode cX8_digest 4 = .ok (.putfield 263, 3) := by decide +kernel
theorem dX8_digest_7 : decode cX8_digest 7 = .ok (.iconst 0, 1) := by decide +kernel
theorem dX8_digest_8 : decode cX8_digest 8 = .ok (.istore_n 1, 1) := by decide +kernel
theorem dX8_digest_9 : decode cX8_digest 9 = .ok (.iload_n 1, 1) := by decide +kernel
theorem dX8_digest_10 : decode cX8_digest 10 = .ok (.bipush 20, 2) := by decide +kernel
theorem dX8_digest_12 : decode cX8_digest 12 = .ok (.if_icmp .ge 47, 3) := by decide +kernel
theorem dX8_digest_15 : decode cX8_digest 15 = .ok (.aload_n 0, 1) := by decide +kernel
theorem dX8_digest_16 : decode cX8_digest 16 = .ok (.getfield 82, 3) := by decide +kernel
theorem dX8_digest_19 : decode cX8_digest 19 = .ok (.ifCond .eq 40, 3) := by decide +kernel
theorem dX8_digest_22 : decode cX8_digest 22 = .ok (.aload_n 0, 1) := by decide +kernel
theorem dX8_digest_23 : decode cX8_digest 23 = .ok (.aload_n 0, 1) := by decide +kernel
theorem dX8_digest_24 : decode cX8_digest 24 = .ok (.getfield 7, 3) := by decide +kernel
theorem dX8_digest_27 : decode cX8_digest 27 = .ok (.iload_n 1, 1) := by decide +kernel
theorem dX8_digest_28 : decode cX8_digest 28 = .ok (.iaload, 1) := by decide +kernel
theorem dX8_digest_29 : decode cX8_digest 29 = .ok (.i2l, 1) := by decide +kernel
theorem dX8_digest_30 : decode cX8_digest 30 = .ok (.invokevirtual 268, 3) := by decide +kernel
theorem dX8_digest_33 : decode cX8_digest 33 = .ok (.aload_n 0, 1) := by decide +kernel
theorem dX8_digest_34 : decode cX8_digest 34 = .ok (.aload_n 0, 1) := by decide +kernel
theorem dX8_digest_35 : decode cX8_digest 35 = .ok (.iload_n 1, 1) := by decide +kernel
theorem dX8_digest_36 : decode cX8_digest 36 = .ok (.invokevirtual 107, 3) := by decide +kernel
theorem dX8_digest_39 : decode cX8_digest 39 = .ok (.i2l, 1) := by decide +kernel
theorem dX8_digest_40 : decode cX8_digest 40 = .ok (.invokevirtual 268, 3) := by decide +kernel
theorem dX8_digest_43 : decode cX8_digest 43 = .ok (.aload_n 0, 1) := by decide +kernel
theorem dX8_digest_44 : decode cX8_digest 44 = .ok (.aload_n 0, 1) := by decide +kernel
theorem dX8_digest_45 : decode cX8_digest 45 = .ok (.iload_n 1, 1) := by decide +kernel
theorem dX8_digest_46 : decode cX8_digest 46 = .ok (.invokevirtual 110, 3) := by decide +kernel
theorem dX8_digest_49 : decode cX8_digest 49 = .ok (.i2l, 1) := by decide +kernel
theorem dX8_digest_50 : decode cX8_digest 50 = .ok (.invokevirtual 268, 3) := by decide +kernel
theorem dX8_digest_53 : decode cX8_digest 53 = .ok (.iinc 1 1, 3) := by decide +kernel
theorem dX8_digest_56 : decode cX8_digest 56 = .ok (.goto (-47), 3) := by decide +kernel
theorem dX8_digest_59 : decode cX8_digest 59 = .ok (.iconst 0, 1) := by decide +kernel
theorem dX8_digest_60 : decode cX8_digest 60 = .ok (.istore_n 1, 1) := by decide +kernel
theorem dX8_digest_61 : decode cX8_digest 61 = .ok (.iload_n 1, 1) := by decide +kernel
theorem dX8_digest_62 : decode cX8_digest 62 = .ok (.aload_n 0, 1) := by decide +kernel
theorem dX8_digest_63 : decode cX8_digest 63 = .ok (.getfield 92, 3) := by decide +kernel
theorem dX8_digest_66 : decode cX8_digest 66 = .ok (.if_icmp .ge 65, 3) := by decide +kernel
theorem dX8_digest_69 : decode cX8_digest 69 = .ok (.iconst 0, 1) := by decide +kernel
theorem dX8_digest_70 : decode cX8_digest 70 = .ok (.istore_n 2, 1) := by decide +kernel
theorem dX8_digest_71 : decode cX8_digest 71 = .ok (.iload_n 2, 1) := by decide +kernel
theorem dX8_digest_72 : decode cX8_digest 72 = .ok (.bipush 7, 2) := by decide +kernel
theorem dX8_digest_74 : decode cX8_digest 74 = .ok (.if_icmp .ge 20, 3) := by decide +kernel
theorem dX8_digest_77 : decode cX8_digest 77 = .ok (.aload_n 0, 1) := by decide +kernel
theorem dX8_digest_78 : decode cX8_digest 78 = .ok (.aload_n 0, 1) := by decide +kernel
theorem dX8_digest_79 : decode cX8_digest 79 = .ok (.iload_n 1, 1) := by decide +kernel
theorem dX8_digest_80 : decode cX8_digest 80 = .ok (.iload_n 2, 1) := by decide +kernel
theorem dX8_digest_81 : decode cX8_digest 81 = .ok (.invokevirtual 126, 3) := by decide +kernel
theorem dX8_digest_84 : decode cX8_digest 84 = .ok (.i2l, 1) := by decide +kernel
theorem dX8_digest_85 : decode cX8_digest 85 = .ok (.invokevirtual 268, 3) := by decide +kernel
theorem dX8_digest_88 : decode cX8_digest 88 = .ok (.iinc 2 1, 3) := by decide +kernel
theorem dX8_digest_91 : decode cX8_digest 91 = .ok (.goto (-20), 3) := by decide +kernel
theorem dX8_digest_94 : decode cX8_digest 94 = .ok (.iconst 0, 1) := by decide +kernel
theorem dX8_digest_95 : decode cX8_digest 95 = .ok (.istore_n 2, 1) := by decide +kernel
theorem dX8_digest_96 : decode cX8_digest 96 = .ok (.iload_n 2, 1) := by decide +kernel
theorem dX8_digest_97 : decode cX8_digest 97 = .ok (.iconst 4, 1) := by decide +kernel
theorem dX8_digest_98 : decode cX8_digest 98 = .ok (.if_icmp .ge 27, 3) := by decide +kernel
theorem dX8_digest_101 : decode cX8_digest 101 = .ok (.aload_n 0, 1) := by decide +kernel
theorem dX8_digest_102 : decode cX8_digest 102 = .ok (.aload_n 0, 1) := by decide +kernel
theorem dX8_digest_103 : decode cX8_digest 103 = .ok (.iload_n 1, 1) := by decide +kernel
theorem dX8_digest_104 : decode cX8_digest 104 = .ok (.iload_n 2, 1) := by decide +kernel
theorem dX8_digest_105 : decode cX8_digest 105 = .ok (.invokevirtual 139, 3) := by decide +kernel
theorem dX8_digest_108 : decode cX8_digest 108 = .ok (.ifCond .eq 7, 3) := by decide +kernel
theorem dX8_digest_111 : decode cX8_digest 111 = .ok (.lconst 1, 1) := by decide +kernel
theorem dX8_digest_112 : decode cX8_digest 112 = .ok (.goto 4, 3) := by decide +kernel
theorem dX8_digest_115 : decode cX8_digest 115 = .ok (.lconst 0, 1) := by decide +kernel
theorem dX8_digest_116 : decode cX8_digest 116 = .ok (.invokevirtual 268, 3) := by decide +kernel
theorem dX8_digest_119 : decode cX8_digest 119 = .ok (.iinc 2 1, 3) := by decide +kernel
theorem dX8_digest_122 : decode cX8_digest 122 = .ok (.goto (-26), 3) := by decide +kernel
theorem dX8_digest_125 : decode cX8_digest 125 = .ok (.iinc 1 1, 3) := by decide +kernel
theorem dX8_digest_128 : decode cX8_digest 128 = .ok (.goto (-67), 3) := by decide +kernel
theorem dX8_digest_131 : decode cX8_digest 131 = .ok (.aload_n 0, 1) := by decide +kernel
theorem dX8_digest_132 : decode cX8_digest 132 = .ok (.aload_n 0, 1) := by decide +kernel
theorem dX8_digest_133 : decode cX8_digest 133 = .ok (.iconst 0, 1) := by decide +kernel
theorem dX8_digest_134 : decode cX8_digest 134 = .ok (.invokevirtual 202, 3) := by decide +kernel
theorem dX8_digest_137 : decode cX8_digest 137 = .ok (.i2l, 1) := by decide +kernel
theorem dX8_digest_138 : decode cX8_digest 138 = .ok (.invokevirtual 268, 3) := by decide +kernel
theorem dX8_digest_141 : decode cX8_digest 141 = .ok (.aload_n 0, 1) := by decide +kernel
theorem dX8_digest_142 : decode cX8_digest 142 = .ok (.aload_n 0, 1) := by decide +kernel
theorem dX8_digest_143 : decode cX8_digest 143 = .ok (.iconst 1, 1) := by decide +kernel
theorem dX8_digest_144 : decode cX8_digest 144 = .ok (.invokevirtual 202, 3) := by decide +kernel
theorem dX8_digest_147 : decode cX8_digest 147 = .ok (.i2l, 1) := by decide +kernel
theorem dX8_digest_148 : decode cX8_digest 148 = .ok (.invokevirtual 268, 3) := by decide +kernel
theorem dX8_digest_151 : decode cX8_digest 151 = .ok (.aload_n 0, 1) := by decide +kernel
theorem dX8_digest_152 : decode cX8_digest 152 = .ok (.aload_n 0, 1) := by decide +kernel
theorem dX8_digest_153 : decode cX8_digest 153 = .ok (.iconst 1, 1) := by decide +kernel
theorem dX8_digest_154 : decode cX8_digest 154 = .ok (.invokevirtual 205, 3) := by decide +kernel
theorem dX8_digest_157 : decode cX8_digest 157 = .ok (.i2l, 1) := by decide +kernel
theorem dX8_digest_158 : decode cX8_digest 158 = .ok (.invokevirtual 268, 3) := by decide +kernel
theorem dX8_digest_161 : decode cX8_digest 161 = .ok (.iconst 0, 1) := by decide +kernel
theorem dX8_digest_162 : decode cX8_digest 162 = .ok (.istore_n 1, 1) := by decide +kernel
theorem dX8_digest_163 : decode cX8_digest 163 = .ok (.iload_n 1, 1) := by decide +kernel
theorem dX8_digest_164 : decode cX8_digest 164 = .ok (.aload_n 0, 1) := by decide +kernel
theorem dX8_digest_165 : decode cX8_digest 165 = .ok (.getfield 70, 3) := by decide +kernel
theorem dX8_digest_168 : decode cX8_digest 168 = .ok (.if_icmp .ge 20, 3) := by decide +kernel
theorem dX8_digest_171 : decode cX8_digest 171 = .ok (.aload_n 0, 1) := by decide +kernel
theorem dX8_digest_172 : decode cX8_digest 172 = .ok (.aload_n 0, 1) := by decide +kernel
theorem dX8_digest_173 : decode cX8_digest 173 = .ok (.getfield 32, 3) := by decide +kernel
theorem dX8_digest_176 : decode cX8_digest 176 = .ok (.iload_n 1, 1) := by decide +kernel
theorem dX8_digest_177 : decode cX8_digest 177 = .ok (.baload, 1) := by decide +kernel
theorem dX8_digest_178 : decode cX8_digest 178 = .ok (.i2l, 1) := by decide +kernel
theorem dX8_digest_179 : decode cX8_digest 179 = .ok (.invokevirtual 268, 3) := by decide +kernel
theorem dX8_digest_182 : decode cX8_digest 182 = .ok (.iinc 1 1, 3) := by decide +kernel
theorem dX8_digest_185 : decode cX8_digest 185 = .ok (.goto (-22), 3) := by decide +kernel
theorem dX8_digest_188 : decode cX8_digest 188 = .ok (.iconst 0, 1) := by decide +kernel
theorem dX8_digest_189 : decode cX8_digest 189 = .ok (.istore_n 1, 1) := by decide +kernel
theorem dX8_digest_190 : decode cX8_digest 190 = .ok (.iload_n 1, 1) := by decide +kernel
theorem dX8_digest_191 : decode cX8_digest 191 = .ok (.bipush 12, 2) := by decide +kernel
theorem dX8_digest_193 : decode cX8_digest 193 = .ok (.if_icmp .ge 19, 3) := by decide +kernel
theorem dX8_digest_196 : decode cX8_digest 196 = .ok (.aload_n 0, 1) := by decide +kernel
theorem dX8_digest_197 : decode cX8_digest 197 = .ok (.aload_n 0, 1) := by decide +kernel
theorem dX8_digest_198 : decode cX8_digest 198 = .ok (.iload_n 1, 1) := by decide +kernel
theorem dX8_digest_199 : decode cX8_digest 199 = .ok (.invokevirtual 258, 3) := by decide +kernel
theorem dX8_digest_202 : decode cX8_digest 202 = .ok (.i2l, 1) := by decide +kernel
theorem dX8_digest_203 : decode cX8_digest 203 = .ok (.invokevirtual 268, 3) := by decide +kernel
theorem dX8_digest_206 : decode cX8_digest 206 = .ok (.iinc 1 1, 3) := by decide +kernel
theorem dX8_digest_209 : decode cX8_digest 209 = .ok (.goto (-19), 3) := by decide +kernel
theorem dX8_digest_212 : decode cX8_digest 212 = .ok (.aload_n 0, 1) := by decide +kernel
theorem dX8_digest_213 : decode cX8_digest 213 = .ok (.getfield 263, 3) := by decide +kernel
theorem dX8_digest_216 : decode cX8_digest 216 = .ok (.lreturn, 1) := by decide +kernel
