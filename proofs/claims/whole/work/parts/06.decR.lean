theorem d_R_init_0 : decode b_R_init 0 = .ok (.aload_n 0, 1) := by decide +kernel
theorem d_R_init_1 : decode b_R_init 1 = .ok (.invokespecial 1, 3) := by decide +kernel
theorem d_R_init_4 : decode b_R_init 4 = .ok (.aload_n 0, 1) := by decide +kernel
theorem d_R_init_5 : decode b_R_init 5 = .ok (.bipush 20, 2) := by decide +kernel
theorem d_R_init_7 : decode b_R_init 7 = .ok (.newarray .boolean, 2) := by decide +kernel
theorem d_R_init_9 : decode b_R_init 9 = .ok (.putfield 7, 3) := by decide +kernel
theorem d_R_init_12 : decode b_R_init 12 = .ok (.aload_n 0, 1) := by decide +kernel
theorem d_R_init_13 : decode b_R_init 13 = .ok (.bipush 20, 2) := by decide +kernel
theorem d_R_init_15 : decode b_R_init 15 = .ok (.newarray .int, 2) := by decide +kernel
theorem d_R_init_17 : decode b_R_init 17 = .ok (.putfield 13, 3) := by decide +kernel
theorem d_R_init_20 : decode b_R_init 20 = .ok (.aload_n 0, 1) := by decide +kernel
theorem d_R_init_21 : decode b_R_init 21 = .ok (.bipush 20, 2) := by decide +kernel
theorem d_R_init_23 : decode b_R_init 23 = .ok (.newarray .int, 2) := by decide +kernel
theorem d_R_init_25 : decode b_R_init 25 = .ok (.putfield 17, 3) := by decide +kernel
theorem d_R_init_28 : decode b_R_init 28 = .ok (.aload_n 0, 1) := by decide +kernel
theorem d_R_init_29 : decode b_R_init 29 = .ok (.bipush 20, 2) := by decide +kernel
theorem d_R_init_31 : decode b_R_init 31 = .ok (.newarray .int, 2) := by decide +kernel
theorem d_R_init_33 : decode b_R_init 33 = .ok (.putfield 20, 3) := by decide +kernel
theorem d_R_init_36 : decode b_R_init 36 = .ok (.aload_n 0, 1) := by decide +kernel
theorem d_R_init_37 : decode b_R_init 37 = .ok (.bipush 20, 2) := by decide +kernel
theorem d_R_init_39 : decode b_R_init 39 = .ok (.newarray .int, 2) := by decide +kernel
theorem d_R_init_41 : decode b_R_init 41 = .ok (.putfield 23, 3) := by decide +kernel
theorem d_R_init_44 : decode b_R_init 44 = .ok (.aload_n 0, 1) := by decide +kernel
theorem d_R_init_45 : decode b_R_init 45 = .ok (.bipush 40, 2) := by decide +kernel
theorem d_R_init_47 : decode b_R_init 47 = .ok (.newarray .int, 2) := by decide +kernel
theorem d_R_init_49 : decode b_R_init 49 = .ok (.putfield 26, 3) := by decide +kernel
theorem d_R_init_52 : decode b_R_init 52 = .ok (.aload_n 0, 1) := by decide +kernel
theorem d_R_init_53 : decode b_R_init 53 = .ok (.sipush 820, 3) := by decide +kernel
theorem d_R_init_56 : decode b_R_init 56 = .ok (.newarray .int, 2) := by decide +kernel
theorem d_R_init_58 : decode b_R_init 58 = .ok (.putfield 29, 3) := by decide +kernel
theorem d_R_init_61 : decode b_R_init 61 = .ok (.aload_n 0, 1) := by decide +kernel
theorem d_R_init_62 : decode b_R_init 62 = .ok (.bipush 41, 2) := by decide +kernel
theorem d_R_init_64 : decode b_R_init 64 = .ok (.newarray .int, 2) := by decide +kernel
theorem d_R_init_66 : decode b_R_init 66 = .ok (.putfield 32, 3) := by decide +kernel
theorem d_R_init_69 : decode b_R_init 69 = .ok (.aload_n 0, 1) := by decide +kernel
theorem d_R_init_70 : decode b_R_init 70 = .ok (.sipush 861, 3) := by decide +kernel
theorem d_R_init_73 : decode b_R_init 73 = .ok (.newarray .int, 2) := by decide +kernel
theorem d_R_init_75 : decode b_R_init 75 = .ok (.putfield 35, 3) := by decide +kernel
theorem d_R_init_78 : decode b_R_init 78 = .ok (.return_, 1) := by decide +kernel
theorem d_R_near_0 : decode b_R_near 0 = .ok (.iload_n 0, 1) := by decide +kernel
theorem d_R_near_1 : decode b_R_near 1 = .ok (.bipush (-100), 2) := by decide +kernel
theorem d_R_near_3 : decode b_R_near 3 = .ok (.if_icmp .lt 13, 3) := by decide +kernel
theorem d_R_near_6 : decode b_R_near 6 = .ok (.iload_n 0, 1) := by decide +kernel
theorem d_R_near_7 : decode b_R_near 7 = .ok (.bipush 100, 2) := by decide +kernel
theorem d_R_near_9 : decode b_R_near 9 = .ok (.if_icmp .gt 7, 3) := by decide +kernel
theorem d_R_near_12 : decode b_R_near 12 = .ok (.iconst 1, 1) := by decide +kernel
theorem d_R_near_13 : decode b_R_near 13 = .ok (.goto 4, 3) := by decide +kernel
theorem d_R_near_16 : decode b_R_near 16 = .ok (.iconst 0, 1) := by decide +kernel
theorem d_R_near_17 : decode b_R_near 17 = .ok (.ireturn, 1) := by decide +kernel
theorem d_R_sign_0 : decode b_R_sign 0 = .ok (.iload_n 0, 1) := by decide +kernel
theorem d_R_sign_1 : decode b_R_sign 1 = .ok (.ifCond .ge 7, 3) := by decide +kernel
theorem d_R_sign_4 : decode b_R_sign 4 = .ok (.iconst (-1), 1) := by decide +kernel
theorem d_R_sign_5 : decode b_R_sign 5 = .ok (.goto 12, 3) := by decide +kernel
theorem d_R_sign_8 : decode b_R_sign 8 = .ok (.iload_n 0, 1) := by decide +kernel
theorem d_R_sign_9 : decode b_R_sign 9 = .ok (.ifCond .le 7, 3) := by decide +kernel
theorem d_R_sign_12 : decode b_R_sign 12 = .ok (.iconst 1, 1) := by decide +kernel
theorem d_R_sign_13 : decode b_R_sign 13 = .ok (.goto 4, 3) := by decide +kernel
theorem d_R_sign_16 : decode b_R_sign 16 = .ok (.iconst 0, 1) := by decide +kernel
theorem d_R_sign_17 : decode b_R_sign 17 = .ok (.ireturn, 1) := by decide +kernel
theorem d_R_side_0 : decode b_R_side 0 = .ok (.aload_n 0, 1) := by decide +kernel
theorem d_R_side_1 : decode b_R_side 1 = .ok (.getfield 20, 3) := by decide +kernel
theorem d_R_side_4 : decode b_R_side 4 = .ok (.iload_n 1, 1) := by decide +kernel
theorem d_R_side_5 : decode b_R_side 5 = .ok (.iaload, 1) := by decide +kernel
theorem d_R_side_6 : decode b_R_side 6 = .ok (.aload_n 0, 1) := by decide +kernel
theorem d_R_side_7 : decode b_R_side 7 = .ok (.getfield 13, 3) := by decide +kernel
theorem d_R_side_10 : decode b_R_side 10 = .ok (.iload_n 1, 1) := by decide +kernel
theorem d_R_side_11 : decode b_R_side 11 = .ok (.iaload, 1) := by decide +kernel
theorem d_R_side_12 : decode b_R_side 12 = .ok (.isub, 1) := by decide +kernel
theorem d_R_side_13 : decode b_R_side 13 = .ok (.iload_n 3, 1) := by decide +kernel
theorem d_R_side_14 : decode b_R_side 14 = .ok (.aload_n 0, 1) := by decide +kernel
theorem d_R_side_15 : decode b_R_side 15 = .ok (.getfield 17, 3) := by decide +kernel
theorem d_R_side_18 : decode b_R_side 18 = .ok (.iload_n 1, 1) := by decide +kernel
theorem d_R_side_19 : decode b_R_side 19 = .ok (.iaload, 1) := by decide +kernel
theorem d_R_side_20 : decode b_R_side 20 = .ok (.isub, 1) := by decide +kernel
theorem d_R_side_21 : decode b_R_side 21 = .ok (.imul, 1) := by decide +kernel
theorem d_R_side_22 : decode b_R_side 22 = .ok (.aload_n 0, 1) := by decide +kernel
theorem d_R_side_23 : decode b_R_side 23 = .ok (.getfield 23, 3) := by decide +kernel
theorem d_R_side_26 : decode b_R_side 26 = .ok (.iload_n 1, 1) := by decide +kernel
theorem d_R_side_27 : decode b_R_side 27 = .ok (.iaload, 1) := by decide +kernel
theorem d_R_side_28 : decode b_R_side 28 = .ok (.aload_n 0, 1) := by decide +kernel
theorem d_R_side_29 : decode b_R_side 29 = .ok (.getfield 17, 3) := by decide +kernel
theorem d_R_side_32 : decode b_R_side 32 = .ok (.iload_n 1, 1) := by decide +kernel
theorem d_R_side_33 : decode b_R_side 33 = .ok (.iaload, 1) := by decide +kernel
theorem d_R_side_34 : decode b_R_side 34 = .ok (.isub, 1) := by decide +kernel
theorem d_R_side_35 : decode b_R_side 35 = .ok (.iload_n 2, 1) := by decide +kernel
theorem d_R_side_36 : decode b_R_side 36 = .ok (.aload_n 0, 1) := by decide +kernel
theorem d_R_side_37 : decode b_R_side 37 = .ok (.getfield 13, 3) := by decide +kernel
theorem d_R_side_40 : decode b_R_side 40 = .ok (.iload_n 1, 1) := by decide +kernel
theorem d_R_side_41 : decode b_R_side 41 = .ok (.iaload, 1) := by decide +kernel
theorem d_R_side_42 : decode b_R_side 42 = .ok (.isub, 1) := by decide +kernel
theorem d_R_side_43 : decode b_R_side 43 = .ok (.imul, 1) := by decide +kernel
theorem d_R_side_44 : decode b_R_side 44 = .ok (.isub, 1) := by decide +kernel
theorem d_R_side_45 : decode b_R_side 45 = .ok (.invokestatic 38, 3) := by decide +kernel
theorem d_R_side_48 : decode b_R_side 48 = .ok (.ireturn, 1) := by decide +kernel
theorem d_R_isEnd_0 : decode b_R_isEnd 0 = .ok (.iload_n 2, 1) := by decide +kernel
theorem d_R_isEnd_1 : decode b_R_isEnd 1 = .ok (.aload_n 0, 1) := by decide +kernel
theorem d_R_isEnd_2 : decode b_R_isEnd 2 = .ok (.getfield 13, 3) := by decide +kernel
theorem d_R_isEnd_5 : decode b_R_isEnd 5 = .ok (.iload_n 1, 1) := by decide +kernel
theorem d_R_isEnd_6 : decode b_R_isEnd 6 = .ok (.iaload, 1) := by decide +kernel
theorem d_R_isEnd_7 : decode b_R_isEnd 7 = .ok (.if_icmp .ne 13, 3) := by decide +kernel
theorem d_R_isEnd_10 : decode b_R_isEnd 10 = .ok (.iload_n 3, 1) := by decide +kernel
theorem d_R_isEnd_11 : decode b_R_isEnd 11 = .ok (.aload_n 0, 1) := by decide +kernel
theorem d_R_isEnd_12 : decode b_R_isEnd 12 = .ok (.getfield 17, 3) := by decide +kernel
theorem d_R_isEnd_15 : decode b_R_isEnd 15 = .ok (.iload_n 1, 1) := by decide +kernel
theorem d_R_isEnd_16 : decode b_R_isEnd 16 = .ok (.iaload, 1) := by decide +kernel
theorem d_R_isEnd_17 : decode b_R_isEnd 17 = .ok (.if_icmp .eq 23, 3) := by decide +kernel
theorem d_R_isEnd_20 : decode b_R_isEnd 20 = .ok (.iload_n 2, 1) := by decide +kernel
theorem d_R_isEnd_21 : decode b_R_isEnd 21 = .ok (.aload_n 0, 1) := by decide +kernel
theorem d_R_isEnd_22 : decode b_R_isEnd 22 = .ok (.getfield 20, 3) := by decide +kernel
theorem d_R_isEnd_25 : decode b_R_isEnd 25 = .ok (.iload_n 1, 1) := by decide +kernel
theorem d_R_isEnd_26 : decode b_R_isEnd 26 = .ok (.iaload, 1) := by decide +kernel
theorem d_R_isEnd_27 : decode b_R_isEnd 27 = .ok (.if_icmp .ne 17, 3) := by decide +kernel
theorem d_R_isEnd_30 : decode b_R_isEnd 30 = .ok (.iload_n 3, 1) := by decide +kernel
theorem d_R_isEnd_31 : decode b_R_isEnd 31 = .ok (.aload_n 0, 1) := by decide +kernel
theorem d_R_isEnd_32 : decode b_R_isEnd 32 = .ok (.getfield 23, 3) := by decide +kernel
theorem d_R_isEnd_35 : decode b_R_isEnd 35 = .ok (.iload_n 1, 1) := by decide +kernel
theorem d_R_isEnd_36 : decode b_R_isEnd 36 = .ok (.iaload, 1) := by decide +kernel
theorem d_R_isEnd_37 : decode b_R_isEnd 37 = .ok (.if_icmp .ne 7, 3) := by decide +kernel
theorem d_R_isEnd_40 : decode b_R_isEnd 40 = .ok (.iconst 1, 1) := by decide +kernel
theorem d_R_isEnd_41 : decode b_R_isEnd 41 = .ok (.goto 4, 3) := by decide +kernel
theorem d_R_isEnd_44 : decode b_R_isEnd 44 = .ok (.iconst 0, 1) := by decide +kernel
theorem d_R_isEnd_45 : decode b_R_isEnd 45 = .ok (.ireturn, 1) := by decide +kernel
theorem d_R_isInside_0 : decode b_R_isInside 0 = .ok (.aload_n 0, 1) := by decide +kernel
theorem d_R_isInside_1 : decode b_R_isInside 1 = .ok (.iload_n 1, 1) := by decide +kernel
theorem d_R_isInside_2 : decode b_R_isInside 2 = .ok (.iload_n 2, 1) := by decide +kernel
theorem d_R_isInside_3 : decode b_R_isInside 3 = .ok (.iload_n 3, 1) := by decide +kernel
theorem d_R_isInside_4 : decode b_R_isInside 4 = .ok (.invokevirtual 42, 3) := by decide +kernel
theorem d_R_isInside_7 : decode b_R_isInside 7 = .ok (.ifCond .ne 13, 3) := by decide +kernel
theorem d_R_isInside_10 : decode b_R_isInside 10 = .ok (.aload_n 0, 1) := by decide +kernel
theorem d_R_isInside_11 : decode b_R_isInside 11 = .ok (.iload_n 1, 1) := by decide +kernel
theorem d_R_isInside_12 : decode b_R_isInside 12 = .ok (.iload_n 2, 1) := by decide +kernel
theorem d_R_isInside_13 : decode b_R_isInside 13 = .ok (.iload_n 3, 1) := by decide +kernel
theorem d_R_isInside_14 : decode b_R_isInside 14 = .ok (.invokevirtual 46, 3) := by decide +kernel
theorem d_R_isInside_17 : decode b_R_isInside 17 = .ok (.ifCond .eq 5, 3) := by decide +kernel
theorem d_R_isInside_20 : decode b_R_isInside 20 = .ok (.iconst 0, 1) := by decide +kernel
theorem d_R_isInside_21 : decode b_R_isInside 21 = .ok (.ireturn, 1) := by decide +kernel
theorem d_R_isInside_22 : decode b_R_isInside 22 = .ok (.aload_n 0, 1) := by decide +kernel
theorem d_R_isInside_23 : decode b_R_isInside 23 = .ok (.getfield 17, 3) := by decide +kernel
theorem d_R_isInside_26 : decode b_R_isInside 26 = .ok (.iload_n 1, 1) := by decide +kernel
theorem d_R_isInside_27 : decode b_R_isInside 27 = .ok (.iaload, 1) := by decide +kernel
theorem d_R_isInside_28 : decode b_R_isInside 28 = .ok (.aload_n 0, 1) := by decide +kernel
theorem d_R_isInside_29 : decode b_R_isInside 29 = .ok (.getfield 23, 3) := by decide +kernel
theorem d_R_isInside_32 : decode b_R_isInside 32 = .ok (.iload_n 1, 1) := by decide +kernel
theorem d_R_isInside_33 : decode b_R_isInside 33 = .ok (.iaload, 1) := by decide +kernel
theorem d_R_isInside_34 : decode b_R_isInside 34 = .ok (.if_icmp .ge 12, 3) := by decide +kernel
theorem d_R_isInside_37 : decode b_R_isInside 37 = .ok (.aload_n 0, 1) := by decide +kernel
theorem d_R_isInside_38 : decode b_R_isInside 38 = .ok (.getfield 17, 3) := by decide +kernel
theorem d_R_isInside_41 : decode b_R_isInside 41 = .ok (.iload_n 1, 1) := by decide +kernel
theorem d_R_isInside_42 : decode b_R_isInside 42 = .ok (.iaload, 1) := by decide +kernel
theorem d_R_isInside_43 : decode b_R_isInside 43 = .ok (.goto 9, 3) := by decide +kernel
theorem d_R_isInside_46 : decode b_R_isInside 46 = .ok (.aload_n 0, 1) := by decide +kernel
theorem d_R_isInside_47 : decode b_R_isInside 47 = .ok (.getfield 23, 3) := by decide +kernel
theorem d_R_isInside_50 : decode b_R_isInside 50 = .ok (.iload_n 1, 1) := by decide +kernel
theorem d_R_isInside_51 : decode b_R_isInside 51 = .ok (.iaload, 1) := by decide +kernel
theorem d_R_isInside_52 : decode b_R_isInside 52 = .ok (.istore 4, 2) := by decide +kernel
theorem d_R_isInside_54 : decode b_R_isInside 54 = .ok (.aload_n 0, 1) := by decide +kernel
theorem d_R_isInside_55 : decode b_R_isInside 55 = .ok (.getfield 17, 3) := by decide +kernel
theorem d_R_isInside_58 : decode b_R_isInside 58 = .ok (.iload_n 1, 1) := by decide +kernel
theorem d_R_isInside_59 : decode b_R_isInside 59 = .ok (.iaload, 1) := by decide +kernel
theorem d_R_isInside_60 : decode b_R_isInside 60 = .ok (.aload_n 0, 1) := by decide +kernel
theorem d_R_isInside_61 : decode b_R_isInside 61 = .ok (.getfield 23, 3) := by decide +kernel
theorem d_R_isInside_64 : decode b_R_isInside 64 = .ok (.iload_n 1, 1) := by decide +kernel
theorem d_R_isInside_65 : decode b_R_isInside 65 = .ok (.iaload, 1) := by decide +kernel
theorem d_R_isInside_66 : decode b_R_isInside 66 = .ok (.if_icmp .ge 12, 3) := by decide +kernel
theorem d_R_isInside_69 : decode b_R_isInside 69 = .ok (.aload_n 0, 1) := by decide +kernel
theorem d_R_isInside_70 : decode b_R_isInside 70 = .ok (.getfield 23, 3) := by decide +kernel
theorem d_R_isInside_73 : decode b_R_isInside 73 = .ok (.iload_n 1, 1) := by decide +kernel
theorem d_R_isInside_74 : decode b_R_isInside 74 = .ok (.iaload, 1) := by decide +kernel
theorem d_R_isInside_75 : decode b_R_isInside 75 = .ok (.goto 9, 3) := by decide +kernel
theorem d_R_isInside_78 : decode b_R_isInside 78 = .ok (.aload_n 0, 1) := by decide +kernel
theorem d_R_isInside_79 : decode b_R_isInside 79 = .ok (.getfield 17, 3) := by decide +kernel
theorem d_R_isInside_82 : decode b_R_isInside 82 = .ok (.iload_n 1, 1) := by decide +kernel
theorem d_R_isInside_83 : decode b_R_isInside 83 = .ok (.iaload, 1) := by decide +kernel
theorem d_R_isInside_84 : decode b_R_isInside 84 = .ok (.istore 5, 2) := by decide +kernel
theorem d_R_isInside_86 : decode b_R_isInside 86 = .ok (.iload_n 2, 1) := by decide +kernel
theorem d_R_isInside_87 : decode b_R_isInside 87 = .ok (.aload_n 0, 1) := by decide +kernel
theorem d_R_isInside_88 : decode b_R_isInside 88 = .ok (.getfield 13, 3) := by decide +kernel
theorem d_R_isInside_91 : decode b_R_isInside 91 = .ok (.iload_n 1, 1) := by decide +kernel
theorem d_R_isInside_92 : decode b_R_isInside 92 = .ok (.iaload, 1) := by decide +kernel
theorem d_R_isInside_93 : decode b_R_isInside 93 = .ok (.if_icmp .lt 29, 3) := by decide +kernel
theorem d_R_isInside_96 : decode b_R_isInside 96 = .ok (.iload_n 2, 1) := by decide +kernel
theorem d_R_isInside_97 : decode b_R_isInside 97 = .ok (.aload_n 0, 1) := by decide +kernel
theorem d_R_isInside_98 : decode b_R_isInside 98 = .ok (.getfield 20, 3) := by decide +kernel
theorem d_R_isInside_101 : decode b_R_isInside 101 = .ok (.iload_n 1, 1) := by decide +kernel
theorem d_R_isInside_102 : decode b_R_isInside 102 = .ok (.iaload, 1) := by decide +kernel
theorem d_R_isInside_103 : decode b_R_isInside 103 = .ok (.if_icmp .gt 19, 3) := by decide +kernel
theorem d_R_isInside_106 : decode b_R_isInside 106 = .ok (.iload_n 3, 1) := by decide +kernel
theorem d_R_isInside_107 : decode b_R_isInside 107 = .ok (.iload 4, 2) := by decide +kernel
theorem d_R_isInside_109 : decode b_R_isInside 109 = .ok (.if_icmp .lt 13, 3) := by decide +kernel
theorem d_R_isInside_112 : decode b_R_isInside 112 = .ok (.iload_n 3, 1) := by decide +kernel
theorem d_R_isInside_113 : decode b_R_isInside 113 = .ok (.iload 5, 2) := by decide +kernel
theorem d_R_isInside_115 : decode b_R_isInside 115 = .ok (.if_icmp .gt 7, 3) := by decide +kernel
theorem d_R_isInside_118 : decode b_R_isInside 118 = .ok (.iconst 1, 1) := by decide +kernel
theorem d_R_isInside_119 : decode b_R_isInside 119 = .ok (.goto 4, 3) := by decide +kernel
theorem d_R_isInside_122 : decode b_R_isInside 122 = .ok (.iconst 0, 1) := by decide +kernel
theorem d_R_isInside_123 : decode b_R_isInside 123 = .ok (.ireturn, 1) := by decide +kernel
theorem d_R_meet_0 : decode b_R_meet 0 = .ok (.aload_n 0, 1) := by decide +kernel
theorem d_R_meet_1 : decode b_R_meet 1 = .ok (.iload_n 1, 1) := by decide +kernel
theorem d_R_meet_2 : decode b_R_meet 2 = .ok (.aload_n 0, 1) := by decide +kernel
theorem d_R_meet_3 : decode b_R_meet 3 = .ok (.getfield 13, 3) := by decide +kernel
theorem d_R_meet_6 : decode b_R_meet 6 = .ok (.iload_n 2, 1) := by decide +kernel
theorem d_R_meet_7 : decode b_R_meet 7 = .ok (.iaload, 1) := by decide +kernel
theorem d_R_meet_8 : decode b_R_meet 8 = .ok (.aload_n 0, 1) := by decide +kernel
theorem d_R_meet_9 : decode b_R_meet 9 = .ok (.getfield 17, 3) := by decide +kernel
theorem d_R_meet_12 : decode b_R_meet 12 = .ok (.iload_n 2, 1) := by decide +kernel
theorem d_R_meet_13 : decode b_R_meet 13 = .ok (.iaload, 1) := by decide +kernel
theorem d_R_meet_14 : decode b_R_meet 14 = .ok (.invokevirtual 50, 3) := by decide +kernel
theorem d_R_meet_17 : decode b_R_meet 17 = .ok (.ifCond .ne 63, 3) := by decide +kernel
theorem d_R_meet_20 : decode b_R_meet 20 = .ok (.aload_n 0, 1) := by decide +kernel
theorem d_R_meet_21 : decode b_R_meet 21 = .ok (.iload_n 1, 1) := by decide +kernel
theorem d_R_meet_22 : decode b_R_meet 22 = .ok (.aload_n 0, 1) := by decide +kernel
theorem d_R_meet_23 : decode b_R_meet 23 = .ok (.getfield 20, 3) := by decide +kernel
theorem d_R_meet_26 : decode b_R_meet 26 = .ok (.iload_n 2, 1) := by decide +kernel
theorem d_R_meet_27 : decode b_R_meet 27 = .ok (.iaload, 1) := by decide +kernel
theorem d_R_meet_28 : decode b_R_meet 28 = .ok (.aload_n 0, 1) := by decide +kernel
theorem d_R_meet_29 : decode b_R_meet 29 = .ok (.getfield 23, 3) := by decide +kernel
theorem d_R_meet_32 : decode b_R_meet 32 = .ok (.iload_n 2, 1) := by decide +kernel
theorem d_R_meet_33 : decode b_R_meet 33 = .ok (.iaload, 1) := by decide +kernel
theorem d_R_meet_34 : decode b_R_meet 34 = .ok (.invokevirtual 50, 3) := by decide +kernel
theorem d_R_meet_37 : decode b_R_meet 37 = .ok (.ifCond .ne 43, 3) := by decide +kernel
theorem d_R_meet_40 : decode b_R_meet 40 = .ok (.aload_n 0, 1) := by decide +kernel
theorem d_R_meet_41 : decode b_R_meet 41 = .ok (.iload_n 2, 1) := by decide +kernel
theorem d_R_meet_42 : decode b_R_meet 42 = .ok (.aload_n 0, 1) := by decide +kernel
theorem d_R_meet_43 : decode b_R_meet 43 = .ok (.getfield 13, 3) := by decide +kernel
theorem d_R_meet_46 : decode b_R_meet 46 = .ok (.iload_n 1, 1) := by decide +kernel
theorem d_R_meet_47 : decode b_R_meet 47 = .ok (.iaload, 1) := by decide +kernel
theorem d_R_meet_48 : decode b_R_meet 48 = .ok (.aload_n 0, 1) := by decide +kernel
theorem d_R_meet_49 : decode b_R_meet 49 = .ok (.getfield 17, 3) := by decide +kernel
theorem d_R_meet_52 : decode b_R_meet 52 = .ok (.iload_n 1, 1) := by decide +kernel
theorem d_R_meet_53 : decode b_R_meet 53 = .ok (.iaload, 1) := by decide +kernel
theorem d_R_meet_54 : decode b_R_meet 54 = .ok (.invokevirtual 50, 3) := by decide +kernel
theorem d_R_meet_57 : decode b_R_meet 57 = .ok (.ifCond .ne 23, 3) := by decide +kernel
theorem d_R_meet_60 : decode b_R_meet 60 = .ok (.aload_n 0, 1) := by decide +kernel
theorem d_R_meet_61 : decode b_R_meet 61 = .ok (.iload_n 2, 1) := by decide +kernel
theorem d_R_meet_62 : decode b_R_meet 62 = .ok (.aload_n 0, 1) := by decide +kernel
theorem d_R_meet_63 : decode b_R_meet 63 = .ok (.getfield 20, 3) := by decide +kernel
theorem d_R_meet_66 : decode b_R_meet 66 = .ok (.iload_n 1, 1) := by decide +kernel
theorem d_R_meet_67 : decode b_R_meet 67 = .ok (.iaload, 1) := by decide +kernel
theorem d_R_meet_68 : decode b_R_meet 68 = .ok (.aload_n 0, 1) := by decide +kernel
theorem d_R_meet_69 : decode b_R_meet 69 = .ok (.getfield 23, 3) := by decide +kernel
theorem d_R_meet_72 : decode b_R_meet 72 = .ok (.iload_n 1, 1) := by decide +kernel
theorem d_R_meet_73 : decode b_R_meet 73 = .ok (.iaload, 1) := by decide +kernel
theorem d_R_meet_74 : decode b_R_meet 74 = .ok (.invokevirtual 50, 3) := by decide +kernel
theorem d_R_meet_77 : decode b_R_meet 77 = .ok (.ifCond .eq 5, 3) := by decide +kernel
theorem d_R_meet_80 : decode b_R_meet 80 = .ok (.iconst 1, 1) := by decide +kernel
theorem d_R_meet_81 : decode b_R_meet 81 = .ok (.ireturn, 1) := by decide +kernel
theorem d_R_meet_82 : decode b_R_meet 82 = .ok (.aload_n 0, 1) := by decide +kernel
theorem d_R_meet_83 : decode b_R_meet 83 = .ok (.iload_n 1, 1) := by decide +kernel
theorem d_R_meet_84 : decode b_R_meet 84 = .ok (.aload_n 0, 1) := by decide +kernel
theorem d_R_meet_85 : decode b_R_meet 85 = .ok (.getfield 13, 3) := by decide +kernel
theorem d_R_meet_88 : decode b_R_meet 88 = .ok (.iload_n 2, 1) := by decide +kernel
theorem d_R_meet_89 : decode b_R_meet 89 = .ok (.iaload, 1) := by decide +kernel
theorem d_R_meet_90 : decode b_R_meet 90 = .ok (.aload_n 0, 1) := by decide +kernel
theorem d_R_meet_91 : decode b_R_meet 91 = .ok (.getfield 17, 3) := by decide +kernel
theorem d_R_meet_94 : decode b_R_meet 94 = .ok (.iload_n 2, 1) := by decide +kernel
theorem d_R_meet_95 : decode b_R_meet 95 = .ok (.iaload, 1) := by decide +kernel
theorem d_R_meet_96 : decode b_R_meet 96 = .ok (.invokevirtual 46, 3) := by decide +kernel
theorem d_R_meet_99 : decode b_R_meet 99 = .ok (.ifCond .eq 25, 3) := by decide +kernel
theorem d_R_meet_102 : decode b_R_meet 102 = .ok (.aload_n 0, 1) := by decide +kernel
theorem d_R_meet_103 : decode b_R_meet 103 = .ok (.iload_n 1, 1) := by decide +kernel
theorem d_R_meet_104 : decode b_R_meet 104 = .ok (.aload_n 0, 1) := by decide +kernel
theorem d_R_meet_105 : decode b_R_meet 105 = .ok (.getfield 20, 3) := by decide +kernel
theorem d_R_meet_108 : decode b_R_meet 108 = .ok (.iload_n 2, 1) := by decide +kernel
theorem d_R_meet_109 : decode b_R_meet 109 = .ok (.iaload, 1) := by decide +kernel
theorem d_R_meet_110 : decode b_R_meet 110 = .ok (.aload_n 0, 1) := by decide +kernel
theorem d_R_meet_111 : decode b_R_meet 111 = .ok (.getfield 23, 3) := by decide +kernel
theorem d_R_meet_114 : decode b_R_meet 114 = .ok (.iload_n 2, 1) := by decide +kernel
theorem d_R_meet_115 : decode b_R_meet 115 = .ok (.iaload, 1) := by decide +kernel
theorem d_R_meet_116 : decode b_R_meet 116 = .ok (.invokevirtual 46, 3) := by decide +kernel
theorem d_R_meet_119 : decode b_R_meet 119 = .ok (.ifCond .eq 5, 3) := by decide +kernel
theorem d_R_meet_122 : decode b_R_meet 122 = .ok (.iconst 1, 1) := by decide +kernel
theorem d_R_meet_123 : decode b_R_meet 123 = .ok (.ireturn, 1) := by decide +kernel
theorem d_R_meet_124 : decode b_R_meet 124 = .ok (.aload_n 0, 1) := by decide +kernel
theorem d_R_meet_125 : decode b_R_meet 125 = .ok (.iload_n 1, 1) := by decide +kernel
theorem d_R_meet_126 : decode b_R_meet 126 = .ok (.aload_n 0, 1) := by decide +kernel
theorem d_R_meet_127 : decode b_R_meet 127 = .ok (.getfield 13, 3) := by decide +kernel
theorem d_R_meet_130 : decode b_R_meet 130 = .ok (.iload_n 2, 1) := by decide +kernel
theorem d_R_meet_131 : decode b_R_meet 131 = .ok (.iaload, 1) := by decide +kernel
theorem d_R_meet_132 : decode b_R_meet 132 = .ok (.aload_n 0, 1) := by decide +kernel
theorem d_R_meet_133 : decode b_R_meet 133 = .ok (.getfield 17, 3) := by decide +kernel
theorem d_R_meet_136 : decode b_R_meet 136 = .ok (.iload_n 2, 1) := by decide +kernel
theorem d_R_meet_137 : decode b_R_meet 137 = .ok (.iaload, 1) := by decide +kernel
theorem d_R_meet_138 : decode b_R_meet 138 = .ok (.invokevirtual 42, 3) := by decide +kernel
theorem d_R_meet_141 : decode b_R_meet 141 = .ok (.aload_n 0, 1) := by decide +kernel
theorem d_R_meet_142 : decode b_R_meet 142 = .ok (.iload_n 1, 1) := by decide +kernel
theorem d_R_meet_143 : decode b_R_meet 143 = .ok (.aload_n 0, 1) := by decide +kernel
theorem d_R_meet_144 : decode b_R_meet 144 = .ok (.getfield 20, 3) := by decide +kernel
theorem d_R_meet_147 : decode b_R_meet 147 = .ok (.iload_n 2, 1) := by decide +kernel
theorem d_R_meet_148 : decode b_R_meet 148 = .ok (.iaload, 1) := by decide +kernel
theorem d_R_meet_149 : decode b_R_meet 149 = .ok (.aload_n 0, 1) := by decide +kernel
theorem d_R_meet_150 : decode b_R_meet 150 = .ok (.getfield 23, 3) := by decide +kernel
theorem d_R_meet_153 : decode b_R_meet 153 = .ok (.iload_n 2, 1) := by decide +kernel
theorem d_R_meet_154 : decode b_R_meet 154 = .ok (.iaload, 1) := by decide +kernel
theorem d_R_meet_155 : decode b_R_meet 155 = .ok (.invokevirtual 42, 3) := by decide +kernel
theorem d_R_meet_158 : decode b_R_meet 158 = .ok (.imul, 1) := by decide +kernel
theorem d_R_meet_159 : decode b_R_meet 159 = .ok (.ifCond .ge 45, 3) := by decide +kernel
theorem d_R_meet_162 : decode b_R_meet 162 = .ok (.aload_n 0, 1) := by decide +kernel
theorem d_R_meet_163 : decode b_R_meet 163 = .ok (.iload_n 2, 1) := by decide +kernel
theorem d_R_meet_164 : decode b_R_meet 164 = .ok (.aload_n 0, 1) := by decide +kernel
theorem d_R_meet_165 : decode b_R_meet 165 = .ok (.getfield 13, 3) := by decide +kernel
theorem d_R_meet_168 : decode b_R_meet 168 = .ok (.iload_n 1, 1) := by decide +kernel
theorem d_R_meet_169 : decode b_R_meet 169 = .ok (.iaload, 1) := by decide +kernel
theorem d_R_meet_170 : decode b_R_meet 170 = .ok (.aload_n 0, 1) := by decide +kernel
theorem d_R_meet_171 : decode b_R_meet 171 = .ok (.getfield 17, 3) := by decide +kernel
theorem d_R_meet_174 : decode b_R_meet 174 = .ok (.iload_n 1, 1) := by decide +kernel
theorem d_R_meet_175 : decode b_R_meet 175 = .ok (.iaload, 1) := by decide +kernel
theorem d_R_meet_176 : decode b_R_meet 176 = .ok (.invokevirtual 42, 3) := by decide +kernel
theorem d_R_meet_179 : decode b_R_meet 179 = .ok (.aload_n 0, 1) := by decide +kernel
theorem d_R_meet_180 : decode b_R_meet 180 = .ok (.iload_n 2, 1) := by decide +kernel
theorem d_R_meet_181 : decode b_R_meet 181 = .ok (.aload_n 0, 1) := by decide +kernel
theorem d_R_meet_182 : decode b_R_meet 182 = .ok (.getfield 20, 3) := by decide +kernel
theorem d_R_meet_185 : decode b_R_meet 185 = .ok (.iload_n 1, 1) := by decide +kernel
theorem d_R_meet_186 : decode b_R_meet 186 = .ok (.iaload, 1) := by decide +kernel
theorem d_R_meet_187 : decode b_R_meet 187 = .ok (.aload_n 0, 1) := by decide +kernel
theorem d_R_meet_188 : decode b_R_meet 188 = .ok (.getfield 23, 3) := by decide +kernel
theorem d_R_meet_191 : decode b_R_meet 191 = .ok (.iload_n 1, 1) := by decide +kernel
theorem d_R_meet_192 : decode b_R_meet 192 = .ok (.iaload, 1) := by decide +kernel
theorem d_R_meet_193 : decode b_R_meet 193 = .ok (.invokevirtual 42, 3) := by decide +kernel
theorem d_R_meet_196 : decode b_R_meet 196 = .ok (.imul, 1) := by decide +kernel
theorem d_R_meet_197 : decode b_R_meet 197 = .ok (.ifCond .ge 7, 3) := by decide +kernel
theorem d_R_meet_200 : decode b_R_meet 200 = .ok (.iconst 1, 1) := by decide +kernel
theorem d_R_meet_201 : decode b_R_meet 201 = .ok (.goto 4, 3) := by decide +kernel
theorem d_R_meet_204 : decode b_R_meet 204 = .ok (.iconst 0, 1) := by decide +kernel
theorem d_R_meet_205 : decode b_R_meet 205 = .ok (.ireturn, 1) := by decide +kernel
theorem d_R_add_0 : decode b_R_add 0 = .ok (.iload_n 1, 1) := by decide +kernel
theorem d_R_add_1 : decode b_R_add 1 = .ok (.invokestatic 53, 3) := by decide +kernel
theorem d_R_add_4 : decode b_R_add 4 = .ok (.ifCond .eq 36, 3) := by decide +kernel
theorem d_R_add_7 : decode b_R_add 7 = .ok (.iload_n 2, 1) := by decide +kernel
theorem d_R_add_8 : decode b_R_add 8 = .ok (.invokestatic 53, 3) := by decide +kernel
theorem d_R_add_11 : decode b_R_add 11 = .ok (.ifCond .eq 29, 3) := by decide +kernel
theorem d_R_add_14 : decode b_R_add 14 = .ok (.iload_n 3, 1) := by decide +kernel
theorem d_R_add_15 : decode b_R_add 15 = .ok (.invokestatic 53, 3) := by decide +kernel
theorem d_R_add_18 : decode b_R_add 18 = .ok (.ifCond .eq 22, 3) := by decide +kernel
theorem d_R_add_21 : decode b_R_add 21 = .ok (.iload 4, 2) := by decide +kernel
theorem d_R_add_23 : decode b_R_add 23 = .ok (.invokestatic 53, 3) := by decide +kernel
theorem d_R_add_26 : decode b_R_add 26 = .ok (.ifCond .eq 14, 3) := by decide +kernel
theorem d_R_add_29 : decode b_R_add 29 = .ok (.iload_n 1, 1) := by decide +kernel
theorem d_R_add_30 : decode b_R_add 30 = .ok (.iload_n 3, 1) := by decide +kernel
theorem d_R_add_31 : decode b_R_add 31 = .ok (.if_icmp .ne 12, 3) := by decide +kernel
theorem d_R_add_34 : decode b_R_add 34 = .ok (.iload_n 2, 1) := by decide +kernel
theorem d_R_add_35 : decode b_R_add 35 = .ok (.iload 4, 2) := by decide +kernel
theorem d_R_add_37 : decode b_R_add 37 = .ok (.if_icmp .ne 6, 3) := by decide +kernel
theorem d_R_add_40 : decode b_R_add 40 = .ok (.bipush (-2), 2) := by decide +kernel
theorem d_R_add_42 : decode b_R_add 42 = .ok (.ireturn, 1) := by decide +kernel
theorem d_R_add_43 : decode b_R_add 43 = .ok (.iconst 0, 1) := by decide +kernel
theorem d_R_add_44 : decode b_R_add 44 = .ok (.istore 5, 2) := by decide +kernel
theorem d_R_add_46 : decode b_R_add 46 = .ok (.iload 5, 2) := by decide +kernel
theorem d_R_add_48 : decode b_R_add 48 = .ok (.bipush 20, 2) := by decide +kernel
theorem d_R_add_50 : decode b_R_add 50 = .ok (.if_icmp .ge 19, 3) := by decide +kernel
theorem d_R_add_53 : decode b_R_add 53 = .ok (.aload_n 0, 1) := by decide +kernel
theorem d_R_add_54 : decode b_R_add 54 = .ok (.getfield 7, 3) := by decide +kernel
theorem d_R_add_57 : decode b_R_add 57 = .ok (.iload 5, 2) := by decide +kernel
theorem d_R_add_59 : decode b_R_add 59 = .ok (.baload, 1) := by decide +kernel
theorem d_R_add_60 : decode b_R_add 60 = .ok (.ifCond .eq 9, 3) := by decide +kernel
theorem d_R_add_63 : decode b_R_add 63 = .ok (.iinc 5 1, 3) := by decide +kernel
theorem d_R_add_66 : decode b_R_add 66 = .ok (.goto (-20), 3) := by decide +kernel
theorem d_R_add_69 : decode b_R_add 69 = .ok (.iload 5, 2) := by decide +kernel
theorem d_R_add_71 : decode b_R_add 71 = .ok (.bipush 20, 2) := by decide +kernel
theorem d_R_add_73 : decode b_R_add 73 = .ok (.if_icmp .ne 6, 3) := by decide +kernel
theorem d_R_add_76 : decode b_R_add 76 = .ok (.bipush (-3), 2) := by decide +kernel
theorem d_R_add_78 : decode b_R_add 78 = .ok (.ireturn, 1) := by decide +kernel
theorem d_R_add_79 : decode b_R_add 79 = .ok (.iload_n 3, 1) := by decide +kernel
theorem d_R_add_80 : decode b_R_add 80 = .ok (.iload_n 1, 1) := by decide +kernel
theorem d_R_add_81 : decode b_R_add 81 = .ok (.if_icmp .lt 14, 3) := by decide +kernel
theorem d_R_add_84 : decode b_R_add 84 = .ok (.iload_n 3, 1) := by decide +kernel
theorem d_R_add_85 : decode b_R_add 85 = .ok (.iload_n 1, 1) := by decide +kernel
theorem d_R_add_86 : decode b_R_add 86 = .ok (.if_icmp .ne 13, 3) := by decide +kernel
theorem d_R_add_89 : decode b_R_add 89 = .ok (.iload 4, 2) := by decide +kernel
theorem d_R_add_91 : decode b_R_add 91 = .ok (.iload_n 2, 1) := by decide +kernel
theorem d_R_add_92 : decode b_R_add 92 = .ok (.if_icmp .ge 7, 3) := by decide +kernel
theorem d_R_add_95 : decode b_R_add 95 = .ok (.iconst 1, 1) := by decide +kernel
theorem d_R_add_96 : decode b_R_add 96 = .ok (.goto 4, 3) := by decide +kernel
theorem d_R_add_99 : decode b_R_add 99 = .ok (.iconst 0, 1) := by decide +kernel
theorem d_R_add_100 : decode b_R_add 100 = .ok (.istore 6, 2) := by decide +kernel
theorem d_R_add_102 : decode b_R_add 102 = .ok (.aload_n 0, 1) := by decide +kernel
theorem d_R_add_103 : decode b_R_add 103 = .ok (.getfield 13, 3) := by decide +kernel
theorem d_R_add_106 : decode b_R_add 106 = .ok (.iload 5, 2) := by decide +kernel
theorem d_R_add_108 : decode b_R_add 108 = .ok (.iload 6, 2) := by decide +kernel
theorem d_R_add_110 : decode b_R_add 110 = .ok (.ifCond .eq 7, 3) := by decide +kernel
theorem d_R_add_113 : decode b_R_add 113 = .ok (.iload_n 3, 1) := by decide +kernel
theorem d_R_add_114 : decode b_R_add 114 = .ok (.goto 4, 3) := by decide +kernel
theorem d_R_add_117 : decode b_R_add 117 = .ok (.iload_n 1, 1) := by decide +kernel
theorem d_R_add_118 : decode b_R_add 118 = .ok (.iastore, 1) := by decide +kernel
theorem d_R_add_119 : decode b_R_add 119 = .ok (.aload_n 0, 1) := by decide +kernel
theorem d_R_add_120 : decode b_R_add 120 = .ok (.getfield 17, 3) := by decide +kernel
theorem d_R_add_123 : decode b_R_add 123 = .ok (.iload 5, 2) := by decide +kernel
theorem d_R_add_125 : decode b_R_add 125 = .ok (.iload 6, 2) := by decide +kernel
theorem d_R_add_127 : decode b_R_add 127 = .ok (.ifCond .eq 8, 3) := by decide +kernel
theorem d_R_add_130 : decode b_R_add 130 = .ok (.iload 4, 2) := by decide +kernel
theorem d_R_add_132 : decode b_R_add 132 = .ok (.goto 4, 3) := by decide +kernel
theorem d_R_add_135 : decode b_R_add 135 = .ok (.iload_n 2, 1) := by decide +kernel
theorem d_R_add_136 : decode b_R_add 136 = .ok (.iastore, 1) := by decide +kernel
theorem d_R_add_137 : decode b_R_add 137 = .ok (.aload_n 0, 1) := by decide +kernel
theorem d_R_add_138 : decode b_R_add 138 = .ok (.getfield 20, 3) := by decide +kernel
theorem d_R_add_141 : decode b_R_add 141 = .ok (.iload 5, 2) := by decide +kernel
theorem d_R_add_143 : decode b_R_add 143 = .ok (.iload 6, 2) := by decide +kernel
theorem d_R_add_145 : decode b_R_add 145 = .ok (.ifCond .eq 7, 3) := by decide +kernel
theorem d_R_add_148 : decode b_R_add 148 = .ok (.iload_n 1, 1) := by decide +kernel
theorem d_R_add_149 : decode b_R_add 149 = .ok (.goto 4, 3) := by decide +kernel
theorem d_R_add_152 : decode b_R_add 152 = .ok (.iload_n 3, 1) := by decide +kernel
theorem d_R_add_153 : decode b_R_add 153 = .ok (.iastore, 1) := by decide +kernel
theorem d_R_add_154 : decode b_R_add 154 = .ok (.aload_n 0, 1) := by decide +kernel
theorem d_R_add_155 : decode b_R_add 155 = .ok (.getfield 23, 3) := by decide +kernel
theorem d_R_add_158 : decode b_R_add 158 = .ok (.iload 5, 2) := by decide +kernel
theorem d_R_add_160 : decode b_R_add 160 = .ok (.iload 6, 2) := by decide +kernel
theorem d_R_add_162 : decode b_R_add 162 = .ok (.ifCond .eq 7, 3) := by decide +kernel
theorem d_R_add_165 : decode b_R_add 165 = .ok (.iload_n 2, 1) := by decide +kernel
theorem d_R_add_166 : decode b_R_add 166 = .ok (.goto 5, 3) := by decide +kernel
theorem d_R_add_169 : decode b_R_add 169 = .ok (.iload 4, 2) := by decide +kernel
theorem d_R_add_171 : decode b_R_add 171 = .ok (.iastore, 1) := by decide +kernel
theorem d_R_add_172 : decode b_R_add 172 = .ok (.iconst 0, 1) := by decide +kernel
theorem d_R_add_173 : decode b_R_add 173 = .ok (.istore 7, 2) := by decide +kernel
theorem d_R_add_175 : decode b_R_add 175 = .ok (.iload 7, 2) := by decide +kernel
theorem d_R_add_177 : decode b_R_add 177 = .ok (.bipush 20, 2) := by decide +kernel
theorem d_R_add_179 : decode b_R_add 179 = .ok (.if_icmp .ge 36, 3) := by decide +kernel
theorem d_R_add_182 : decode b_R_add 182 = .ok (.aload_n 0, 1) := by decide +kernel
theorem d_R_add_183 : decode b_R_add 183 = .ok (.getfield 7, 3) := by decide +kernel
theorem d_R_add_186 : decode b_R_add 186 = .ok (.iload 7, 2) := by decide +kernel
theorem d_R_add_188 : decode b_R_add 188 = .ok (.baload, 1) := by decide +kernel
theorem d_R_add_189 : decode b_R_add 189 = .ok (.ifCond .eq 20, 3) := by decide +kernel
theorem d_R_add_192 : decode b_R_add 192 = .ok (.aload_n 0, 1) := by decide +kernel
theorem d_R_add_193 : decode b_R_add 193 = .ok (.iload 5, 2) := by decide +kernel
theorem d_R_add_195 : decode b_R_add 195 = .ok (.iload 7, 2) := by decide +kernel
theorem d_R_add_197 : decode b_R_add 197 = .ok (.invokevirtual 57, 3) := by decide +kernel
theorem d_R_add_200 : decode b_R_add 200 = .ok (.ifCond .eq 9, 3) := by decide +kernel
theorem d_R_add_203 : decode b_R_add 203 = .ok (.bipush (-10), 2) := by decide +kernel
theorem d_R_add_205 : decode b_R_add 205 = .ok (.iload 7, 2) := by decide +kernel
theorem d_R_add_207 : decode b_R_add 207 = .ok (.isub, 1) := by decide +kernel
theorem d_R_add_208 : decode b_R_add 208 = .ok (.ireturn, 1) := by decide +kernel
theorem d_R_add_209 : decode b_R_add 209 = .ok (.iinc 7 1, 3) := by decide +kernel
theorem d_R_add_212 : decode b_R_add 212 = .ok (.goto (-37), 3) := by decide +kernel
theorem d_R_add_215 : decode b_R_add 215 = .ok (.aload_n 0, 1) := by decide +kernel
theorem d_R_add_216 : decode b_R_add 216 = .ok (.getfield 7, 3) := by decide +kernel
theorem d_R_add_219 : decode b_R_add 219 = .ok (.iload 5, 2) := by decide +kernel
theorem d_R_add_221 : decode b_R_add 221 = .ok (.iconst 1, 1) := by decide +kernel
theorem d_R_add_222 : decode b_R_add 222 = .ok (.bastore, 1) := by decide +kernel
theorem d_R_add_223 : decode b_R_add 223 = .ok (.aload_n 0, 1) := by decide +kernel
theorem d_R_add_224 : decode b_R_add 224 = .ok (.iconst 0, 1) := by decide +kernel
theorem d_R_add_225 : decode b_R_add 225 = .ok (.putfield 61, 3) := by decide +kernel
theorem d_R_add_228 : decode b_R_add 228 = .ok (.iload 5, 2) := by decide +kernel
theorem d_R_add_230 : decode b_R_add 230 = .ok (.ireturn, 1) := by decide +kernel
theorem d_R_isSegment_0 : decode b_R_isSegment 0 = .ok (.iload_n 1, 1) := by decide +kernel
theorem d_R_isSegment_1 : decode b_R_isSegment 1 = .ok (.ifCond .lt 22, 3) := by decide +kernel
theorem d_R_isSegment_4 : decode b_R_isSegment 4 = .ok (.iload_n 1, 1) := by decide +kernel
theorem d_R_isSegment_5 : decode b_R_isSegment 5 = .ok (.bipush 20, 2) := by decide +kernel
theorem d_R_isSegment_7 : decode b_R_isSegment 7 = .ok (.if_icmp .ge 16, 3) := by decide +kernel
theorem d_R_isSegment_10 : decode b_R_isSegment 10 = .ok (.aload_n 0, 1) := by decide +kernel
theorem d_R_isSegment_11 : decode b_R_isSegment 11 = .ok (.getfield 7, 3) := by decide +kernel
theorem d_R_isSegment_14 : decode b_R_isSegment 14 = .ok (.iload_n 1, 1) := by decide +kernel
theorem d_R_isSegment_15 : decode b_R_isSegment 15 = .ok (.baload, 1) := by decide +kernel
theorem d_R_isSegment_16 : decode b_R_isSegment 16 = .ok (.ifCond .eq 7, 3) := by decide +kernel
theorem d_R_isSegment_19 : decode b_R_isSegment 19 = .ok (.iconst 1, 1) := by decide +kernel
theorem d_R_isSegment_20 : decode b_R_isSegment 20 = .ok (.goto 4, 3) := by decide +kernel
theorem d_R_isSegment_23 : decode b_R_isSegment 23 = .ok (.iconst 0, 1) := by decide +kernel
theorem d_R_isSegment_24 : decode b_R_isSegment 24 = .ok (.ireturn, 1) := by decide +kernel
theorem d_R_remove_0 : decode b_R_remove 0 = .ok (.aload_n 0, 1) := by decide +kernel
theorem d_R_remove_1 : decode b_R_remove 1 = .ok (.iload_n 1, 1) := by decide +kernel
theorem d_R_remove_2 : decode b_R_remove 2 = .ok (.invokevirtual 65, 3) := by decide +kernel
theorem d_R_remove_5 : decode b_R_remove 5 = .ok (.ifCond .ne 5, 3) := by decide +kernel
theorem d_R_remove_8 : decode b_R_remove 8 = .ok (.iconst 0, 1) := by decide +kernel
theorem d_R_remove_9 : decode b_R_remove 9 = .ok (.ireturn, 1) := by decide +kernel
theorem d_R_remove_10 : decode b_R_remove 10 = .ok (.aload_n 0, 1) := by decide +kernel
theorem d_R_remove_11 : decode b_R_remove 11 = .ok (.getfield 7, 3) := by decide +kernel
theorem d_R_remove_14 : decode b_R_remove 14 = .ok (.iload_n 1, 1) := by decide +kernel
theorem d_R_remove_15 : decode b_R_remove 15 = .ok (.iconst 0, 1) := by decide +kernel
theorem d_R_remove_16 : decode b_R_remove 16 = .ok (.bastore, 1) := by decide +kernel
theorem d_R_remove_17 : decode b_R_remove 17 = .ok (.aload_n 0, 1) := by decide +kernel
theorem d_R_remove_18 : decode b_R_remove 18 = .ok (.iconst 0, 1) := by decide +kernel
theorem d_R_remove_19 : decode b_R_remove 19 = .ok (.putfield 61, 3) := by decide +kernel
theorem d_R_remove_22 : decode b_R_remove 22 = .ok (.iconst 1, 1) := by decide +kernel
theorem d_R_remove_23 : decode b_R_remove 23 = .ok (.ireturn, 1) := by decide +kernel
theorem d_R_segments_0 : decode b_R_segments 0 = .ok (.iconst 0, 1) := by decide +kernel
theorem d_R_segments_1 : decode b_R_segments 1 = .ok (.istore_n 1, 1) := by decide +kernel
theorem d_R_segments_2 : decode b_R_segments 2 = .ok (.iconst 0, 1) := by decide +kernel
theorem d_R_segments_3 : decode b_R_segments 3 = .ok (.istore_n 2, 1) := by decide +kernel
theorem d_R_segments_4 : decode b_R_segments 4 = .ok (.iload_n 2, 1) := by decide +kernel
theorem d_R_segments_5 : decode b_R_segments 5 = .ok (.bipush 20, 2) := by decide +kernel
theorem d_R_segments_7 : decode b_R_segments 7 = .ok (.if_icmp .ge 26, 3) := by decide +kernel
theorem d_R_segments_10 : decode b_R_segments 10 = .ok (.aload_n 0, 1) := by decide +kernel
theorem d_R_segments_11 : decode b_R_segments 11 = .ok (.getfield 7, 3) := by decide +kernel
theorem d_R_segments_14 : decode b_R_segments 14 = .ok (.iload_n 2, 1) := by decide +kernel
theorem d_R_segments_15 : decode b_R_segments 15 = .ok (.baload, 1) := by decide +kernel
theorem d_R_segments_16 : decode b_R_segments 16 = .ok (.ifCond .eq 9, 3) := by decide +kernel
theorem d_R_segments_19 : decode b_R_segments 19 = .ok (.iload_n 1, 1) := by decide +kernel
theorem d_R_segments_20 : decode b_R_segments 20 = .ok (.iconst 1, 1) := by decide +kernel
theorem d_R_segments_21 : decode b_R_segments 21 = .ok (.iadd, 1) := by decide +kernel
theorem d_R_segments_22 : decode b_R_segments 22 = .ok (.goto 4, 3) := by decide +kernel
theorem d_R_segments_25 : decode b_R_segments 25 = .ok (.iload_n 1, 1) := by decide +kernel
theorem d_R_segments_26 : decode b_R_segments 26 = .ok (.istore_n 1, 1) := by decide +kernel
theorem d_R_segments_27 : decode b_R_segments 27 = .ok (.iinc 2 1, 3) := by decide +kernel
theorem d_R_segments_30 : decode b_R_segments 30 = .ok (.goto (-26), 3) := by decide +kernel
theorem d_R_segments_33 : decode b_R_segments 33 = .ok (.iload_n 1, 1) := by decide +kernel
theorem d_R_segments_34 : decode b_R_segments 34 = .ok (.ireturn, 1) := by decide +kernel
theorem d_R_endings_0 : decode b_R_endings 0 = .ok (.iconst 0, 1) := by decide +kernel
theorem d_R_endings_1 : decode b_R_endings 1 = .ok (.istore_n 3, 1) := by decide +kernel
theorem d_R_endings_2 : decode b_R_endings 2 = .ok (.iconst 0, 1) := by decide +kernel
theorem d_R_endings_3 : decode b_R_endings 3 = .ok (.istore 4, 2) := by decide +kernel
theorem d_R_endings_5 : decode b_R_endings 5 = .ok (.iload 4, 2) := by decide +kernel
theorem d_R_endings_7 : decode b_R_endings 7 = .ok (.bipush 20, 2) := by decide +kernel
theorem d_R_endings_9 : decode b_R_endings 9 = .ok (.if_icmp .ge 38, 3) := by decide +kernel
theorem d_R_endings_12 : decode b_R_endings 12 = .ok (.aload_n 0, 1) := by decide +kernel
theorem d_R_endings_13 : decode b_R_endings 13 = .ok (.getfield 7, 3) := by decide +kernel
theorem d_R_endings_16 : decode b_R_endings 16 = .ok (.iload 4, 2) := by decide +kernel
theorem d_R_endings_18 : decode b_R_endings 18 = .ok (.baload, 1) := by decide +kernel
theorem d_R_endings_19 : decode b_R_endings 19 = .ok (.ifCond .eq 20, 3) := by decide +kernel
theorem d_R_endings_22 : decode b_R_endings 22 = .ok (.aload_n 0, 1) := by decide +kernel
theorem d_R_endings_23 : decode b_R_endings 23 = .ok (.iload 4, 2) := by decide +kernel
theorem d_R_endings_25 : decode b_R_endings 25 = .ok (.iload_n 1, 1) := by decide +kernel
theorem d_R_endings_26 : decode b_R_endings 26 = .ok (.iload_n 2, 1) := by decide +kernel
theorem d_R_endings_27 : decode b_R_endings 27 = .ok (.invokevirtual 46, 3) := by decide +kernel
theorem d_R_endings_30 : decode b_R_endings 30 = .ok (.ifCond .eq 9, 3) := by decide +kernel
theorem d_R_endings_33 : decode b_R_endings 33 = .ok (.iload_n 3, 1) := by decide +kernel
theorem d_R_endings_34 : decode b_R_endings 34 = .ok (.iconst 1, 1) := by decide +kernel
theorem d_R_endings_35 : decode b_R_endings 35 = .ok (.iadd, 1) := by decide +kernel
theorem d_R_endings_36 : decode b_R_endings 36 = .ok (.goto 4, 3) := by decide +kernel
theorem d_R_endings_39 : decode b_R_endings 39 = .ok (.iload_n 3, 1) := by decide +kernel
theorem d_R_endings_40 : decode b_R_endings 40 = .ok (.istore_n 3, 1) := by decide +kernel
theorem d_R_endings_41 : decode b_R_endings 41 = .ok (.iinc 4 1, 3) := by decide +kernel
theorem d_R_endings_44 : decode b_R_endings 44 = .ok (.goto (-39), 3) := by decide +kernel
theorem d_R_endings_47 : decode b_R_endings 47 = .ok (.iload_n 3, 1) := by decide +kernel
theorem d_R_endings_48 : decode b_R_endings 48 = .ok (.ireturn, 1) := by decide +kernel
theorem d_R_firstAt_0 : decode b_R_firstAt 0 = .ok (.bipush 20, 2) := by decide +kernel
theorem d_R_firstAt_2 : decode b_R_firstAt 2 = .ok (.istore_n 3, 1) := by decide +kernel
theorem d_R_firstAt_3 : decode b_R_firstAt 3 = .ok (.bipush 19, 2) := by decide +kernel
theorem d_R_firstAt_5 : decode b_R_firstAt 5 = .ok (.istore 4, 2) := by decide +kernel
theorem d_R_firstAt_7 : decode b_R_firstAt 7 = .ok (.iload 4, 2) := by decide +kernel
theorem d_R_firstAt_9 : decode b_R_firstAt 9 = .ok (.ifCond .lt 37, 3) := by decide +kernel
theorem d_R_firstAt_12 : decode b_R_firstAt 12 = .ok (.aload_n 0, 1) := by decide +kernel
theorem d_R_firstAt_13 : decode b_R_firstAt 13 = .ok (.getfield 7, 3) := by decide +kernel
theorem d_R_firstAt_16 : decode b_R_firstAt 16 = .ok (.iload 4, 2) := by decide +kernel
theorem d_R_firstAt_18 : decode b_R_firstAt 18 = .ok (.baload, 1) := by decide +kernel
theorem d_R_firstAt_19 : decode b_R_firstAt 19 = .ok (.ifCond .eq 19, 3) := by decide +kernel
theorem d_R_firstAt_22 : decode b_R_firstAt 22 = .ok (.aload_n 0, 1) := by decide +kernel
theorem d_R_firstAt_23 : decode b_R_firstAt 23 = .ok (.iload 4, 2) := by decide +kernel
theorem d_R_firstAt_25 : decode b_R_firstAt 25 = .ok (.iload_n 1, 1) := by decide +kernel
theorem d_R_firstAt_26 : decode b_R_firstAt 26 = .ok (.iload_n 2, 1) := by decide +kernel
theorem d_R_firstAt_27 : decode b_R_firstAt 27 = .ok (.invokevirtual 46, 3) := by decide +kernel
theorem d_R_firstAt_30 : decode b_R_firstAt 30 = .ok (.ifCond .eq 8, 3) := by decide +kernel
theorem d_R_firstAt_33 : decode b_R_firstAt 33 = .ok (.iload 4, 2) := by decide +kernel
theorem d_R_firstAt_35 : decode b_R_firstAt 35 = .ok (.goto 4, 3) := by decide +kernel
theorem d_R_firstAt_38 : decode b_R_firstAt 38 = .ok (.iload_n 3, 1) := by decide +kernel
theorem d_R_firstAt_39 : decode b_R_firstAt 39 = .ok (.istore_n 3, 1) := by decide +kernel
theorem d_R_firstAt_40 : decode b_R_firstAt 40 = .ok (.iinc 4 (-1), 3) := by decide +kernel
theorem d_R_firstAt_43 : decode b_R_firstAt 43 = .ok (.goto (-36), 3) := by decide +kernel
theorem d_R_firstAt_46 : decode b_R_firstAt 46 = .ok (.iload_n 3, 1) := by decide +kernel
theorem d_R_firstAt_47 : decode b_R_firstAt 47 = .ok (.ireturn, 1) := by decide +kernel
theorem d_R_vertices_0 : decode b_R_vertices 0 = .ok (.iconst 0, 1) := by decide +kernel
theorem d_R_vertices_1 : decode b_R_vertices 1 = .ok (.istore_n 1, 1) := by decide +kernel
theorem d_R_vertices_2 : decode b_R_vertices 2 = .ok (.iconst 0, 1) := by decide +kernel
theorem d_R_vertices_3 : decode b_R_vertices 3 = .ok (.istore_n 2, 1) := by decide +kernel
theorem d_R_vertices_4 : decode b_R_vertices 4 = .ok (.iload_n 2, 1) := by decide +kernel
theorem d_R_vertices_5 : decode b_R_vertices 5 = .ok (.bipush 20, 2) := by decide +kernel
theorem d_R_vertices_7 : decode b_R_vertices 7 = .ok (.if_icmp .ge 72, 3) := by decide +kernel
theorem d_R_vertices_10 : decode b_R_vertices 10 = .ok (.aload_n 0, 1) := by decide +kernel
theorem d_R_vertices_11 : decode b_R_vertices 11 = .ok (.getfield 7, 3) := by decide +kernel
theorem d_R_vertices_14 : decode b_R_vertices 14 = .ok (.iload_n 2, 1) := by decide +kernel
theorem d_R_vertices_15 : decode b_R_vertices 15 = .ok (.baload, 1) := by decide +kernel
theorem d_R_vertices_16 : decode b_R_vertices 16 = .ok (.ifCond .eq 57, 3) := by decide +kernel
theorem d_R_vertices_19 : decode b_R_vertices 19 = .ok (.iload_n 1, 1) := by decide +kernel
theorem d_R_vertices_20 : decode b_R_vertices 20 = .ok (.aload_n 0, 1) := by decide +kernel
theorem d_R_vertices_21 : decode b_R_vertices 21 = .ok (.aload_n 0, 1) := by decide +kernel
theorem d_R_vertices_22 : decode b_R_vertices 22 = .ok (.getfield 13, 3) := by decide +kernel
theorem d_R_vertices_25 : decode b_R_vertices 25 = .ok (.iload_n 2, 1) := by decide +kernel
theorem d_R_vertices_26 : decode b_R_vertices 26 = .ok (.iaload, 1) := by decide +kernel
theorem d_R_vertices_27 : decode b_R_vertices 27 = .ok (.aload_n 0, 1) := by decide +kernel
theorem d_R_vertices_28 : decode b_R_vertices 28 = .ok (.getfield 17, 3) := by decide +kernel
theorem d_R_vertices_31 : decode b_R_vertices 31 = .ok (.iload_n 2, 1) := by decide +kernel
theorem d_R_vertices_32 : decode b_R_vertices 32 = .ok (.iaload, 1) := by decide +kernel
theorem d_R_vertices_33 : decode b_R_vertices 33 = .ok (.invokevirtual 68, 3) := by decide +kernel
theorem d_R_vertices_36 : decode b_R_vertices 36 = .ok (.iload_n 2, 1) := by decide +kernel
theorem d_R_vertices_37 : decode b_R_vertices 37 = .ok (.if_icmp .ne 7, 3) := by decide +kernel
theorem d_R_vertices_40 : decode b_R_vertices 40 = .ok (.iconst 1, 1) := by decide +kernel
theorem d_R_vertices_41 : decode b_R_vertices 41 = .ok (.goto 4, 3) := by decide +kernel
theorem d_R_vertices_44 : decode b_R_vertices 44 = .ok (.iconst 0, 1) := by decide +kernel
theorem d_R_vertices_45 : decode b_R_vertices 45 = .ok (.aload_n 0, 1) := by decide +kernel
theorem d_R_vertices_46 : decode b_R_vertices 46 = .ok (.aload_n 0, 1) := by decide +kernel
theorem d_R_vertices_47 : decode b_R_vertices 47 = .ok (.getfield 20, 3) := by decide +kernel
theorem d_R_vertices_50 : decode b_R_vertices 50 = .ok (.iload_n 2, 1) := by decide +kernel
theorem d_R_vertices_51 : decode b_R_vertices 51 = .ok (.iaload, 1) := by decide +kernel
theorem d_R_vertices_52 : decode b_R_vertices 52 = .ok (.aload_n 0, 1) := by decide +kernel
theorem d_R_vertices_53 : decode b_R_vertices 53 = .ok (.getfield 23, 3) := by decide +kernel
theorem d_R_vertices_56 : decode b_R_vertices 56 = .ok (.iload_n 2, 1) := by decide +kernel
theorem d_R_vertices_57 : decode b_R_vertices 57 = .ok (.iaload, 1) := by decide +kernel
theorem d_R_vertices_58 : decode b_R_vertices 58 = .ok (.invokevirtual 68, 3) := by decide +kernel
theorem d_R_vertices_61 : decode b_R_vertices 61 = .ok (.iload_n 2, 1) := by decide +kernel
theorem d_R_vertices_62 : decode b_R_vertices 62 = .ok (.if_icmp .ne 7, 3) := by decide +kernel
theorem d_R_vertices_65 : decode b_R_vertices 65 = .ok (.iconst 1, 1) := by decide +kernel
theorem d_R_vertices_66 : decode b_R_vertices 66 = .ok (.goto 4, 3) := by decide +kernel
theorem d_R_vertices_69 : decode b_R_vertices 69 = .ok (.iconst 0, 1) := by decide +kernel
theorem d_R_vertices_70 : decode b_R_vertices 70 = .ok (.iadd, 1) := by decide +kernel
theorem d_R_vertices_71 : decode b_R_vertices 71 = .ok (.iadd, 1) := by decide +kernel
theorem d_R_vertices_72 : decode b_R_vertices 72 = .ok (.istore_n 1, 1) := by decide +kernel
theorem d_R_vertices_73 : decode b_R_vertices 73 = .ok (.iinc 2 1, 3) := by decide +kernel
theorem d_R_vertices_76 : decode b_R_vertices 76 = .ok (.goto (-72), 3) := by decide +kernel
theorem d_R_vertices_79 : decode b_R_vertices 79 = .ok (.iload_n 1, 1) := by decide +kernel
theorem d_R_vertices_80 : decode b_R_vertices 80 = .ok (.ireturn, 1) := by decide +kernel
theorem d_R_touch_0 : decode b_R_touch 0 = .ok (.aload_n 0, 1) := by decide +kernel
theorem d_R_touch_1 : decode b_R_touch 1 = .ok (.iload_n 1, 1) := by decide +kernel
theorem d_R_touch_2 : decode b_R_touch 2 = .ok (.aload_n 0, 1) := by decide +kernel
theorem d_R_touch_3 : decode b_R_touch 3 = .ok (.getfield 13, 3) := by decide +kernel
theorem d_R_touch_6 : decode b_R_touch 6 = .ok (.iload_n 2, 1) := by decide +kernel
theorem d_R_touch_7 : decode b_R_touch 7 = .ok (.iaload, 1) := by decide +kernel
theorem d_R_touch_8 : decode b_R_touch 8 = .ok (.aload_n 0, 1) := by decide +kernel
theorem d_R_touch_9 : decode b_R_touch 9 = .ok (.getfield 17, 3) := by decide +kernel
theorem d_R_touch_12 : decode b_R_touch 12 = .ok (.iload_n 2, 1) := by decide +kernel
theorem d_R_touch_13 : decode b_R_touch 13 = .ok (.iaload, 1) := by decide +kernel
theorem d_R_touch_14 : decode b_R_touch 14 = .ok (.invokevirtual 46, 3) := by decide +kernel
theorem d_R_touch_17 : decode b_R_touch 17 = .ok (.ifCond .ne 23, 3) := by decide +kernel
theorem d_R_touch_20 : decode b_R_touch 20 = .ok (.aload_n 0, 1) := by decide +kernel
theorem d_R_touch_21 : decode b_R_touch 21 = .ok (.iload_n 1, 1) := by decide +kernel
theorem d_R_touch_22 : decode b_R_touch 22 = .ok (.aload_n 0, 1) := by decide +kernel
theorem d_R_touch_23 : decode b_R_touch 23 = .ok (.getfield 20, 3) := by decide +kernel
theorem d_R_touch_26 : decode b_R_touch 26 = .ok (.iload_n 2, 1) := by decide +kernel
theorem d_R_touch_27 : decode b_R_touch 27 = .ok (.iaload, 1) := by decide +kernel
theorem d_R_touch_28 : decode b_R_touch 28 = .ok (.aload_n 0, 1) := by decide +kernel
theorem d_R_touch_29 : decode b_R_touch 29 = .ok (.getfield 23, 3) := by decide +kernel
theorem d_R_touch_32 : decode b_R_touch 32 = .ok (.iload_n 2, 1) := by decide +kernel
theorem d_R_touch_33 : decode b_R_touch 33 = .ok (.iaload, 1) := by decide +kernel
theorem d_R_touch_34 : decode b_R_touch 34 = .ok (.invokevirtual 46, 3) := by decide +kernel
theorem d_R_touch_37 : decode b_R_touch 37 = .ok (.ifCond .eq 7, 3) := by decide +kernel
theorem d_R_touch_40 : decode b_R_touch 40 = .ok (.iconst 1, 1) := by decide +kernel
theorem d_R_touch_41 : decode b_R_touch 41 = .ok (.goto 4, 3) := by decide +kernel
theorem d_R_touch_44 : decode b_R_touch 44 = .ok (.iconst 0, 1) := by decide +kernel
theorem d_R_touch_45 : decode b_R_touch 45 = .ok (.ireturn, 1) := by decide +kernel
theorem d_R_partOf_0 : decode b_R_partOf 0 = .ok (.iconst 1, 1) := by decide +kernel
theorem d_R_partOf_1 : decode b_R_partOf 1 = .ok (.iload_n 1, 1) := by decide +kernel
theorem d_R_partOf_2 : decode b_R_partOf 2 = .ok (.ishl, 1) := by decide +kernel
theorem d_R_partOf_3 : decode b_R_partOf 3 = .ok (.istore_n 2, 1) := by decide +kernel
theorem d_R_partOf_4 : decode b_R_partOf 4 = .ok (.iconst 0, 1) := by decide +kernel
theorem d_R_partOf_5 : decode b_R_partOf 5 = .ok (.istore_n 3, 1) := by decide +kernel
theorem d_R_partOf_6 : decode b_R_partOf 6 = .ok (.iload_n 2, 1) := by decide +kernel
theorem d_R_partOf_7 : decode b_R_partOf 7 = .ok (.iload_n 3, 1) := by decide +kernel
theorem d_R_partOf_8 : decode b_R_partOf 8 = .ok (.if_icmp .eq 94, 3) := by decide +kernel
theorem d_R_partOf_11 : decode b_R_partOf 11 = .ok (.iload_n 2, 1) := by decide +kernel
theorem d_R_partOf_12 : decode b_R_partOf 12 = .ok (.istore_n 3, 1) := by decide +kernel
theorem d_R_partOf_13 : decode b_R_partOf 13 = .ok (.iconst 0, 1) := by decide +kernel
theorem d_R_partOf_14 : decode b_R_partOf 14 = .ok (.istore 4, 2) := by decide +kernel
theorem d_R_partOf_16 : decode b_R_partOf 16 = .ok (.iload 4, 2) := by decide +kernel
theorem d_R_partOf_18 : decode b_R_partOf 18 = .ok (.bipush 20, 2) := by decide +kernel
theorem d_R_partOf_20 : decode b_R_partOf 20 = .ok (.if_icmp .ge 79, 3) := by decide +kernel
theorem d_R_partOf_23 : decode b_R_partOf 23 = .ok (.iconst 0, 1) := by decide +kernel
theorem d_R_partOf_24 : decode b_R_partOf 24 = .ok (.istore 5, 2) := by decide +kernel
theorem d_R_partOf_26 : decode b_R_partOf 26 = .ok (.iload 5, 2) := by decide +kernel
theorem d_R_partOf_28 : decode b_R_partOf 28 = .ok (.bipush 20, 2) := by decide +kernel
theorem d_R_partOf_30 : decode b_R_partOf 30 = .ok (.if_icmp .ge 63, 3) := by decide +kernel
theorem d_R_partOf_33 : decode b_R_partOf 33 = .ok (.aload_n 0, 1) := by decide +kernel
theorem d_R_partOf_34 : decode b_R_partOf 34 = .ok (.getfield 7, 3) := by decide +kernel
theorem d_R_partOf_37 : decode b_R_partOf 37 = .ok (.iload 4, 2) := by decide +kernel
theorem d_R_partOf_39 : decode b_R_partOf 39 = .ok (.baload, 1) := by decide +kernel
theorem d_R_partOf_40 : decode b_R_partOf 40 = .ok (.ifCond .eq 28, 3) := by decide +kernel
theorem d_R_partOf_43 : decode b_R_partOf 43 = .ok (.iload_n 2, 1) := by decide +kernel
theorem d_R_partOf_44 : decode b_R_partOf 44 = .ok (.iload 5, 2) := by decide +kernel
theorem d_R_partOf_46 : decode b_R_partOf 46 = .ok (.ishr, 1) := by decide +kernel
theorem d_R_partOf_47 : decode b_R_partOf 47 = .ok (.iconst 1, 1) := by decide +kernel
theorem d_R_partOf_48 : decode b_R_partOf 48 = .ok (.iand, 1) := by decide +kernel
theorem d_R_partOf_49 : decode b_R_partOf 49 = .ok (.iconst 1, 1) := by decide +kernel
theorem d_R_partOf_50 : decode b_R_partOf 50 = .ok (.if_icmp .ne 18, 3) := by decide +kernel
theorem d_R_partOf_53 : decode b_R_partOf 53 = .ok (.aload_n 0, 1) := by decide +kernel
theorem d_R_partOf_54 : decode b_R_partOf 54 = .ok (.iload 5, 2) := by decide +kernel
theorem d_R_partOf_56 : decode b_R_partOf 56 = .ok (.iload 4, 2) := by decide +kernel
theorem d_R_partOf_58 : decode b_R_partOf 58 = .ok (.invokevirtual 72, 3) := by decide +kernel
theorem d_R_partOf_61 : decode b_R_partOf 61 = .ok (.ifCond .eq 7, 3) := by decide +kernel
theorem d_R_partOf_64 : decode b_R_partOf 64 = .ok (.iconst 1, 1) := by decide +kernel
theorem d_R_partOf_65 : decode b_R_partOf 65 = .ok (.goto 4, 3) := by decide +kernel
theorem d_R_partOf_68 : decode b_R_partOf 68 = .ok (.iconst 0, 1) := by decide +kernel
theorem d_R_partOf_69 : decode b_R_partOf 69 = .ok (.istore 6, 2) := by decide +kernel
theorem d_R_partOf_71 : decode b_R_partOf 71 = .ok (.iload 6, 2) := by decide +kernel
theorem d_R_partOf_73 : decode b_R_partOf 73 = .ok (.ifCond .eq 12, 3) := by decide +kernel
theorem d_R_partOf_76 : decode b_R_partOf 76 = .ok (.iload_n 2, 1) := by decide +kernel
theorem d_R_partOf_77 : decode b_R_partOf 77 = .ok (.iconst 1, 1) := by decide +kernel
theorem d_R_partOf_78 : decode b_R_partOf 78 = .ok (.iload 4, 2) := by decide +kernel
theorem d_R_partOf_80 : decode b_R_partOf 80 = .ok (.ishl, 1) := by decide +kernel
theorem d_R_partOf_81 : decode b_R_partOf 81 = .ok (.ior, 1) := by decide +kernel
theorem d_R_partOf_82 : decode b_R_partOf 82 = .ok (.goto 4, 3) := by decide +kernel
theorem d_R_partOf_85 : decode b_R_partOf 85 = .ok (.iload_n 2, 1) := by decide +kernel
theorem d_R_partOf_86 : decode b_R_partOf 86 = .ok (.istore_n 2, 1) := by decide +kernel
theorem d_R_partOf_87 : decode b_R_partOf 87 = .ok (.iinc 5 1, 3) := by decide +kernel
theorem d_R_partOf_90 : decode b_R_partOf 90 = .ok (.goto (-64), 3) := by decide +kernel
theorem d_R_partOf_93 : decode b_R_partOf 93 = .ok (.iinc 4 1, 3) := by decide +kernel
theorem d_R_partOf_96 : decode b_R_partOf 96 = .ok (.goto (-80), 3) := by decide +kernel
theorem d_R_partOf_99 : decode b_R_partOf 99 = .ok (.goto (-93), 3) := by decide +kernel
theorem d_R_partOf_102 : decode b_R_partOf 102 = .ok (.iload_n 2, 1) := by decide +kernel
theorem d_R_partOf_103 : decode b_R_partOf 103 = .ok (.ireturn, 1) := by decide +kernel
theorem d_R_parts_0 : decode b_R_parts 0 = .ok (.iconst 0, 1) := by decide +kernel
theorem d_R_parts_1 : decode b_R_parts 1 = .ok (.istore_n 1, 1) := by decide +kernel
theorem d_R_parts_2 : decode b_R_parts 2 = .ok (.iconst 0, 1) := by decide +kernel
theorem d_R_parts_3 : decode b_R_parts 3 = .ok (.istore_n 2, 1) := by decide +kernel
theorem d_R_parts_4 : decode b_R_parts 4 = .ok (.iload_n 2, 1) := by decide +kernel
theorem d_R_parts_5 : decode b_R_parts 5 = .ok (.bipush 20, 2) := by decide +kernel
theorem d_R_parts_7 : decode b_R_parts 7 = .ok (.if_icmp .ge 40, 3) := by decide +kernel
theorem d_R_parts_10 : decode b_R_parts 10 = .ok (.aload_n 0, 1) := by decide +kernel
theorem d_R_parts_11 : decode b_R_parts 11 = .ok (.getfield 7, 3) := by decide +kernel
theorem d_R_parts_14 : decode b_R_parts 14 = .ok (.iload_n 2, 1) := by decide +kernel
theorem d_R_parts_15 : decode b_R_parts 15 = .ok (.baload, 1) := by decide +kernel
theorem d_R_parts_16 : decode b_R_parts 16 = .ok (.ifCond .eq 23, 3) := by decide +kernel
theorem d_R_parts_19 : decode b_R_parts 19 = .ok (.aload_n 0, 1) := by decide +kernel
theorem d_R_parts_20 : decode b_R_parts 20 = .ok (.iload_n 2, 1) := by decide +kernel
theorem d_R_parts_21 : decode b_R_parts 21 = .ok (.invokevirtual 75, 3) := by decide +kernel
theorem d_R_parts_24 : decode b_R_parts 24 = .ok (.iconst 1, 1) := by decide +kernel
theorem d_R_parts_25 : decode b_R_parts 25 = .ok (.iload_n 2, 1) := by decide +kernel
theorem d_R_parts_26 : decode b_R_parts 26 = .ok (.ishl, 1) := by decide +kernel
theorem d_R_parts_27 : decode b_R_parts 27 = .ok (.iconst 1, 1) := by decide +kernel
theorem d_R_parts_28 : decode b_R_parts 28 = .ok (.isub, 1) := by decide +kernel
theorem d_R_parts_29 : decode b_R_parts 29 = .ok (.iand, 1) := by decide +kernel
theorem d_R_parts_30 : decode b_R_parts 30 = .ok (.ifCond .ne 9, 3) := by decide +kernel
theorem d_R_parts_33 : decode b_R_parts 33 = .ok (.iload_n 1, 1) := by decide +kernel
theorem d_R_parts_34 : decode b_R_parts 34 = .ok (.iconst 1, 1) := by decide +kernel
theorem d_R_parts_35 : decode b_R_parts 35 = .ok (.iadd, 1) := by decide +kernel
theorem d_R_parts_36 : decode b_R_parts 36 = .ok (.goto 4, 3) := by decide +kernel
theorem d_R_parts_39 : decode b_R_parts 39 = .ok (.iload_n 1, 1) := by decide +kernel
theorem d_R_parts_40 : decode b_R_parts 40 = .ok (.istore_n 1, 1) := by decide +kernel
theorem d_R_parts_41 : decode b_R_parts 41 = .ok (.iinc 2 1, 3) := by decide +kernel
theorem d_R_parts_44 : decode b_R_parts 44 = .ok (.goto (-40), 3) := by decide +kernel
theorem d_R_parts_47 : decode b_R_parts 47 = .ok (.iload_n 1, 1) := by decide +kernel
theorem d_R_parts_48 : decode b_R_parts 48 = .ok (.ireturn, 1) := by decide +kernel
theorem d_R_isUpright_0 : decode b_R_isUpright 0 = .ok (.aload_n 0, 1) := by decide +kernel
theorem d_R_isUpright_1 : decode b_R_isUpright 1 = .ok (.getfield 13, 3) := by decide +kernel
theorem d_R_isUpright_4 : decode b_R_isUpright 4 = .ok (.iload_n 1, 1) := by decide +kernel
theorem d_R_isUpright_5 : decode b_R_isUpright 5 = .ok (.iaload, 1) := by decide +kernel
theorem d_R_isUpright_6 : decode b_R_isUpright 6 = .ok (.aload_n 0, 1) := by decide +kernel
theorem d_R_isUpright_7 : decode b_R_isUpright 7 = .ok (.getfield 20, 3) := by decide +kernel
theorem d_R_isUpright_10 : decode b_R_isUpright 10 = .ok (.iload_n 1, 1) := by decide +kernel
theorem d_R_isUpright_11 : decode b_R_isUpright 11 = .ok (.iaload, 1) := by decide +kernel
theorem d_R_isUpright_12 : decode b_R_isUpright 12 = .ok (.if_icmp .ne 7, 3) := by decide +kernel
theorem d_R_isUpright_15 : decode b_R_isUpright 15 = .ok (.iconst 1, 1) := by decide +kernel
theorem d_R_isUpright_16 : decode b_R_isUpright 16 = .ok (.goto 4, 3) := by decide +kernel
theorem d_R_isUpright_19 : decode b_R_isUpright 19 = .ok (.iconst 0, 1) := by decide +kernel
theorem d_R_isUpright_20 : decode b_R_isUpright 20 = .ok (.ireturn, 1) := by decide +kernel
theorem d_R_rise_0 : decode b_R_rise 0 = .ok (.aload_n 0, 1) := by decide +kernel
theorem d_R_rise_1 : decode b_R_rise 1 = .ok (.getfield 17, 3) := by decide +kernel
theorem d_R_rise_4 : decode b_R_rise 4 = .ok (.iload_n 1, 1) := by decide +kernel
theorem d_R_rise_5 : decode b_R_rise 5 = .ok (.iaload, 1) := by decide +kernel
theorem d_R_rise_6 : decode b_R_rise 6 = .ok (.aload_n 0, 1) := by decide +kernel
theorem d_R_rise_7 : decode b_R_rise 7 = .ok (.getfield 20, 3) := by decide +kernel
theorem d_R_rise_10 : decode b_R_rise 10 = .ok (.iload_n 1, 1) := by decide +kernel
theorem d_R_rise_11 : decode b_R_rise 11 = .ok (.iaload, 1) := by decide +kernel
theorem d_R_rise_12 : decode b_R_rise 12 = .ok (.aload_n 0, 1) := by decide +kernel
theorem d_R_rise_13 : decode b_R_rise 13 = .ok (.getfield 13, 3) := by decide +kernel
theorem d_R_rise_16 : decode b_R_rise 16 = .ok (.iload_n 1, 1) := by decide +kernel
theorem d_R_rise_17 : decode b_R_rise 17 = .ok (.iaload, 1) := by decide +kernel
theorem d_R_rise_18 : decode b_R_rise 18 = .ok (.isub, 1) := by decide +kernel
theorem d_R_rise_19 : decode b_R_rise 19 = .ok (.imul, 1) := by decide +kernel
theorem d_R_rise_20 : decode b_R_rise 20 = .ok (.aload_n 0, 1) := by decide +kernel
theorem d_R_rise_21 : decode b_R_rise 21 = .ok (.getfield 23, 3) := by decide +kernel
theorem d_R_rise_24 : decode b_R_rise 24 = .ok (.iload_n 1, 1) := by decide +kernel
theorem d_R_rise_25 : decode b_R_rise 25 = .ok (.iaload, 1) := by decide +kernel
theorem d_R_rise_26 : decode b_R_rise 26 = .ok (.aload_n 0, 1) := by decide +kernel
theorem d_R_rise_27 : decode b_R_rise 27 = .ok (.getfield 17, 3) := by decide +kernel
theorem d_R_rise_30 : decode b_R_rise 30 = .ok (.iload_n 1, 1) := by decide +kernel
theorem d_R_rise_31 : decode b_R_rise 31 = .ok (.iaload, 1) := by decide +kernel
theorem d_R_rise_32 : decode b_R_rise 32 = .ok (.isub, 1) := by decide +kernel
theorem d_R_rise_33 : decode b_R_rise 33 = .ok (.iload_n 2, 1) := by decide +kernel
theorem d_R_rise_34 : decode b_R_rise 34 = .ok (.aload_n 0, 1) := by decide +kernel
theorem d_R_rise_35 : decode b_R_rise 35 = .ok (.getfield 13, 3) := by decide +kernel
theorem d_R_rise_38 : decode b_R_rise 38 = .ok (.iload_n 1, 1) := by decide +kernel
theorem d_R_rise_39 : decode b_R_rise 39 = .ok (.iaload, 1) := by decide +kernel
theorem d_R_rise_40 : decode b_R_rise 40 = .ok (.isub, 1) := by decide +kernel
theorem d_R_rise_41 : decode b_R_rise 41 = .ok (.imul, 1) := by decide +kernel
theorem d_R_rise_42 : decode b_R_rise 42 = .ok (.iadd, 1) := by decide +kernel
theorem d_R_rise_43 : decode b_R_rise 43 = .ok (.ireturn, 1) := by decide +kernel
theorem d_R_width_0 : decode b_R_width 0 = .ok (.aload_n 0, 1) := by decide +kernel
theorem d_R_width_1 : decode b_R_width 1 = .ok (.getfield 20, 3) := by decide +kernel
theorem d_R_width_4 : decode b_R_width 4 = .ok (.iload_n 1, 1) := by decide +kernel
theorem d_R_width_5 : decode b_R_width 5 = .ok (.iaload, 1) := by decide +kernel
theorem d_R_width_6 : decode b_R_width 6 = .ok (.aload_n 0, 1) := by decide +kernel
theorem d_R_width_7 : decode b_R_width 7 = .ok (.getfield 13, 3) := by decide +kernel
theorem d_R_width_10 : decode b_R_width 10 = .ok (.iload_n 1, 1) := by decide +kernel
theorem d_R_width_11 : decode b_R_width 11 = .ok (.iaload, 1) := by decide +kernel
theorem d_R_width_12 : decode b_R_width 12 = .ok (.isub, 1) := by decide +kernel
theorem d_R_width_13 : decode b_R_width 13 = .ok (.ireturn, 1) := by decide +kernel
theorem d_R_floorRise_0 : decode b_R_floorRise 0 = .ok (.iload_n 2, 1) := by decide +kernel
theorem d_R_floorRise_1 : decode b_R_floorRise 1 = .ok (.ifCond .ne 8, 3) := by decide +kernel
theorem d_R_floorRise_4 : decode b_R_floorRise 4 = .ok (.ldc 78, 2) := by decide +kernel
theorem d_R_floorRise_6 : decode b_R_floorRise 6 = .ok (.goto 21, 3) := by decide +kernel
theorem d_R_floorRise_9 : decode b_R_floorRise 9 = .ok (.aload_n 0, 1) := by decide +kernel
theorem d_R_floorRise_10 : decode b_R_floorRise 10 = .ok (.aload_n 0, 1) := by decide +kernel
theorem d_R_floorRise_11 : decode b_R_floorRise 11 = .ok (.getfield 29, 3) := by decide +kernel
theorem d_R_floorRise_14 : decode b_R_floorRise 14 = .ok (.bipush 20, 2) := by decide +kernel
theorem d_R_floorRise_16 : decode b_R_floorRise 16 = .ok (.iload_n 1, 1) := by decide +kernel
theorem d_R_floorRise_17 : decode b_R_floorRise 17 = .ok (.imul, 1) := by decide +kernel
theorem d_R_floorRise_18 : decode b_R_floorRise 18 = .ok (.iload_n 2, 1) := by decide +kernel
theorem d_R_floorRise_19 : decode b_R_floorRise 19 = .ok (.iadd, 1) := by decide +kernel
theorem d_R_floorRise_20 : decode b_R_floorRise 20 = .ok (.iconst 1, 1) := by decide +kernel
theorem d_R_floorRise_21 : decode b_R_floorRise 21 = .ok (.isub, 1) := by decide +kernel
theorem d_R_floorRise_22 : decode b_R_floorRise 22 = .ok (.iaload, 1) := by decide +kernel
theorem d_R_floorRise_23 : decode b_R_floorRise 23 = .ok (.iload_n 3, 1) := by decide +kernel
theorem d_R_floorRise_24 : decode b_R_floorRise 24 = .ok (.invokevirtual 79, 3) := by decide +kernel
theorem d_R_floorRise_27 : decode b_R_floorRise 27 = .ok (.ireturn, 1) := by decide +kernel
theorem d_R_floorWidth_0 : decode b_R_floorWidth 0 = .ok (.iload_n 2, 1) := by decide +kernel
theorem d_R_floorWidth_1 : decode b_R_floorWidth 1 = .ok (.ifCond .ne 7, 3) := by decide +kernel
theorem d_R_floorWidth_4 : decode b_R_floorWidth 4 = .ok (.iconst 1, 1) := by decide +kernel
theorem d_R_floorWidth_5 : decode b_R_floorWidth 5 = .ok (.goto 20, 3) := by decide +kernel
theorem d_R_floorWidth_8 : decode b_R_floorWidth 8 = .ok (.aload_n 0, 1) := by decide +kernel
theorem d_R_floorWidth_9 : decode b_R_floorWidth 9 = .ok (.aload_n 0, 1) := by decide +kernel
theorem d_R_floorWidth_10 : decode b_R_floorWidth 10 = .ok (.getfield 29, 3) := by decide +kernel
theorem d_R_floorWidth_13 : decode b_R_floorWidth 13 = .ok (.bipush 20, 2) := by decide +kernel
theorem d_R_floorWidth_15 : decode b_R_floorWidth 15 = .ok (.iload_n 1, 1) := by decide +kernel
theorem d_R_floorWidth_16 : decode b_R_floorWidth 16 = .ok (.imul, 1) := by decide +kernel
theorem d_R_floorWidth_17 : decode b_R_floorWidth 17 = .ok (.iload_n 2, 1) := by decide +kernel
theorem d_R_floorWidth_18 : decode b_R_floorWidth 18 = .ok (.iadd, 1) := by decide +kernel
theorem d_R_floorWidth_19 : decode b_R_floorWidth 19 = .ok (.iconst 1, 1) := by decide +kernel
theorem d_R_floorWidth_20 : decode b_R_floorWidth 20 = .ok (.isub, 1) := by decide +kernel
theorem d_R_floorWidth_21 : decode b_R_floorWidth 21 = .ok (.iaload, 1) := by decide +kernel
theorem d_R_floorWidth_22 : decode b_R_floorWidth 22 = .ok (.invokevirtual 82, 3) := by decide +kernel
theorem d_R_floorWidth_25 : decode b_R_floorWidth 25 = .ok (.ireturn, 1) := by decide +kernel
theorem d_R_roofRise_0 : decode b_R_roofRise 0 = .ok (.iload_n 2, 1) := by decide +kernel
theorem d_R_roofRise_1 : decode b_R_roofRise 1 = .ok (.aload_n 0, 1) := by decide +kernel
theorem d_R_roofRise_2 : decode b_R_roofRise 2 = .ok (.getfield 32, 3) := by decide +kernel
theorem d_R_roofRise_5 : decode b_R_roofRise 5 = .ok (.iload_n 1, 1) := by decide +kernel
theorem d_R_roofRise_6 : decode b_R_roofRise 6 = .ok (.iaload, 1) := by decide +kernel
theorem d_R_roofRise_7 : decode b_R_roofRise 7 = .ok (.if_icmp .ne 8, 3) := by decide +kernel
theorem d_R_roofRise_10 : decode b_R_roofRise 10 = .ok (.ldc 85, 2) := by decide +kernel
theorem d_R_roofRise_12 : decode b_R_roofRise 12 = .ok (.goto 19, 3) := by decide +kernel
theorem d_R_roofRise_15 : decode b_R_roofRise 15 = .ok (.aload_n 0, 1) := by decide +kernel
theorem d_R_roofRise_16 : decode b_R_roofRise 16 = .ok (.aload_n 0, 1) := by decide +kernel
theorem d_R_roofRise_17 : decode b_R_roofRise 17 = .ok (.getfield 29, 3) := by decide +kernel
theorem d_R_roofRise_20 : decode b_R_roofRise 20 = .ok (.bipush 20, 2) := by decide +kernel
theorem d_R_roofRise_22 : decode b_R_roofRise 22 = .ok (.iload_n 1, 1) := by decide +kernel
theorem d_R_roofRise_23 : decode b_R_roofRise 23 = .ok (.imul, 1) := by decide +kernel
theorem d_R_roofRise_24 : decode b_R_roofRise 24 = .ok (.iload_n 2, 1) := by decide +kernel
theorem d_R_roofRise_25 : decode b_R_roofRise 25 = .ok (.iadd, 1) := by decide +kernel
theorem d_R_roofRise_26 : decode b_R_roofRise 26 = .ok (.iaload, 1) := by decide +kernel
theorem d_R_roofRise_27 : decode b_R_roofRise 27 = .ok (.iload_n 3, 1) := by decide +kernel
theorem d_R_roofRise_28 : decode b_R_roofRise 28 = .ok (.invokevirtual 79, 3) := by decide +kernel
theorem d_R_roofRise_31 : decode b_R_roofRise 31 = .ok (.ireturn, 1) := by decide +kernel
theorem d_R_roofWidth_0 : decode b_R_roofWidth 0 = .ok (.iload_n 2, 1) := by decide +kernel
theorem d_R_roofWidth_1 : decode b_R_roofWidth 1 = .ok (.aload_n 0, 1) := by decide +kernel
theorem d_R_roofWidth_2 : decode b_R_roofWidth 2 = .ok (.getfield 32, 3) := by decide +kernel
theorem d_R_roofWidth_5 : decode b_R_roofWidth 5 = .ok (.iload_n 1, 1) := by decide +kernel
theorem d_R_roofWidth_6 : decode b_R_roofWidth 6 = .ok (.iaload, 1) := by decide +kernel
theorem d_R_roofWidth_7 : decode b_R_roofWidth 7 = .ok (.if_icmp .ne 7, 3) := by decide +kernel
theorem d_R_roofWidth_10 : decode b_R_roofWidth 10 = .ok (.iconst 1, 1) := by decide +kernel
theorem d_R_roofWidth_11 : decode b_R_roofWidth 11 = .ok (.goto 18, 3) := by decide +kernel
theorem d_R_roofWidth_14 : decode b_R_roofWidth 14 = .ok (.aload_n 0, 1) := by decide +kernel
theorem d_R_roofWidth_15 : decode b_R_roofWidth 15 = .ok (.aload_n 0, 1) := by decide +kernel
theorem d_R_roofWidth_16 : decode b_R_roofWidth 16 = .ok (.getfield 29, 3) := by decide +kernel
theorem d_R_roofWidth_19 : decode b_R_roofWidth 19 = .ok (.bipush 20, 2) := by decide +kernel
theorem d_R_roofWidth_21 : decode b_R_roofWidth 21 = .ok (.iload_n 1, 1) := by decide +kernel
theorem d_R_roofWidth_22 : decode b_R_roofWidth 22 = .ok (.imul, 1) := by decide +kernel
theorem d_R_roofWidth_23 : decode b_R_roofWidth 23 = .ok (.iload_n 2, 1) := by decide +kernel
theorem d_R_roofWidth_24 : decode b_R_roofWidth 24 = .ok (.iadd, 1) := by decide +kernel
theorem d_R_roofWidth_25 : decode b_R_roofWidth 25 = .ok (.iaload, 1) := by decide +kernel
theorem d_R_roofWidth_26 : decode b_R_roofWidth 26 = .ok (.invokevirtual 82, 3) := by decide +kernel
theorem d_R_roofWidth_29 : decode b_R_roofWidth 29 = .ok (.ireturn, 1) := by decide +kernel
theorem d_R_less_0 : decode b_R_less 0 = .ok (.iload_n 0, 1) := by decide +kernel
theorem d_R_less_1 : decode b_R_less 1 = .ok (.iload_n 3, 1) := by decide +kernel
theorem d_R_less_2 : decode b_R_less 2 = .ok (.imul, 1) := by decide +kernel
theorem d_R_less_3 : decode b_R_less 3 = .ok (.iload_n 2, 1) := by decide +kernel
theorem d_R_less_4 : decode b_R_less 4 = .ok (.iload_n 1, 1) := by decide +kernel
theorem d_R_less_5 : decode b_R_less 5 = .ok (.imul, 1) := by decide +kernel
theorem d_R_less_6 : decode b_R_less 6 = .ok (.if_icmp .ge 7, 3) := by decide +kernel
theorem d_R_less_9 : decode b_R_less 9 = .ok (.iconst 1, 1) := by decide +kernel
theorem d_R_less_10 : decode b_R_less 10 = .ok (.goto 4, 3) := by decide +kernel
theorem d_R_less_13 : decode b_R_less 13 = .ok (.iconst 0, 1) := by decide +kernel
theorem d_R_less_14 : decode b_R_less 14 = .ok (.ireturn, 1) := by decide +kernel
theorem d_R_addLine_0 : decode b_R_addLine 0 = .ok (.aload_n 0, 1) := by decide +kernel
theorem d_R_addLine_1 : decode b_R_addLine 1 = .ok (.getfield 86, 3) := by decide +kernel
theorem d_R_addLine_4 : decode b_R_addLine 4 = .ok (.istore_n 2, 1) := by decide +kernel
theorem d_R_addLine_5 : decode b_R_addLine 5 = .ok (.iload_n 2, 1) := by decide +kernel
theorem d_R_addLine_6 : decode b_R_addLine 6 = .ok (.ifCond .le 21, 3) := by decide +kernel
theorem d_R_addLine_9 : decode b_R_addLine 9 = .ok (.aload_n 0, 1) := by decide +kernel
theorem d_R_addLine_10 : decode b_R_addLine 10 = .ok (.getfield 26, 3) := by decide +kernel
theorem d_R_addLine_13 : decode b_R_addLine 13 = .ok (.iload_n 2, 1) := by decide +kernel
theorem d_R_addLine_14 : decode b_R_addLine 14 = .ok (.iconst 1, 1) := by decide +kernel
theorem d_R_addLine_15 : decode b_R_addLine 15 = .ok (.isub, 1) := by decide +kernel
theorem d_R_addLine_16 : decode b_R_addLine 16 = .ok (.iaload, 1) := by decide +kernel
theorem d_R_addLine_17 : decode b_R_addLine 17 = .ok (.iload_n 1, 1) := by decide +kernel
theorem d_R_addLine_18 : decode b_R_addLine 18 = .ok (.if_icmp .le 9, 3) := by decide +kernel
theorem d_R_addLine_21 : decode b_R_addLine 21 = .ok (.iinc 2 (-1), 3) := by decide +kernel
theorem d_R_addLine_24 : decode b_R_addLine 24 = .ok (.goto (-19), 3) := by decide +kernel
theorem d_R_addLine_27 : decode b_R_addLine 27 = .ok (.iload_n 2, 1) := by decide +kernel
theorem d_R_addLine_28 : decode b_R_addLine 28 = .ok (.ifCond .eq 15, 3) := by decide +kernel
theorem d_R_addLine_31 : decode b_R_addLine 31 = .ok (.aload_n 0, 1) := by decide +kernel
theorem d_R_addLine_32 : decode b_R_addLine 32 = .ok (.getfield 26, 3) := by decide +kernel
theorem d_R_addLine_35 : decode b_R_addLine 35 = .ok (.iload_n 2, 1) := by decide +kernel
theorem d_R_addLine_36 : decode b_R_addLine 36 = .ok (.iconst 1, 1) := by decide +kernel
theorem d_R_addLine_37 : decode b_R_addLine 37 = .ok (.isub, 1) := by decide +kernel
theorem d_R_addLine_38 : decode b_R_addLine 38 = .ok (.iaload, 1) := by decide +kernel
theorem d_R_addLine_39 : decode b_R_addLine 39 = .ok (.iload_n 1, 1) := by decide +kernel
theorem d_R_addLine_40 : decode b_R_addLine 40 = .ok (.if_icmp .eq 50, 3) := by decide +kernel
theorem d_R_addLine_43 : decode b_R_addLine 43 = .ok (.aload_n 0, 1) := by decide +kernel
theorem d_R_addLine_44 : decode b_R_addLine 44 = .ok (.getfield 86, 3) := by decide +kernel
theorem d_R_addLine_47 : decode b_R_addLine 47 = .ok (.istore_n 3, 1) := by decide +kernel
theorem d_R_addLine_48 : decode b_R_addLine 48 = .ok (.iload_n 3, 1) := by decide +kernel
theorem d_R_addLine_49 : decode b_R_addLine 49 = .ok (.iload_n 2, 1) := by decide +kernel
theorem d_R_addLine_50 : decode b_R_addLine 50 = .ok (.if_icmp .le 23, 3) := by decide +kernel
theorem d_R_addLine_53 : decode b_R_addLine 53 = .ok (.aload_n 0, 1) := by decide +kernel
theorem d_R_addLine_54 : decode b_R_addLine 54 = .ok (.getfield 26, 3) := by decide +kernel
theorem d_R_addLine_57 : decode b_R_addLine 57 = .ok (.iload_n 3, 1) := by decide +kernel
theorem d_R_addLine_58 : decode b_R_addLine 58 = .ok (.aload_n 0, 1) := by decide +kernel
theorem d_R_addLine_59 : decode b_R_addLine 59 = .ok (.getfield 26, 3) := by decide +kernel
theorem d_R_addLine_62 : decode b_R_addLine 62 = .ok (.iload_n 3, 1) := by decide +kernel
theorem d_R_addLine_63 : decode b_R_addLine 63 = .ok (.iconst 1, 1) := by decide +kernel
theorem d_R_addLine_64 : decode b_R_addLine 64 = .ok (.isub, 1) := by decide +kernel
theorem d_R_addLine_65 : decode b_R_addLine 65 = .ok (.iaload, 1) := by decide +kernel
theorem d_R_addLine_66 : decode b_R_addLine 66 = .ok (.iastore, 1) := by decide +kernel
theorem d_R_addLine_67 : decode b_R_addLine 67 = .ok (.iinc 3 (-1), 3) := by decide +kernel
theorem d_R_addLine_70 : decode b_R_addLine 70 = .ok (.goto (-22), 3) := by decide +kernel
theorem d_R_addLine_73 : decode b_R_addLine 73 = .ok (.aload_n 0, 1) := by decide +kernel
theorem d_R_addLine_74 : decode b_R_addLine 74 = .ok (.getfield 26, 3) := by decide +kernel
theorem d_R_addLine_77 : decode b_R_addLine 77 = .ok (.iload_n 2, 1) := by decide +kernel
theorem d_R_addLine_78 : decode b_R_addLine 78 = .ok (.iload_n 1, 1) := by decide +kernel
theorem d_R_addLine_79 : decode b_R_addLine 79 = .ok (.iastore, 1) := by decide +kernel
theorem d_R_addLine_80 : decode b_R_addLine 80 = .ok (.aload_n 0, 1) := by decide +kernel
theorem d_R_addLine_81 : decode b_R_addLine 81 = .ok (.dup, 1) := by decide +kernel
theorem d_R_addLine_82 : decode b_R_addLine 82 = .ok (.getfield 86, 3) := by decide +kernel
theorem d_R_addLine_85 : decode b_R_addLine 85 = .ok (.iconst 1, 1) := by decide +kernel
theorem d_R_addLine_86 : decode b_R_addLine 86 = .ok (.iadd, 1) := by decide +kernel
theorem d_R_addLine_87 : decode b_R_addLine 87 = .ok (.putfield 86, 3) := by decide +kernel
theorem d_R_addLine_90 : decode b_R_addLine 90 = .ok (.return_, 1) := by decide +kernel
theorem d_R_below_0 : decode b_R_below 0 = .ok (.iconst 2, 1) := by decide +kernel
theorem d_R_below_1 : decode b_R_below 1 = .ok (.aload_n 0, 1) := by decide +kernel
theorem d_R_below_2 : decode b_R_below 2 = .ok (.getfield 17, 3) := by decide +kernel
theorem d_R_below_5 : decode b_R_below 5 = .ok (.iload_n 1, 1) := by decide +kernel
theorem d_R_below_6 : decode b_R_below 6 = .ok (.iaload, 1) := by decide +kernel
theorem d_R_below_7 : decode b_R_below 7 = .ok (.imul, 1) := by decide +kernel
theorem d_R_below_8 : decode b_R_below 8 = .ok (.aload_n 0, 1) := by decide +kernel
theorem d_R_below_9 : decode b_R_below 9 = .ok (.iload_n 1, 1) := by decide +kernel
theorem d_R_below_10 : decode b_R_below 10 = .ok (.invokevirtual 82, 3) := by decide +kernel
theorem d_R_below_13 : decode b_R_below 13 = .ok (.imul, 1) := by decide +kernel
theorem d_R_below_14 : decode b_R_below 14 = .ok (.aload_n 0, 1) := by decide +kernel
theorem d_R_below_15 : decode b_R_below 15 = .ok (.getfield 23, 3) := by decide +kernel
theorem d_R_below_18 : decode b_R_below 18 = .ok (.iload_n 1, 1) := by decide +kernel
theorem d_R_below_19 : decode b_R_below 19 = .ok (.iaload, 1) := by decide +kernel
theorem d_R_below_20 : decode b_R_below 20 = .ok (.aload_n 0, 1) := by decide +kernel
theorem d_R_below_21 : decode b_R_below 21 = .ok (.getfield 17, 3) := by decide +kernel
theorem d_R_below_24 : decode b_R_below 24 = .ok (.iload_n 1, 1) := by decide +kernel
theorem d_R_below_25 : decode b_R_below 25 = .ok (.iaload, 1) := by decide +kernel
theorem d_R_below_26 : decode b_R_below 26 = .ok (.isub, 1) := by decide +kernel
theorem d_R_below_27 : decode b_R_below 27 = .ok (.iload_n 3, 1) := by decide +kernel
theorem d_R_below_28 : decode b_R_below 28 = .ok (.iconst 2, 1) := by decide +kernel
theorem d_R_below_29 : decode b_R_below 29 = .ok (.aload_n 0, 1) := by decide +kernel
theorem d_R_below_30 : decode b_R_below 30 = .ok (.getfield 13, 3) := by decide +kernel
theorem d_R_below_33 : decode b_R_below 33 = .ok (.iload_n 1, 1) := by decide +kernel
theorem d_R_below_34 : decode b_R_below 34 = .ok (.iaload, 1) := by decide +kernel
theorem d_R_below_35 : decode b_R_below 35 = .ok (.imul, 1) := by decide +kernel
theorem d_R_below_36 : decode b_R_below 36 = .ok (.isub, 1) := by decide +kernel
theorem d_R_below_37 : decode b_R_below 37 = .ok (.imul, 1) := by decide +kernel
theorem d_R_below_38 : decode b_R_below 38 = .ok (.iadd, 1) := by decide +kernel
theorem d_R_below_39 : decode b_R_below 39 = .ok (.istore 4, 2) := by decide +kernel
theorem d_R_below_41 : decode b_R_below 41 = .ok (.iconst 2, 1) := by decide +kernel
theorem d_R_below_42 : decode b_R_below 42 = .ok (.aload_n 0, 1) := by decide +kernel
theorem d_R_below_43 : decode b_R_below 43 = .ok (.getfield 17, 3) := by decide +kernel
theorem d_R_below_46 : decode b_R_below 46 = .ok (.iload_n 2, 1) := by decide +kernel
theorem d_R_below_47 : decode b_R_below 47 = .ok (.iaload, 1) := by decide +kernel
theorem d_R_below_48 : decode b_R_below 48 = .ok (.imul, 1) := by decide +kernel
theorem d_R_below_49 : decode b_R_below 49 = .ok (.aload_n 0, 1) := by decide +kernel
theorem d_R_below_50 : decode b_R_below 50 = .ok (.iload_n 2, 1) := by decide +kernel
theorem d_R_below_51 : decode b_R_below 51 = .ok (.invokevirtual 82, 3) := by decide +kernel
theorem d_R_below_54 : decode b_R_below 54 = .ok (.imul, 1) := by decide +kernel
theorem d_R_below_55 : decode b_R_below 55 = .ok (.aload_n 0, 1) := by decide +kernel
theorem d_R_below_56 : decode b_R_below 56 = .ok (.getfield 23, 3) := by decide +kernel
theorem d_R_below_59 : decode b_R_below 59 = .ok (.iload_n 2, 1) := by decide +kernel
theorem d_R_below_60 : decode b_R_below 60 = .ok (.iaload, 1) := by decide +kernel
theorem d_R_below_61 : decode b_R_below 61 = .ok (.aload_n 0, 1) := by decide +kernel
theorem d_R_below_62 : decode b_R_below 62 = .ok (.getfield 17, 3) := by decide +kernel
theorem d_R_below_65 : decode b_R_below 65 = .ok (.iload_n 2, 1) := by decide +kernel
theorem d_R_below_66 : decode b_R_below 66 = .ok (.iaload, 1) := by decide +kernel
theorem d_R_below_67 : decode b_R_below 67 = .ok (.isub, 1) := by decide +kernel
theorem d_R_below_68 : decode b_R_below 68 = .ok (.iload_n 3, 1) := by decide +kernel
theorem d_R_below_69 : decode b_R_below 69 = .ok (.iconst 2, 1) := by decide +kernel
theorem d_R_below_70 : decode b_R_below 70 = .ok (.aload_n 0, 1) := by decide +kernel
theorem d_R_below_71 : decode b_R_below 71 = .ok (.getfield 13, 3) := by decide +kernel
theorem d_R_below_74 : decode b_R_below 74 = .ok (.iload_n 2, 1) := by decide +kernel
theorem d_R_below_75 : decode b_R_below 75 = .ok (.iaload, 1) := by decide +kernel
theorem d_R_below_76 : decode b_R_below 76 = .ok (.imul, 1) := by decide +kernel
theorem d_R_below_77 : decode b_R_below 77 = .ok (.isub, 1) := by decide +kernel
theorem d_R_below_78 : decode b_R_below 78 = .ok (.imul, 1) := by decide +kernel
theorem d_R_below_79 : decode b_R_below 79 = .ok (.iadd, 1) := by decide +kernel
theorem d_R_below_80 : decode b_R_below 80 = .ok (.istore 5, 2) := by decide +kernel
theorem d_R_below_82 : decode b_R_below 82 = .ok (.iload 4, 2) := by decide +kernel
theorem d_R_below_84 : decode b_R_below 84 = .ok (.aload_n 0, 1) := by decide +kernel
theorem d_R_below_85 : decode b_R_below 85 = .ok (.iload_n 1, 1) := by decide +kernel
theorem d_R_below_86 : decode b_R_below 86 = .ok (.invokevirtual 82, 3) := by decide +kernel
theorem d_R_below_89 : decode b_R_below 89 = .ok (.iload 5, 2) := by decide +kernel
theorem d_R_below_91 : decode b_R_below 91 = .ok (.aload_n 0, 1) := by decide +kernel
