theorem d_G_init_0 : decode b_G_init 0 = .ok (.aload_n 0, 1) := by decide +kernel
theorem d_G_init_1 : decode b_G_init 1 = .ok (.invokespecial 1, 3) := by decide +kernel
theorem d_G_init_4 : decode b_G_init 4 = .ok (.aload_n 0, 1) := by decide +kernel
theorem d_G_init_5 : decode b_G_init 5 = .ok (.iload_n 1, 1) := by decide +kernel
theorem d_G_init_6 : decode b_G_init 6 = .ok (.newarray .int, 2) := by decide +kernel
theorem d_G_init_8 : decode b_G_init 8 = .ok (.putfield 7, 3) := by decide +kernel
theorem d_G_init_11 : decode b_G_init 11 = .ok (.aload_n 0, 1) := by decide +kernel
theorem d_G_init_12 : decode b_G_init 12 = .ok (.invokevirtual 13, 3) := by decide +kernel
theorem d_G_init_15 : decode b_G_init 15 = .ok (.return_, 1) := by decide +kernel
theorem d_G_scatter_0 : decode b_G_scatter 0 = .ok (.iconst 0, 1) := by decide +kernel
theorem d_G_scatter_1 : decode b_G_scatter 1 = .ok (.istore_n 1, 1) := by decide +kernel
theorem d_G_scatter_2 : decode b_G_scatter 2 = .ok (.iload_n 1, 1) := by decide +kernel
theorem d_G_scatter_3 : decode b_G_scatter 3 = .ok (.aload_n 0, 1) := by decide +kernel
theorem d_G_scatter_4 : decode b_G_scatter 4 = .ok (.getfield 7, 3) := by decide +kernel
theorem d_G_scatter_7 : decode b_G_scatter 7 = .ok (.arraylength, 1) := by decide +kernel
theorem d_G_scatter_8 : decode b_G_scatter 8 = .ok (.if_icmp .ge 16, 3) := by decide +kernel
theorem d_G_scatter_11 : decode b_G_scatter 11 = .ok (.aload_n 0, 1) := by decide +kernel
theorem d_G_scatter_12 : decode b_G_scatter 12 = .ok (.getfield 7, 3) := by decide +kernel
theorem d_G_scatter_15 : decode b_G_scatter 15 = .ok (.iload_n 1, 1) := by decide +kernel
theorem d_G_scatter_16 : decode b_G_scatter 16 = .ok (.iload_n 1, 1) := by decide +kernel
theorem d_G_scatter_17 : decode b_G_scatter 17 = .ok (.iastore, 1) := by decide +kernel
theorem d_G_scatter_18 : decode b_G_scatter 18 = .ok (.iinc 1 1, 3) := by decide +kernel
theorem d_G_scatter_21 : decode b_G_scatter 21 = .ok (.goto (-19), 3) := by decide +kernel
theorem d_G_scatter_24 : decode b_G_scatter 24 = .ok (.return_, 1) := by decide +kernel
theorem d_G_join_0 : decode b_G_join 0 = .ok (.aload_n 0, 1) := by decide +kernel
theorem d_G_join_1 : decode b_G_join 1 = .ok (.getfield 7, 3) := by decide +kernel
theorem d_G_join_4 : decode b_G_join 4 = .ok (.iload_n 1, 1) := by decide +kernel
theorem d_G_join_5 : decode b_G_join 5 = .ok (.iaload, 1) := by decide +kernel
theorem d_G_join_6 : decode b_G_join 6 = .ok (.istore_n 3, 1) := by decide +kernel
theorem d_G_join_7 : decode b_G_join 7 = .ok (.aload_n 0, 1) := by decide +kernel
theorem d_G_join_8 : decode b_G_join 8 = .ok (.getfield 7, 3) := by decide +kernel
theorem d_G_join_11 : decode b_G_join 11 = .ok (.iload_n 2, 1) := by decide +kernel
theorem d_G_join_12 : decode b_G_join 12 = .ok (.iaload, 1) := by decide +kernel
theorem d_G_join_13 : decode b_G_join 13 = .ok (.istore 4, 2) := by decide +kernel
theorem d_G_join_15 : decode b_G_join 15 = .ok (.iload_n 3, 1) := by decide +kernel
theorem d_G_join_16 : decode b_G_join 16 = .ok (.iload 4, 2) := by decide +kernel
theorem d_G_join_18 : decode b_G_join 18 = .ok (.if_icmp .ne 4, 3) := by decide +kernel
theorem d_G_join_21 : decode b_G_join 21 = .ok (.return_, 1) := by decide +kernel
theorem d_G_join_22 : decode b_G_join 22 = .ok (.iconst 0, 1) := by decide +kernel
theorem d_G_join_23 : decode b_G_join 23 = .ok (.istore 5, 2) := by decide +kernel
theorem d_G_join_25 : decode b_G_join 25 = .ok (.iload 5, 2) := by decide +kernel
theorem d_G_join_27 : decode b_G_join 27 = .ok (.aload_n 0, 1) := by decide +kernel
theorem d_G_join_28 : decode b_G_join 28 = .ok (.getfield 7, 3) := by decide +kernel
theorem d_G_join_31 : decode b_G_join 31 = .ok (.arraylength, 1) := by decide +kernel
theorem d_G_join_32 : decode b_G_join 32 = .ok (.if_icmp .ge 29, 3) := by decide +kernel
theorem d_G_join_35 : decode b_G_join 35 = .ok (.aload_n 0, 1) := by decide +kernel
theorem d_G_join_36 : decode b_G_join 36 = .ok (.getfield 7, 3) := by decide +kernel
theorem d_G_join_39 : decode b_G_join 39 = .ok (.iload 5, 2) := by decide +kernel
theorem d_G_join_41 : decode b_G_join 41 = .ok (.iaload, 1) := by decide +kernel
theorem d_G_join_42 : decode b_G_join 42 = .ok (.iload_n 3, 1) := by decide +kernel
theorem d_G_join_43 : decode b_G_join 43 = .ok (.if_icmp .ne 12, 3) := by decide +kernel
theorem d_G_join_46 : decode b_G_join 46 = .ok (.aload_n 0, 1) := by decide +kernel
theorem d_G_join_47 : decode b_G_join 47 = .ok (.getfield 7, 3) := by decide +kernel
theorem d_G_join_50 : decode b_G_join 50 = .ok (.iload 5, 2) := by decide +kernel
theorem d_G_join_52 : decode b_G_join 52 = .ok (.iload 4, 2) := by decide +kernel
theorem d_G_join_54 : decode b_G_join 54 = .ok (.iastore, 1) := by decide +kernel
theorem d_G_join_55 : decode b_G_join 55 = .ok (.iinc 5 1, 3) := by decide +kernel
theorem d_G_join_58 : decode b_G_join 58 = .ok (.goto (-33), 3) := by decide +kernel
theorem d_G_join_61 : decode b_G_join 61 = .ok (.return_, 1) := by decide +kernel
theorem d_G_together_0 : decode b_G_together 0 = .ok (.aload_n 0, 1) := by decide +kernel
theorem d_G_together_1 : decode b_G_together 1 = .ok (.getfield 7, 3) := by decide +kernel
theorem d_G_together_4 : decode b_G_together 4 = .ok (.iload_n 1, 1) := by decide +kernel
theorem d_G_together_5 : decode b_G_together 5 = .ok (.iaload, 1) := by decide +kernel
theorem d_G_together_6 : decode b_G_together 6 = .ok (.aload_n 0, 1) := by decide +kernel
theorem d_G_together_7 : decode b_G_together 7 = .ok (.getfield 7, 3) := by decide +kernel
theorem d_G_together_10 : decode b_G_together 10 = .ok (.iload_n 2, 1) := by decide +kernel
theorem d_G_together_11 : decode b_G_together 11 = .ok (.iaload, 1) := by decide +kernel
theorem d_G_together_12 : decode b_G_together 12 = .ok (.if_icmp .ne 7, 3) := by decide +kernel
theorem d_G_together_15 : decode b_G_together 15 = .ok (.iconst 1, 1) := by decide +kernel
theorem d_G_together_16 : decode b_G_together 16 = .ok (.goto 4, 3) := by decide +kernel
theorem d_G_together_19 : decode b_G_together 19 = .ok (.iconst 0, 1) := by decide +kernel
theorem d_G_together_20 : decode b_G_together 20 = .ok (.ireturn, 1) := by decide +kernel
theorem d_G_isLeader_0 : decode b_G_isLeader 0 = .ok (.aload_n 0, 1) := by decide +kernel
theorem d_G_isLeader_1 : decode b_G_isLeader 1 = .ok (.getfield 7, 3) := by decide +kernel
theorem d_G_isLeader_4 : decode b_G_isLeader 4 = .ok (.iload_n 1, 1) := by decide +kernel
theorem d_G_isLeader_5 : decode b_G_isLeader 5 = .ok (.iaload, 1) := by decide +kernel
theorem d_G_isLeader_6 : decode b_G_isLeader 6 = .ok (.iload_n 1, 1) := by decide +kernel
theorem d_G_isLeader_7 : decode b_G_isLeader 7 = .ok (.if_icmp .ne 7, 3) := by decide +kernel
theorem d_G_isLeader_10 : decode b_G_isLeader 10 = .ok (.iconst 1, 1) := by decide +kernel
theorem d_G_isLeader_11 : decode b_G_isLeader 11 = .ok (.goto 4, 3) := by decide +kernel
theorem d_G_isLeader_14 : decode b_G_isLeader 14 = .ok (.iconst 0, 1) := by decide +kernel
theorem d_G_isLeader_15 : decode b_G_isLeader 15 = .ok (.ireturn, 1) := by decide +kernel
theorem d_M_init_0 : decode b_M_init 0 = .ok (.aload_n 0, 1) := by decide +kernel
theorem d_M_init_1 : decode b_M_init 1 = .ok (.invokespecial 3, 3) := by decide +kernel
theorem d_M_init_4 : decode b_M_init 4 = .ok (.aload_n 0, 1) := by decide +kernel
theorem d_M_init_5 : decode b_M_init 5 = .ok (.bipush 20, 2) := by decide +kernel
theorem d_M_init_7 : decode b_M_init 7 = .ok (.newarray .boolean, 2) := by decide +kernel
theorem d_M_init_9 : decode b_M_init 9 = .ok (.putfield 9, 3) := by decide +kernel
theorem d_M_init_12 : decode b_M_init 12 = .ok (.aload_n 0, 1) := by decide +kernel
theorem d_M_init_13 : decode b_M_init 13 = .ok (.bipush 40, 2) := by decide +kernel
theorem d_M_init_15 : decode b_M_init 15 = .ok (.newarray .int, 2) := by decide +kernel
theorem d_M_init_17 : decode b_M_init 17 = .ok (.putfield 15, 3) := by decide +kernel
theorem d_M_init_20 : decode b_M_init 20 = .ok (.aload_n 0, 1) := by decide +kernel
theorem d_M_init_21 : decode b_M_init 21 = .ok (.bipush 40, 2) := by decide +kernel
theorem d_M_init_23 : decode b_M_init 23 = .ok (.newarray .int, 2) := by decide +kernel
theorem d_M_init_25 : decode b_M_init 25 = .ok (.putfield 19, 3) := by decide +kernel
theorem d_M_init_28 : decode b_M_init 28 = .ok (.return_, 1) := by decide +kernel
theorem d_M_has_0 : decode b_M_has 0 = .ok (.iload_n 1, 1) := by decide +kernel
theorem d_M_has_1 : decode b_M_has 1 = .ok (.ifCond .lt 22, 3) := by decide +kernel
theorem d_M_has_4 : decode b_M_has 4 = .ok (.iload_n 1, 1) := by decide +kernel
theorem d_M_has_5 : decode b_M_has 5 = .ok (.bipush 20, 2) := by decide +kernel
theorem d_M_has_7 : decode b_M_has 7 = .ok (.if_icmp .ge 16, 3) := by decide +kernel
theorem d_M_has_10 : decode b_M_has 10 = .ok (.aload_n 0, 1) := by decide +kernel
theorem d_M_has_11 : decode b_M_has 11 = .ok (.getfield 9, 3) := by decide +kernel
theorem d_M_has_14 : decode b_M_has 14 = .ok (.iload_n 1, 1) := by decide +kernel
theorem d_M_has_15 : decode b_M_has 15 = .ok (.baload, 1) := by decide +kernel
theorem d_M_has_16 : decode b_M_has 16 = .ok (.ifCond .eq 7, 3) := by decide +kernel
theorem d_M_has_19 : decode b_M_has 19 = .ok (.iconst 1, 1) := by decide +kernel
theorem d_M_has_20 : decode b_M_has 20 = .ok (.goto 4, 3) := by decide +kernel
theorem d_M_has_23 : decode b_M_has 23 = .ok (.iconst 0, 1) := by decide +kernel
theorem d_M_has_24 : decode b_M_has 24 = .ok (.ireturn, 1) := by decide +kernel
theorem d_M_hasArrow_0 : decode b_M_hasArrow 0 = .ok (.aload_n 0, 1) := by decide +kernel
theorem d_M_hasArrow_1 : decode b_M_hasArrow 1 = .ok (.getfield 9, 3) := by decide +kernel
theorem d_M_hasArrow_4 : decode b_M_hasArrow 4 = .ok (.iload_n 1, 1) := by decide +kernel
theorem d_M_hasArrow_5 : decode b_M_hasArrow 5 = .ok (.iconst 2, 1) := by decide +kernel
theorem d_M_hasArrow_6 : decode b_M_hasArrow 6 = .ok (.idiv, 1) := by decide +kernel
theorem d_M_hasArrow_7 : decode b_M_hasArrow 7 = .ok (.baload, 1) := by decide +kernel
theorem d_M_hasArrow_8 : decode b_M_hasArrow 8 = .ok (.ireturn, 1) := by decide +kernel
theorem d_M_tailX_0 : decode b_M_tailX 0 = .ok (.aload_n 0, 1) := by decide +kernel
theorem d_M_tailX_1 : decode b_M_tailX 1 = .ok (.getfield 15, 3) := by decide +kernel
theorem d_M_tailX_4 : decode b_M_tailX 4 = .ok (.iload_n 1, 1) := by decide +kernel
theorem d_M_tailX_5 : decode b_M_tailX 5 = .ok (.iaload, 1) := by decide +kernel
theorem d_M_tailX_6 : decode b_M_tailX 6 = .ok (.ireturn, 1) := by decide +kernel
theorem d_M_tailY_0 : decode b_M_tailY 0 = .ok (.aload_n 0, 1) := by decide +kernel
theorem d_M_tailY_1 : decode b_M_tailY 1 = .ok (.getfield 19, 3) := by decide +kernel
theorem d_M_tailY_4 : decode b_M_tailY 4 = .ok (.iload_n 1, 1) := by decide +kernel
theorem d_M_tailY_5 : decode b_M_tailY 5 = .ok (.iaload, 1) := by decide +kernel
theorem d_M_tailY_6 : decode b_M_tailY 6 = .ok (.ireturn, 1) := by decide +kernel
theorem d_M_stepX_0 : decode b_M_stepX 0 = .ok (.aload_n 0, 1) := by decide +kernel
theorem d_M_stepX_1 : decode b_M_stepX 1 = .ok (.getfield 15, 3) := by decide +kernel
theorem d_M_stepX_4 : decode b_M_stepX 4 = .ok (.iload_n 1, 1) := by decide +kernel
theorem d_M_stepX_5 : decode b_M_stepX 5 = .ok (.iconst 1, 1) := by decide +kernel
theorem d_M_stepX_6 : decode b_M_stepX 6 = .ok (.ixor, 1) := by decide +kernel
theorem d_M_stepX_7 : decode b_M_stepX 7 = .ok (.iaload, 1) := by decide +kernel
theorem d_M_stepX_8 : decode b_M_stepX 8 = .ok (.aload_n 0, 1) := by decide +kernel
theorem d_M_stepX_9 : decode b_M_stepX 9 = .ok (.getfield 15, 3) := by decide +kernel
theorem d_M_stepX_12 : decode b_M_stepX 12 = .ok (.iload_n 1, 1) := by decide +kernel
theorem d_M_stepX_13 : decode b_M_stepX 13 = .ok (.iaload, 1) := by decide +kernel
theorem d_M_stepX_14 : decode b_M_stepX 14 = .ok (.isub, 1) := by decide +kernel
theorem d_M_stepX_15 : decode b_M_stepX 15 = .ok (.ireturn, 1) := by decide +kernel
theorem d_M_stepY_0 : decode b_M_stepY 0 = .ok (.aload_n 0, 1) := by decide +kernel
theorem d_M_stepY_1 : decode b_M_stepY 1 = .ok (.getfield 19, 3) := by decide +kernel
theorem d_M_stepY_4 : decode b_M_stepY 4 = .ok (.iload_n 1, 1) := by decide +kernel
theorem d_M_stepY_5 : decode b_M_stepY 5 = .ok (.iconst 1, 1) := by decide +kernel
theorem d_M_stepY_6 : decode b_M_stepY 6 = .ok (.ixor, 1) := by decide +kernel
theorem d_M_stepY_7 : decode b_M_stepY 7 = .ok (.iaload, 1) := by decide +kernel
theorem d_M_stepY_8 : decode b_M_stepY 8 = .ok (.aload_n 0, 1) := by decide +kernel
theorem d_M_stepY_9 : decode b_M_stepY 9 = .ok (.getfield 19, 3) := by decide +kernel
theorem d_M_stepY_12 : decode b_M_stepY 12 = .ok (.iload_n 1, 1) := by decide +kernel
theorem d_M_stepY_13 : decode b_M_stepY 13 = .ok (.iaload, 1) := by decide +kernel
theorem d_M_stepY_14 : decode b_M_stepY 14 = .ok (.isub, 1) := by decide +kernel
theorem d_M_stepY_15 : decode b_M_stepY 15 = .ok (.ireturn, 1) := by decide +kernel
theorem d_M_leastUnusedNumber_0 : decode b_M_leastUnusedNumber 0 = .ok (.iconst 0, 1) := by decide +kernel
theorem d_M_leastUnusedNumber_1 : decode b_M_leastUnusedNumber 1 = .ok (.istore_n 1, 1) := by decide +kernel
theorem d_M_leastUnusedNumber_2 : decode b_M_leastUnusedNumber 2 = .ok (.iload_n 1, 1) := by decide +kernel
theorem d_M_leastUnusedNumber_3 : decode b_M_leastUnusedNumber 3 = .ok (.bipush 20, 2) := by decide +kernel
theorem d_M_leastUnusedNumber_5 : decode b_M_leastUnusedNumber 5 = .ok (.if_icmp .ge 20, 3) := by decide +kernel
theorem d_M_leastUnusedNumber_8 : decode b_M_leastUnusedNumber 8 = .ok (.aload_n 0, 1) := by decide +kernel
theorem d_M_leastUnusedNumber_9 : decode b_M_leastUnusedNumber 9 = .ok (.getfield 9, 3) := by decide +kernel
theorem d_M_leastUnusedNumber_12 : decode b_M_leastUnusedNumber 12 = .ok (.iload_n 1, 1) := by decide +kernel
theorem d_M_leastUnusedNumber_13 : decode b_M_leastUnusedNumber 13 = .ok (.baload, 1) := by decide +kernel
theorem d_M_leastUnusedNumber_14 : decode b_M_leastUnusedNumber 14 = .ok (.ifCond .ne 5, 3) := by decide +kernel
theorem d_M_leastUnusedNumber_17 : decode b_M_leastUnusedNumber 17 = .ok (.iload_n 1, 1) := by decide +kernel
theorem d_M_leastUnusedNumber_18 : decode b_M_leastUnusedNumber 18 = .ok (.ireturn, 1) := by decide +kernel
theorem d_M_leastUnusedNumber_19 : decode b_M_leastUnusedNumber 19 = .ok (.iinc 1 1, 3) := by decide +kernel
theorem d_M_leastUnusedNumber_22 : decode b_M_leastUnusedNumber 22 = .ok (.goto (-20), 3) := by decide +kernel
theorem d_M_leastUnusedNumber_25 : decode b_M_leastUnusedNumber 25 = .ok (.iconst (-1), 1) := by decide +kernel
theorem d_M_leastUnusedNumber_26 : decode b_M_leastUnusedNumber 26 = .ok (.ireturn, 1) := by decide +kernel
theorem d_M_sketch_0 : decode b_M_sketch 0 = .ok (.iload_n 2, 1) := by decide +kernel
theorem d_M_sketch_1 : decode b_M_sketch 1 = .ok (.iload 4, 2) := by decide +kernel
theorem d_M_sketch_3 : decode b_M_sketch 3 = .ok (.if_icmp .lt 15, 3) := by decide +kernel
theorem d_M_sketch_6 : decode b_M_sketch 6 = .ok (.iload_n 2, 1) := by decide +kernel
theorem d_M_sketch_7 : decode b_M_sketch 7 = .ok (.iload 4, 2) := by decide +kernel
theorem d_M_sketch_9 : decode b_M_sketch 9 = .ok (.if_icmp .ne 13, 3) := by decide +kernel
theorem d_M_sketch_12 : decode b_M_sketch 12 = .ok (.iload_n 3, 1) := by decide +kernel
theorem d_M_sketch_13 : decode b_M_sketch 13 = .ok (.iload 5, 2) := by decide +kernel
theorem d_M_sketch_15 : decode b_M_sketch 15 = .ok (.if_icmp .ge 7, 3) := by decide +kernel
theorem d_M_sketch_18 : decode b_M_sketch 18 = .ok (.iconst 1, 1) := by decide +kernel
theorem d_M_sketch_19 : decode b_M_sketch 19 = .ok (.goto 4, 3) := by decide +kernel
theorem d_M_sketch_22 : decode b_M_sketch 22 = .ok (.iconst 0, 1) := by decide +kernel
theorem d_M_sketch_23 : decode b_M_sketch 23 = .ok (.istore 6, 2) := by decide +kernel
theorem d_M_sketch_25 : decode b_M_sketch 25 = .ok (.iload 6, 2) := by decide +kernel
theorem d_M_sketch_27 : decode b_M_sketch 27 = .ok (.ifCond .eq 9, 3) := by decide +kernel
theorem d_M_sketch_30 : decode b_M_sketch 30 = .ok (.iconst 2, 1) := by decide +kernel
theorem d_M_sketch_31 : decode b_M_sketch 31 = .ok (.iload_n 1, 1) := by decide +kernel
theorem d_M_sketch_32 : decode b_M_sketch 32 = .ok (.imul, 1) := by decide +kernel
theorem d_M_sketch_33 : decode b_M_sketch 33 = .ok (.goto 8, 3) := by decide +kernel
theorem d_M_sketch_36 : decode b_M_sketch 36 = .ok (.iconst 2, 1) := by decide +kernel
theorem d_M_sketch_37 : decode b_M_sketch 37 = .ok (.iload_n 1, 1) := by decide +kernel
theorem d_M_sketch_38 : decode b_M_sketch 38 = .ok (.imul, 1) := by decide +kernel
theorem d_M_sketch_39 : decode b_M_sketch 39 = .ok (.iconst 1, 1) := by decide +kernel
theorem d_M_sketch_40 : decode b_M_sketch 40 = .ok (.iadd, 1) := by decide +kernel
theorem d_M_sketch_41 : decode b_M_sketch 41 = .ok (.istore 7, 2) := by decide +kernel
theorem d_M_sketch_43 : decode b_M_sketch 43 = .ok (.aload_n 0, 1) := by decide +kernel
theorem d_M_sketch_44 : decode b_M_sketch 44 = .ok (.getfield 15, 3) := by decide +kernel
theorem d_M_sketch_47 : decode b_M_sketch 47 = .ok (.iload 7, 2) := by decide +kernel
theorem d_M_sketch_49 : decode b_M_sketch 49 = .ok (.iload_n 2, 1) := by decide +kernel
theorem d_M_sketch_50 : decode b_M_sketch 50 = .ok (.iastore, 1) := by decide +kernel
theorem d_M_sketch_51 : decode b_M_sketch 51 = .ok (.aload_n 0, 1) := by decide +kernel
theorem d_M_sketch_52 : decode b_M_sketch 52 = .ok (.getfield 19, 3) := by decide +kernel
theorem d_M_sketch_55 : decode b_M_sketch 55 = .ok (.iload 7, 2) := by decide +kernel
theorem d_M_sketch_57 : decode b_M_sketch 57 = .ok (.iload_n 3, 1) := by decide +kernel
theorem d_M_sketch_58 : decode b_M_sketch 58 = .ok (.iastore, 1) := by decide +kernel
theorem d_M_sketch_59 : decode b_M_sketch 59 = .ok (.aload_n 0, 1) := by decide +kernel
theorem d_M_sketch_60 : decode b_M_sketch 60 = .ok (.getfield 15, 3) := by decide +kernel
theorem d_M_sketch_63 : decode b_M_sketch 63 = .ok (.iload 7, 2) := by decide +kernel
theorem d_M_sketch_65 : decode b_M_sketch 65 = .ok (.iconst 1, 1) := by decide +kernel
theorem d_M_sketch_66 : decode b_M_sketch 66 = .ok (.ixor, 1) := by decide +kernel
theorem d_M_sketch_67 : decode b_M_sketch 67 = .ok (.iload 4, 2) := by decide +kernel
theorem d_M_sketch_69 : decode b_M_sketch 69 = .ok (.iastore, 1) := by decide +kernel
theorem d_M_sketch_70 : decode b_M_sketch 70 = .ok (.aload_n 0, 1) := by decide +kernel
theorem d_M_sketch_71 : decode b_M_sketch 71 = .ok (.getfield 19, 3) := by decide +kernel
theorem d_M_sketch_74 : decode b_M_sketch 74 = .ok (.iload 7, 2) := by decide +kernel
theorem d_M_sketch_76 : decode b_M_sketch 76 = .ok (.iconst 1, 1) := by decide +kernel
theorem d_M_sketch_77 : decode b_M_sketch 77 = .ok (.ixor, 1) := by decide +kernel
theorem d_M_sketch_78 : decode b_M_sketch 78 = .ok (.iload 5, 2) := by decide +kernel
theorem d_M_sketch_80 : decode b_M_sketch 80 = .ok (.iastore, 1) := by decide +kernel
theorem d_M_sketch_81 : decode b_M_sketch 81 = .ok (.return_, 1) := by decide +kernel
theorem d_M_setUsed_0 : decode b_M_setUsed 0 = .ok (.aload_n 0, 1) := by decide +kernel
theorem d_M_setUsed_1 : decode b_M_setUsed 1 = .ok (.getfield 9, 3) := by decide +kernel
theorem d_M_setUsed_4 : decode b_M_setUsed 4 = .ok (.iload_n 1, 1) := by decide +kernel
theorem d_M_setUsed_5 : decode b_M_setUsed 5 = .ok (.iload_n 2, 1) := by decide +kernel
theorem d_M_setUsed_6 : decode b_M_setUsed 6 = .ok (.bastore, 1) := by decide +kernel
theorem d_M_setUsed_7 : decode b_M_setUsed 7 = .ok (.return_, 1) := by decide +kernel
theorem d_M_leastMeeting_0 : decode b_M_leastMeeting 0 = .ok (.iconst 0, 1) := by decide +kernel
theorem d_M_leastMeeting_1 : decode b_M_leastMeeting 1 = .ok (.istore_n 2, 1) := by decide +kernel
theorem d_M_leastMeeting_2 : decode b_M_leastMeeting 2 = .ok (.iload_n 2, 1) := by decide +kernel
theorem d_M_leastMeeting_3 : decode b_M_leastMeeting 3 = .ok (.bipush 20, 2) := by decide +kernel
theorem d_M_leastMeeting_5 : decode b_M_leastMeeting 5 = .ok (.if_icmp .ge 29, 3) := by decide +kernel
theorem d_M_leastMeeting_8 : decode b_M_leastMeeting 8 = .ok (.aload_n 0, 1) := by decide +kernel
theorem d_M_leastMeeting_9 : decode b_M_leastMeeting 9 = .ok (.getfield 9, 3) := by decide +kernel
theorem d_M_leastMeeting_12 : decode b_M_leastMeeting 12 = .ok (.iload_n 2, 1) := by decide +kernel
theorem d_M_leastMeeting_13 : decode b_M_leastMeeting 13 = .ok (.baload, 1) := by decide +kernel
theorem d_M_leastMeeting_14 : decode b_M_leastMeeting 14 = .ok (.ifCond .eq 14, 3) := by decide +kernel
theorem d_M_leastMeeting_17 : decode b_M_leastMeeting 17 = .ok (.aload_n 0, 1) := by decide +kernel
theorem d_M_leastMeeting_18 : decode b_M_leastMeeting 18 = .ok (.iload_n 2, 1) := by decide +kernel
theorem d_M_leastMeeting_19 : decode b_M_leastMeeting 19 = .ok (.iload_n 1, 1) := by decide +kernel
theorem d_M_leastMeeting_20 : decode b_M_leastMeeting 20 = .ok (.invokevirtual 22, 3) := by decide +kernel
theorem d_M_leastMeeting_23 : decode b_M_leastMeeting 23 = .ok (.ifCond .eq 5, 3) := by decide +kernel
theorem d_M_leastMeeting_26 : decode b_M_leastMeeting 26 = .ok (.iload_n 2, 1) := by decide +kernel
theorem d_M_leastMeeting_27 : decode b_M_leastMeeting 27 = .ok (.ireturn, 1) := by decide +kernel
theorem d_M_leastMeeting_28 : decode b_M_leastMeeting 28 = .ok (.iinc 2 1, 3) := by decide +kernel
theorem d_M_leastMeeting_31 : decode b_M_leastMeeting 31 = .ok (.goto (-29), 3) := by decide +kernel
theorem d_M_leastMeeting_34 : decode b_M_leastMeeting 34 = .ok (.iconst (-1), 1) := by decide +kernel
theorem d_M_leastMeeting_35 : decode b_M_leastMeeting 35 = .ok (.ireturn, 1) := by decide +kernel
theorem d_M_meet_0 : decode b_M_meet 0 = .ok (.aload_n 0, 1) := by decide +kernel
theorem d_M_meet_1 : decode b_M_meet 1 = .ok (.iload_n 1, 1) := by decide +kernel
theorem d_M_meet_2 : decode b_M_meet 2 = .ok (.iload_n 2, 1) := by decide +kernel
theorem d_M_meet_3 : decode b_M_meet 3 = .ok (.invokevirtual 26, 3) := by decide +kernel
theorem d_M_meet_6 : decode b_M_meet 6 = .ok (.ifCond .ne 39, 3) := by decide +kernel
theorem d_M_meet_9 : decode b_M_meet 9 = .ok (.aload_n 0, 1) := by decide +kernel
theorem d_M_meet_10 : decode b_M_meet 10 = .ok (.iload_n 1, 1) := by decide +kernel
theorem d_M_meet_11 : decode b_M_meet 11 = .ok (.iload_n 2, 1) := by decide +kernel
theorem d_M_meet_12 : decode b_M_meet 12 = .ok (.invokevirtual 29, 3) := by decide +kernel
theorem d_M_meet_15 : decode b_M_meet 15 = .ok (.ifCond .ne 30, 3) := by decide +kernel
theorem d_M_meet_18 : decode b_M_meet 18 = .ok (.aload_n 0, 1) := by decide +kernel
theorem d_M_meet_19 : decode b_M_meet 19 = .ok (.iload_n 2, 1) := by decide +kernel
theorem d_M_meet_20 : decode b_M_meet 20 = .ok (.iload_n 1, 1) := by decide +kernel
theorem d_M_meet_21 : decode b_M_meet 21 = .ok (.invokevirtual 29, 3) := by decide +kernel
theorem d_M_meet_24 : decode b_M_meet 24 = .ok (.ifCond .ne 21, 3) := by decide +kernel
theorem d_M_meet_27 : decode b_M_meet 27 = .ok (.aload_n 0, 1) := by decide +kernel
theorem d_M_meet_28 : decode b_M_meet 28 = .ok (.iload_n 1, 1) := by decide +kernel
theorem d_M_meet_29 : decode b_M_meet 29 = .ok (.iload_n 2, 1) := by decide +kernel
theorem d_M_meet_30 : decode b_M_meet 30 = .ok (.invokevirtual 32, 3) := by decide +kernel
theorem d_M_meet_33 : decode b_M_meet 33 = .ok (.ifCond .eq 16, 3) := by decide +kernel
theorem d_M_meet_36 : decode b_M_meet 36 = .ok (.aload_n 0, 1) := by decide +kernel
theorem d_M_meet_37 : decode b_M_meet 37 = .ok (.iload_n 2, 1) := by decide +kernel
theorem d_M_meet_38 : decode b_M_meet 38 = .ok (.iload_n 1, 1) := by decide +kernel
theorem d_M_meet_39 : decode b_M_meet 39 = .ok (.invokevirtual 32, 3) := by decide +kernel
theorem d_M_meet_42 : decode b_M_meet 42 = .ok (.ifCond .eq 7, 3) := by decide +kernel
theorem d_M_meet_45 : decode b_M_meet 45 = .ok (.iconst 1, 1) := by decide +kernel
theorem d_M_meet_46 : decode b_M_meet 46 = .ok (.goto 4, 3) := by decide +kernel
theorem d_M_meet_49 : decode b_M_meet 49 = .ok (.iconst 0, 1) := by decide +kernel
theorem d_M_meet_50 : decode b_M_meet 50 = .ok (.ireturn, 1) := by decide +kernel
theorem d_M_haveSameEnds_0 : decode b_M_haveSameEnds 0 = .ok (.aload_n 0, 1) := by decide +kernel
theorem d_M_haveSameEnds_1 : decode b_M_haveSameEnds 1 = .ok (.iconst 2, 1) := by decide +kernel
theorem d_M_haveSameEnds_2 : decode b_M_haveSameEnds 2 = .ok (.iload_n 1, 1) := by decide +kernel
theorem d_M_haveSameEnds_3 : decode b_M_haveSameEnds 3 = .ok (.imul, 1) := by decide +kernel
theorem d_M_haveSameEnds_4 : decode b_M_haveSameEnds 4 = .ok (.iconst 2, 1) := by decide +kernel
theorem d_M_haveSameEnds_5 : decode b_M_haveSameEnds 5 = .ok (.iload_n 2, 1) := by decide +kernel
theorem d_M_haveSameEnds_6 : decode b_M_haveSameEnds 6 = .ok (.imul, 1) := by decide +kernel
theorem d_M_haveSameEnds_7 : decode b_M_haveSameEnds 7 = .ok (.invokevirtual 35, 3) := by decide +kernel
theorem d_M_haveSameEnds_10 : decode b_M_haveSameEnds 10 = .ok (.ifCond .eq 24, 3) := by decide +kernel
theorem d_M_haveSameEnds_13 : decode b_M_haveSameEnds 13 = .ok (.aload_n 0, 1) := by decide +kernel
theorem d_M_haveSameEnds_14 : decode b_M_haveSameEnds 14 = .ok (.iconst 2, 1) := by decide +kernel
theorem d_M_haveSameEnds_15 : decode b_M_haveSameEnds 15 = .ok (.iload_n 1, 1) := by decide +kernel
theorem d_M_haveSameEnds_16 : decode b_M_haveSameEnds 16 = .ok (.imul, 1) := by decide +kernel
theorem d_M_haveSameEnds_17 : decode b_M_haveSameEnds 17 = .ok (.iconst 1, 1) := by decide +kernel
theorem d_M_haveSameEnds_18 : decode b_M_haveSameEnds 18 = .ok (.iadd, 1) := by decide +kernel
theorem d_M_haveSameEnds_19 : decode b_M_haveSameEnds 19 = .ok (.iconst 2, 1) := by decide +kernel
theorem d_M_haveSameEnds_20 : decode b_M_haveSameEnds 20 = .ok (.iload_n 2, 1) := by decide +kernel
theorem d_M_haveSameEnds_21 : decode b_M_haveSameEnds 21 = .ok (.imul, 1) := by decide +kernel
theorem d_M_haveSameEnds_22 : decode b_M_haveSameEnds 22 = .ok (.iconst 1, 1) := by decide +kernel
theorem d_M_haveSameEnds_23 : decode b_M_haveSameEnds 23 = .ok (.iadd, 1) := by decide +kernel
theorem d_M_haveSameEnds_24 : decode b_M_haveSameEnds 24 = .ok (.invokevirtual 35, 3) := by decide +kernel
theorem d_M_haveSameEnds_27 : decode b_M_haveSameEnds 27 = .ok (.ifCond .eq 7, 3) := by decide +kernel
theorem d_M_haveSameEnds_30 : decode b_M_haveSameEnds 30 = .ok (.iconst 1, 1) := by decide +kernel
theorem d_M_haveSameEnds_31 : decode b_M_haveSameEnds 31 = .ok (.goto 4, 3) := by decide +kernel
theorem d_M_haveSameEnds_34 : decode b_M_haveSameEnds 34 = .ok (.iconst 0, 1) := by decide +kernel
theorem d_M_haveSameEnds_35 : decode b_M_haveSameEnds 35 = .ok (.ireturn, 1) := by decide +kernel
theorem d_M_holdsAnEndOf_0 : decode b_M_holdsAnEndOf 0 = .ok (.aload_n 0, 1) := by decide +kernel
theorem d_M_holdsAnEndOf_1 : decode b_M_holdsAnEndOf 1 = .ok (.iload_n 1, 1) := by decide +kernel
theorem d_M_holdsAnEndOf_2 : decode b_M_holdsAnEndOf 2 = .ok (.aload_n 0, 1) := by decide +kernel
theorem d_M_holdsAnEndOf_3 : decode b_M_holdsAnEndOf 3 = .ok (.getfield 15, 3) := by decide +kernel
theorem d_M_holdsAnEndOf_6 : decode b_M_holdsAnEndOf 6 = .ok (.iconst 2, 1) := by decide +kernel
theorem d_M_holdsAnEndOf_7 : decode b_M_holdsAnEndOf 7 = .ok (.iload_n 2, 1) := by decide +kernel
theorem d_M_holdsAnEndOf_8 : decode b_M_holdsAnEndOf 8 = .ok (.imul, 1) := by decide +kernel
theorem d_M_holdsAnEndOf_9 : decode b_M_holdsAnEndOf 9 = .ok (.iaload, 1) := by decide +kernel
theorem d_M_holdsAnEndOf_10 : decode b_M_holdsAnEndOf 10 = .ok (.aload_n 0, 1) := by decide +kernel
theorem d_M_holdsAnEndOf_11 : decode b_M_holdsAnEndOf 11 = .ok (.getfield 19, 3) := by decide +kernel
theorem d_M_holdsAnEndOf_14 : decode b_M_holdsAnEndOf 14 = .ok (.iconst 2, 1) := by decide +kernel
theorem d_M_holdsAnEndOf_15 : decode b_M_holdsAnEndOf 15 = .ok (.iload_n 2, 1) := by decide +kernel
theorem d_M_holdsAnEndOf_16 : decode b_M_holdsAnEndOf 16 = .ok (.imul, 1) := by decide +kernel
theorem d_M_holdsAnEndOf_17 : decode b_M_holdsAnEndOf 17 = .ok (.iaload, 1) := by decide +kernel
theorem d_M_holdsAnEndOf_18 : decode b_M_holdsAnEndOf 18 = .ok (.invokevirtual 38, 3) := by decide +kernel
theorem d_M_holdsAnEndOf_21 : decode b_M_holdsAnEndOf 21 = .ok (.ifCond .ne 31, 3) := by decide +kernel
theorem d_M_holdsAnEndOf_24 : decode b_M_holdsAnEndOf 24 = .ok (.aload_n 0, 1) := by decide +kernel
theorem d_M_holdsAnEndOf_25 : decode b_M_holdsAnEndOf 25 = .ok (.iload_n 1, 1) := by decide +kernel
theorem d_M_holdsAnEndOf_26 : decode b_M_holdsAnEndOf 26 = .ok (.aload_n 0, 1) := by decide +kernel
theorem d_M_holdsAnEndOf_27 : decode b_M_holdsAnEndOf 27 = .ok (.getfield 15, 3) := by decide +kernel
theorem d_M_holdsAnEndOf_30 : decode b_M_holdsAnEndOf 30 = .ok (.iconst 2, 1) := by decide +kernel
theorem d_M_holdsAnEndOf_31 : decode b_M_holdsAnEndOf 31 = .ok (.iload_n 2, 1) := by decide +kernel
theorem d_M_holdsAnEndOf_32 : decode b_M_holdsAnEndOf 32 = .ok (.imul, 1) := by decide +kernel
theorem d_M_holdsAnEndOf_33 : decode b_M_holdsAnEndOf 33 = .ok (.iconst 1, 1) := by decide +kernel
theorem d_M_holdsAnEndOf_34 : decode b_M_holdsAnEndOf 34 = .ok (.iadd, 1) := by decide +kernel
theorem d_M_holdsAnEndOf_35 : decode b_M_holdsAnEndOf 35 = .ok (.iaload, 1) := by decide +kernel
theorem d_M_holdsAnEndOf_36 : decode b_M_holdsAnEndOf 36 = .ok (.aload_n 0, 1) := by decide +kernel
theorem d_M_holdsAnEndOf_37 : decode b_M_holdsAnEndOf 37 = .ok (.getfield 19, 3) := by decide +kernel
theorem d_M_holdsAnEndOf_40 : decode b_M_holdsAnEndOf 40 = .ok (.iconst 2, 1) := by decide +kernel
theorem d_M_holdsAnEndOf_41 : decode b_M_holdsAnEndOf 41 = .ok (.iload_n 2, 1) := by decide +kernel
theorem d_M_holdsAnEndOf_42 : decode b_M_holdsAnEndOf 42 = .ok (.imul, 1) := by decide +kernel
theorem d_M_holdsAnEndOf_43 : decode b_M_holdsAnEndOf 43 = .ok (.iconst 1, 1) := by decide +kernel
theorem d_M_holdsAnEndOf_44 : decode b_M_holdsAnEndOf 44 = .ok (.iadd, 1) := by decide +kernel
theorem d_M_holdsAnEndOf_45 : decode b_M_holdsAnEndOf 45 = .ok (.iaload, 1) := by decide +kernel
theorem d_M_holdsAnEndOf_46 : decode b_M_holdsAnEndOf 46 = .ok (.invokevirtual 38, 3) := by decide +kernel
theorem d_M_holdsAnEndOf_49 : decode b_M_holdsAnEndOf 49 = .ok (.ifCond .eq 7, 3) := by decide +kernel
theorem d_M_holdsAnEndOf_52 : decode b_M_holdsAnEndOf 52 = .ok (.iconst 1, 1) := by decide +kernel
theorem d_M_holdsAnEndOf_53 : decode b_M_holdsAnEndOf 53 = .ok (.goto 4, 3) := by decide +kernel
theorem d_M_holdsAnEndOf_56 : decode b_M_holdsAnEndOf 56 = .ok (.iconst 0, 1) := by decide +kernel
theorem d_M_holdsAnEndOf_57 : decode b_M_holdsAnEndOf 57 = .ok (.ireturn, 1) := by decide +kernel
theorem d_M_partsTheEndsOf_0 : decode b_M_partsTheEndsOf 0 = .ok (.aload_n 0, 1) := by decide +kernel
theorem d_M_partsTheEndsOf_1 : decode b_M_partsTheEndsOf 1 = .ok (.iload_n 1, 1) := by decide +kernel
theorem d_M_partsTheEndsOf_2 : decode b_M_partsTheEndsOf 2 = .ok (.aload_n 0, 1) := by decide +kernel
theorem d_M_partsTheEndsOf_3 : decode b_M_partsTheEndsOf 3 = .ok (.getfield 15, 3) := by decide +kernel
theorem d_M_partsTheEndsOf_6 : decode b_M_partsTheEndsOf 6 = .ok (.iconst 2, 1) := by decide +kernel
theorem d_M_partsTheEndsOf_7 : decode b_M_partsTheEndsOf 7 = .ok (.iload_n 2, 1) := by decide +kernel
theorem d_M_partsTheEndsOf_8 : decode b_M_partsTheEndsOf 8 = .ok (.imul, 1) := by decide +kernel
theorem d_M_partsTheEndsOf_9 : decode b_M_partsTheEndsOf 9 = .ok (.iaload, 1) := by decide +kernel
theorem d_M_partsTheEndsOf_10 : decode b_M_partsTheEndsOf 10 = .ok (.aload_n 0, 1) := by decide +kernel
theorem d_M_partsTheEndsOf_11 : decode b_M_partsTheEndsOf 11 = .ok (.getfield 19, 3) := by decide +kernel
theorem d_M_partsTheEndsOf_14 : decode b_M_partsTheEndsOf 14 = .ok (.iconst 2, 1) := by decide +kernel
theorem d_M_partsTheEndsOf_15 : decode b_M_partsTheEndsOf 15 = .ok (.iload_n 2, 1) := by decide +kernel
theorem d_M_partsTheEndsOf_16 : decode b_M_partsTheEndsOf 16 = .ok (.imul, 1) := by decide +kernel
theorem d_M_partsTheEndsOf_17 : decode b_M_partsTheEndsOf 17 = .ok (.iaload, 1) := by decide +kernel
theorem d_M_partsTheEndsOf_18 : decode b_M_partsTheEndsOf 18 = .ok (.invokevirtual 42, 3) := by decide +kernel
theorem d_M_partsTheEndsOf_21 : decode b_M_partsTheEndsOf 21 = .ok (.istore_n 3, 1) := by decide +kernel
theorem d_M_partsTheEndsOf_22 : decode b_M_partsTheEndsOf 22 = .ok (.aload_n 0, 1) := by decide +kernel
theorem d_M_partsTheEndsOf_23 : decode b_M_partsTheEndsOf 23 = .ok (.iload_n 1, 1) := by decide +kernel
theorem d_M_partsTheEndsOf_24 : decode b_M_partsTheEndsOf 24 = .ok (.aload_n 0, 1) := by decide +kernel
theorem d_M_partsTheEndsOf_25 : decode b_M_partsTheEndsOf 25 = .ok (.getfield 15, 3) := by decide +kernel
theorem d_M_partsTheEndsOf_28 : decode b_M_partsTheEndsOf 28 = .ok (.iconst 2, 1) := by decide +kernel
theorem d_M_partsTheEndsOf_29 : decode b_M_partsTheEndsOf 29 = .ok (.iload_n 2, 1) := by decide +kernel
theorem d_M_partsTheEndsOf_30 : decode b_M_partsTheEndsOf 30 = .ok (.imul, 1) := by decide +kernel
theorem d_M_partsTheEndsOf_31 : decode b_M_partsTheEndsOf 31 = .ok (.iconst 1, 1) := by decide +kernel
theorem d_M_partsTheEndsOf_32 : decode b_M_partsTheEndsOf 32 = .ok (.iadd, 1) := by decide +kernel
theorem d_M_partsTheEndsOf_33 : decode b_M_partsTheEndsOf 33 = .ok (.iaload, 1) := by decide +kernel
theorem d_M_partsTheEndsOf_34 : decode b_M_partsTheEndsOf 34 = .ok (.aload_n 0, 1) := by decide +kernel
theorem d_M_partsTheEndsOf_35 : decode b_M_partsTheEndsOf 35 = .ok (.getfield 19, 3) := by decide +kernel
theorem d_M_partsTheEndsOf_38 : decode b_M_partsTheEndsOf 38 = .ok (.iconst 2, 1) := by decide +kernel
theorem d_M_partsTheEndsOf_39 : decode b_M_partsTheEndsOf 39 = .ok (.iload_n 2, 1) := by decide +kernel
theorem d_M_partsTheEndsOf_40 : decode b_M_partsTheEndsOf 40 = .ok (.imul, 1) := by decide +kernel
theorem d_M_partsTheEndsOf_41 : decode b_M_partsTheEndsOf 41 = .ok (.iconst 1, 1) := by decide +kernel
theorem d_M_partsTheEndsOf_42 : decode b_M_partsTheEndsOf 42 = .ok (.iadd, 1) := by decide +kernel
theorem d_M_partsTheEndsOf_43 : decode b_M_partsTheEndsOf 43 = .ok (.iaload, 1) := by decide +kernel
theorem d_M_partsTheEndsOf_44 : decode b_M_partsTheEndsOf 44 = .ok (.invokevirtual 42, 3) := by decide +kernel
theorem d_M_partsTheEndsOf_47 : decode b_M_partsTheEndsOf 47 = .ok (.istore 4, 2) := by decide +kernel
theorem d_M_partsTheEndsOf_49 : decode b_M_partsTheEndsOf 49 = .ok (.iload_n 3, 1) := by decide +kernel
theorem d_M_partsTheEndsOf_50 : decode b_M_partsTheEndsOf 50 = .ok (.ifCond .ge 8, 3) := by decide +kernel
theorem d_M_partsTheEndsOf_53 : decode b_M_partsTheEndsOf 53 = .ok (.iload 4, 2) := by decide +kernel
theorem d_M_partsTheEndsOf_55 : decode b_M_partsTheEndsOf 55 = .ok (.ifCond .gt 12, 3) := by decide +kernel
theorem d_M_partsTheEndsOf_58 : decode b_M_partsTheEndsOf 58 = .ok (.iload_n 3, 1) := by decide +kernel
theorem d_M_partsTheEndsOf_59 : decode b_M_partsTheEndsOf 59 = .ok (.ifCond .le 12, 3) := by decide +kernel
theorem d_M_partsTheEndsOf_62 : decode b_M_partsTheEndsOf 62 = .ok (.iload 4, 2) := by decide +kernel
theorem d_M_partsTheEndsOf_64 : decode b_M_partsTheEndsOf 64 = .ok (.ifCond .ge 7, 3) := by decide +kernel
theorem d_M_partsTheEndsOf_67 : decode b_M_partsTheEndsOf 67 = .ok (.iconst 1, 1) := by decide +kernel
theorem d_M_partsTheEndsOf_68 : decode b_M_partsTheEndsOf 68 = .ok (.goto 4, 3) := by decide +kernel
theorem d_M_partsTheEndsOf_71 : decode b_M_partsTheEndsOf 71 = .ok (.iconst 0, 1) := by decide +kernel
theorem d_M_partsTheEndsOf_72 : decode b_M_partsTheEndsOf 72 = .ok (.ireturn, 1) := by decide +kernel
theorem d_M_isInside_0 : decode b_M_isInside 0 = .ok (.iconst 2, 1) := by decide +kernel
theorem d_M_isInside_1 : decode b_M_isInside 1 = .ok (.iload_n 1, 1) := by decide +kernel
theorem d_M_isInside_2 : decode b_M_isInside 2 = .ok (.imul, 1) := by decide +kernel
theorem d_M_isInside_3 : decode b_M_isInside 3 = .ok (.istore 4, 2) := by decide +kernel
theorem d_M_isInside_5 : decode b_M_isInside 5 = .ok (.iconst 2, 1) := by decide +kernel
theorem d_M_isInside_6 : decode b_M_isInside 6 = .ok (.iload_n 1, 1) := by decide +kernel
theorem d_M_isInside_7 : decode b_M_isInside 7 = .ok (.imul, 1) := by decide +kernel
theorem d_M_isInside_8 : decode b_M_isInside 8 = .ok (.iconst 1, 1) := by decide +kernel
theorem d_M_isInside_9 : decode b_M_isInside 9 = .ok (.iadd, 1) := by decide +kernel
theorem d_M_isInside_10 : decode b_M_isInside 10 = .ok (.istore 5, 2) := by decide +kernel
theorem d_M_isInside_12 : decode b_M_isInside 12 = .ok (.aload_n 0, 1) := by decide +kernel
theorem d_M_isInside_13 : decode b_M_isInside 13 = .ok (.iload_n 1, 1) := by decide +kernel
theorem d_M_isInside_14 : decode b_M_isInside 14 = .ok (.iload_n 2, 1) := by decide +kernel
theorem d_M_isInside_15 : decode b_M_isInside 15 = .ok (.iload_n 3, 1) := by decide +kernel
theorem d_M_isInside_16 : decode b_M_isInside 16 = .ok (.invokevirtual 42, 3) := by decide +kernel
theorem d_M_isInside_19 : decode b_M_isInside 19 = .ok (.ifCond .ne 49, 3) := by decide +kernel
theorem d_M_isInside_22 : decode b_M_isInside 22 = .ok (.aload_n 0, 1) := by decide +kernel
theorem d_M_isInside_23 : decode b_M_isInside 23 = .ok (.getfield 15, 3) := by decide +kernel
theorem d_M_isInside_26 : decode b_M_isInside 26 = .ok (.iload 4, 2) := by decide +kernel
theorem d_M_isInside_28 : decode b_M_isInside 28 = .ok (.iaload, 1) := by decide +kernel
theorem d_M_isInside_29 : decode b_M_isInside 29 = .ok (.iload_n 2, 1) := by decide +kernel
theorem d_M_isInside_30 : decode b_M_isInside 30 = .ok (.isub, 1) := by decide +kernel
theorem d_M_isInside_31 : decode b_M_isInside 31 = .ok (.aload_n 0, 1) := by decide +kernel
theorem d_M_isInside_32 : decode b_M_isInside 32 = .ok (.getfield 15, 3) := by decide +kernel
theorem d_M_isInside_35 : decode b_M_isInside 35 = .ok (.iload 5, 2) := by decide +kernel
theorem d_M_isInside_37 : decode b_M_isInside 37 = .ok (.iaload, 1) := by decide +kernel
theorem d_M_isInside_38 : decode b_M_isInside 38 = .ok (.iload_n 2, 1) := by decide +kernel
theorem d_M_isInside_39 : decode b_M_isInside 39 = .ok (.isub, 1) := by decide +kernel
theorem d_M_isInside_40 : decode b_M_isInside 40 = .ok (.imul, 1) := by decide +kernel
theorem d_M_isInside_41 : decode b_M_isInside 41 = .ok (.aload_n 0, 1) := by decide +kernel
theorem d_M_isInside_42 : decode b_M_isInside 42 = .ok (.getfield 19, 3) := by decide +kernel
theorem d_M_isInside_45 : decode b_M_isInside 45 = .ok (.iload 4, 2) := by decide +kernel
theorem d_M_isInside_47 : decode b_M_isInside 47 = .ok (.iaload, 1) := by decide +kernel
theorem d_M_isInside_48 : decode b_M_isInside 48 = .ok (.iload_n 3, 1) := by decide +kernel
theorem d_M_isInside_49 : decode b_M_isInside 49 = .ok (.isub, 1) := by decide +kernel
theorem d_M_isInside_50 : decode b_M_isInside 50 = .ok (.aload_n 0, 1) := by decide +kernel
theorem d_M_isInside_51 : decode b_M_isInside 51 = .ok (.getfield 19, 3) := by decide +kernel
theorem d_M_isInside_54 : decode b_M_isInside 54 = .ok (.iload 5, 2) := by decide +kernel
theorem d_M_isInside_56 : decode b_M_isInside 56 = .ok (.iaload, 1) := by decide +kernel
theorem d_M_isInside_57 : decode b_M_isInside 57 = .ok (.iload_n 3, 1) := by decide +kernel
theorem d_M_isInside_58 : decode b_M_isInside 58 = .ok (.isub, 1) := by decide +kernel
theorem d_M_isInside_59 : decode b_M_isInside 59 = .ok (.imul, 1) := by decide +kernel
theorem d_M_isInside_60 : decode b_M_isInside 60 = .ok (.iadd, 1) := by decide +kernel
theorem d_M_isInside_61 : decode b_M_isInside 61 = .ok (.ifCond .ge 7, 3) := by decide +kernel
theorem d_M_isInside_64 : decode b_M_isInside 64 = .ok (.iconst 1, 1) := by decide +kernel
theorem d_M_isInside_65 : decode b_M_isInside 65 = .ok (.goto 4, 3) := by decide +kernel
theorem d_M_isInside_68 : decode b_M_isInside 68 = .ok (.iconst 0, 1) := by decide +kernel
theorem d_M_isInside_69 : decode b_M_isInside 69 = .ok (.ireturn, 1) := by decide +kernel
theorem d_M_leftness_0 : decode b_M_leftness 0 = .ok (.iconst 2, 1) := by decide +kernel
theorem d_M_leftness_1 : decode b_M_leftness 1 = .ok (.iload_n 1, 1) := by decide +kernel
theorem d_M_leftness_2 : decode b_M_leftness 2 = .ok (.imul, 1) := by decide +kernel
theorem d_M_leftness_3 : decode b_M_leftness 3 = .ok (.istore 4, 2) := by decide +kernel
theorem d_M_leftness_5 : decode b_M_leftness 5 = .ok (.aload_n 0, 1) := by decide +kernel
theorem d_M_leftness_6 : decode b_M_leftness 6 = .ok (.iload 4, 2) := by decide +kernel
theorem d_M_leftness_8 : decode b_M_leftness 8 = .ok (.invokevirtual 46, 3) := by decide +kernel
theorem d_M_leftness_11 : decode b_M_leftness 11 = .ok (.aload_n 0, 1) := by decide +kernel
theorem d_M_leftness_12 : decode b_M_leftness 12 = .ok (.iload 4, 2) := by decide +kernel
theorem d_M_leftness_14 : decode b_M_leftness 14 = .ok (.invokevirtual 50, 3) := by decide +kernel
theorem d_M_leftness_17 : decode b_M_leftness 17 = .ok (.iload_n 2, 1) := by decide +kernel
theorem d_M_leftness_18 : decode b_M_leftness 18 = .ok (.aload_n 0, 1) := by decide +kernel
theorem d_M_leftness_19 : decode b_M_leftness 19 = .ok (.getfield 15, 3) := by decide +kernel
theorem d_M_leftness_22 : decode b_M_leftness 22 = .ok (.iload 4, 2) := by decide +kernel
theorem d_M_leftness_24 : decode b_M_leftness 24 = .ok (.iaload, 1) := by decide +kernel
theorem d_M_leftness_25 : decode b_M_leftness 25 = .ok (.isub, 1) := by decide +kernel
theorem d_M_leftness_26 : decode b_M_leftness 26 = .ok (.iload_n 3, 1) := by decide +kernel
theorem d_M_leftness_27 : decode b_M_leftness 27 = .ok (.aload_n 0, 1) := by decide +kernel
theorem d_M_leftness_28 : decode b_M_leftness 28 = .ok (.getfield 19, 3) := by decide +kernel
theorem d_M_leftness_31 : decode b_M_leftness 31 = .ok (.iload 4, 2) := by decide +kernel
theorem d_M_leftness_33 : decode b_M_leftness 33 = .ok (.iaload, 1) := by decide +kernel
theorem d_M_leftness_34 : decode b_M_leftness 34 = .ok (.isub, 1) := by decide +kernel
theorem d_M_leftness_35 : decode b_M_leftness 35 = .ok (.invokestatic 53, 3) := by decide +kernel
theorem d_M_leftness_38 : decode b_M_leftness 38 = .ok (.ireturn, 1) := by decide +kernel
theorem d_M_sameTail_0 : decode b_M_sameTail 0 = .ok (.aload_n 0, 1) := by decide +kernel
theorem d_M_sameTail_1 : decode b_M_sameTail 1 = .ok (.getfield 15, 3) := by decide +kernel
theorem d_M_sameTail_4 : decode b_M_sameTail 4 = .ok (.iload_n 1, 1) := by decide +kernel
theorem d_M_sameTail_5 : decode b_M_sameTail 5 = .ok (.iaload, 1) := by decide +kernel
theorem d_M_sameTail_6 : decode b_M_sameTail 6 = .ok (.aload_n 0, 1) := by decide +kernel
theorem d_M_sameTail_7 : decode b_M_sameTail 7 = .ok (.getfield 15, 3) := by decide +kernel
theorem d_M_sameTail_10 : decode b_M_sameTail 10 = .ok (.iload_n 2, 1) := by decide +kernel
theorem d_M_sameTail_11 : decode b_M_sameTail 11 = .ok (.iaload, 1) := by decide +kernel
theorem d_M_sameTail_12 : decode b_M_sameTail 12 = .ok (.if_icmp .ne 22, 3) := by decide +kernel
theorem d_M_sameTail_15 : decode b_M_sameTail 15 = .ok (.aload_n 0, 1) := by decide +kernel
theorem d_M_sameTail_16 : decode b_M_sameTail 16 = .ok (.getfield 19, 3) := by decide +kernel
theorem d_M_sameTail_19 : decode b_M_sameTail 19 = .ok (.iload_n 1, 1) := by decide +kernel
theorem d_M_sameTail_20 : decode b_M_sameTail 20 = .ok (.iaload, 1) := by decide +kernel
theorem d_M_sameTail_21 : decode b_M_sameTail 21 = .ok (.aload_n 0, 1) := by decide +kernel
theorem d_M_sameTail_22 : decode b_M_sameTail 22 = .ok (.getfield 19, 3) := by decide +kernel
theorem d_M_sameTail_25 : decode b_M_sameTail 25 = .ok (.iload_n 2, 1) := by decide +kernel
theorem d_M_sameTail_26 : decode b_M_sameTail 26 = .ok (.iaload, 1) := by decide +kernel
theorem d_M_sameTail_27 : decode b_M_sameTail 27 = .ok (.if_icmp .ne 7, 3) := by decide +kernel
theorem d_M_sameTail_30 : decode b_M_sameTail 30 = .ok (.iconst 1, 1) := by decide +kernel
theorem d_M_sameTail_31 : decode b_M_sameTail 31 = .ok (.goto 4, 3) := by decide +kernel
theorem d_M_sameTail_34 : decode b_M_sameTail 34 = .ok (.iconst 0, 1) := by decide +kernel
theorem d_M_sameTail_35 : decode b_M_sameTail 35 = .ok (.ireturn, 1) := by decide +kernel
theorem d_M_isFirstOfItsVertex_0 : decode b_M_isFirstOfItsVertex 0 = .ok (.iconst 0, 1) := by decide +kernel
theorem d_M_isFirstOfItsVertex_1 : decode b_M_isFirstOfItsVertex 1 = .ok (.istore_n 2, 1) := by decide +kernel
theorem d_M_isFirstOfItsVertex_2 : decode b_M_isFirstOfItsVertex 2 = .ok (.iload_n 2, 1) := by decide +kernel
theorem d_M_isFirstOfItsVertex_3 : decode b_M_isFirstOfItsVertex 3 = .ok (.iload_n 1, 1) := by decide +kernel
theorem d_M_isFirstOfItsVertex_4 : decode b_M_isFirstOfItsVertex 4 = .ok (.if_icmp .ge 31, 3) := by decide +kernel
theorem d_M_isFirstOfItsVertex_7 : decode b_M_isFirstOfItsVertex 7 = .ok (.aload_n 0, 1) := by decide +kernel
theorem d_M_isFirstOfItsVertex_8 : decode b_M_isFirstOfItsVertex 8 = .ok (.getfield 9, 3) := by decide +kernel
theorem d_M_isFirstOfItsVertex_11 : decode b_M_isFirstOfItsVertex 11 = .ok (.iload_n 2, 1) := by decide +kernel
theorem d_M_isFirstOfItsVertex_12 : decode b_M_isFirstOfItsVertex 12 = .ok (.iconst 2, 1) := by decide +kernel
theorem d_M_isFirstOfItsVertex_13 : decode b_M_isFirstOfItsVertex 13 = .ok (.idiv, 1) := by decide +kernel
theorem d_M_isFirstOfItsVertex_14 : decode b_M_isFirstOfItsVertex 14 = .ok (.baload, 1) := by decide +kernel
theorem d_M_isFirstOfItsVertex_15 : decode b_M_isFirstOfItsVertex 15 = .ok (.ifCond .eq 14, 3) := by decide +kernel
theorem d_M_isFirstOfItsVertex_18 : decode b_M_isFirstOfItsVertex 18 = .ok (.aload_n 0, 1) := by decide +kernel
theorem d_M_isFirstOfItsVertex_19 : decode b_M_isFirstOfItsVertex 19 = .ok (.iload_n 1, 1) := by decide +kernel
theorem d_M_isFirstOfItsVertex_20 : decode b_M_isFirstOfItsVertex 20 = .ok (.iload_n 2, 1) := by decide +kernel
theorem d_M_isFirstOfItsVertex_21 : decode b_M_isFirstOfItsVertex 21 = .ok (.invokevirtual 35, 3) := by decide +kernel
theorem d_M_isFirstOfItsVertex_24 : decode b_M_isFirstOfItsVertex 24 = .ok (.ifCond .eq 5, 3) := by decide +kernel
theorem d_M_isFirstOfItsVertex_27 : decode b_M_isFirstOfItsVertex 27 = .ok (.iconst 0, 1) := by decide +kernel
theorem d_M_isFirstOfItsVertex_28 : decode b_M_isFirstOfItsVertex 28 = .ok (.ireturn, 1) := by decide +kernel
theorem d_M_isFirstOfItsVertex_29 : decode b_M_isFirstOfItsVertex 29 = .ok (.iinc 2 1, 3) := by decide +kernel
theorem d_M_isFirstOfItsVertex_32 : decode b_M_isFirstOfItsVertex 32 = .ok (.goto (-30), 3) := by decide +kernel
theorem d_M_isFirstOfItsVertex_35 : decode b_M_isFirstOfItsVertex 35 = .ok (.iconst 1, 1) := by decide +kernel
theorem d_M_isFirstOfItsVertex_36 : decode b_M_isFirstOfItsVertex 36 = .ok (.ireturn, 1) := by decide +kernel
theorem d_M_startsAtPeak_0 : decode b_M_startsAtPeak 0 = .ok (.iconst 0, 1) := by decide +kernel
theorem d_M_startsAtPeak_1 : decode b_M_startsAtPeak 1 = .ok (.istore_n 2, 1) := by decide +kernel
theorem d_M_startsAtPeak_2 : decode b_M_startsAtPeak 2 = .ok (.iload_n 2, 1) := by decide +kernel
theorem d_M_startsAtPeak_3 : decode b_M_startsAtPeak 3 = .ok (.bipush 40, 2) := by decide +kernel
theorem d_M_startsAtPeak_5 : decode b_M_startsAtPeak 5 = .ok (.if_icmp .ge 39, 3) := by decide +kernel
theorem d_M_startsAtPeak_8 : decode b_M_startsAtPeak 8 = .ok (.aload_n 0, 1) := by decide +kernel
theorem d_M_startsAtPeak_9 : decode b_M_startsAtPeak 9 = .ok (.getfield 9, 3) := by decide +kernel
theorem d_M_startsAtPeak_12 : decode b_M_startsAtPeak 12 = .ok (.iload_n 2, 1) := by decide +kernel
theorem d_M_startsAtPeak_13 : decode b_M_startsAtPeak 13 = .ok (.iconst 2, 1) := by decide +kernel
theorem d_M_startsAtPeak_14 : decode b_M_startsAtPeak 14 = .ok (.idiv, 1) := by decide +kernel
theorem d_M_startsAtPeak_15 : decode b_M_startsAtPeak 15 = .ok (.baload, 1) := by decide +kernel
theorem d_M_startsAtPeak_16 : decode b_M_startsAtPeak 16 = .ok (.ifCond .eq 22, 3) := by decide +kernel
theorem d_M_startsAtPeak_19 : decode b_M_startsAtPeak 19 = .ok (.aload_n 0, 1) := by decide +kernel
theorem d_M_startsAtPeak_20 : decode b_M_startsAtPeak 20 = .ok (.iload_n 1, 1) := by decide +kernel
theorem d_M_startsAtPeak_21 : decode b_M_startsAtPeak 21 = .ok (.iload_n 2, 1) := by decide +kernel
theorem d_M_startsAtPeak_22 : decode b_M_startsAtPeak 22 = .ok (.invokevirtual 35, 3) := by decide +kernel
theorem d_M_startsAtPeak_25 : decode b_M_startsAtPeak 25 = .ok (.ifCond .eq 13, 3) := by decide +kernel
theorem d_M_startsAtPeak_28 : decode b_M_startsAtPeak 28 = .ok (.aload_n 0, 1) := by decide +kernel
theorem d_M_startsAtPeak_29 : decode b_M_startsAtPeak 29 = .ok (.iload_n 2, 1) := by decide +kernel
theorem d_M_startsAtPeak_30 : decode b_M_startsAtPeak 30 = .ok (.invokevirtual 50, 3) := by decide +kernel
theorem d_M_startsAtPeak_33 : decode b_M_startsAtPeak 33 = .ok (.ifCond .le 5, 3) := by decide +kernel
theorem d_M_startsAtPeak_36 : decode b_M_startsAtPeak 36 = .ok (.iconst 0, 1) := by decide +kernel
theorem d_M_startsAtPeak_37 : decode b_M_startsAtPeak 37 = .ok (.ireturn, 1) := by decide +kernel
theorem d_M_startsAtPeak_38 : decode b_M_startsAtPeak 38 = .ok (.iinc 2 1, 3) := by decide +kernel
theorem d_M_startsAtPeak_41 : decode b_M_startsAtPeak 41 = .ok (.goto (-39), 3) := by decide +kernel
theorem d_M_startsAtPeak_44 : decode b_M_startsAtPeak 44 = .ok (.iconst 1, 1) := by decide +kernel
theorem d_M_startsAtPeak_45 : decode b_M_startsAtPeak 45 = .ok (.ireturn, 1) := by decide +kernel
theorem d_M_endsAt_0 : decode b_M_endsAt 0 = .ok (.iconst 0, 1) := by decide +kernel
theorem d_M_endsAt_1 : decode b_M_endsAt 1 = .ok (.istore_n 3, 1) := by decide +kernel
theorem d_M_endsAt_2 : decode b_M_endsAt 2 = .ok (.iconst 0, 1) := by decide +kernel
theorem d_M_endsAt_3 : decode b_M_endsAt 3 = .ok (.istore 4, 2) := by decide +kernel
theorem d_M_endsAt_5 : decode b_M_endsAt 5 = .ok (.iload 4, 2) := by decide +kernel
theorem d_M_endsAt_7 : decode b_M_endsAt 7 = .ok (.bipush 40, 2) := by decide +kernel
theorem d_M_endsAt_9 : decode b_M_endsAt 9 = .ok (.if_icmp .ge 46, 3) := by decide +kernel
theorem d_M_endsAt_12 : decode b_M_endsAt 12 = .ok (.aload_n 0, 1) := by decide +kernel
theorem d_M_endsAt_13 : decode b_M_endsAt 13 = .ok (.getfield 9, 3) := by decide +kernel
theorem d_M_endsAt_16 : decode b_M_endsAt 16 = .ok (.iload 4, 2) := by decide +kernel
theorem d_M_endsAt_18 : decode b_M_endsAt 18 = .ok (.iconst 2, 1) := by decide +kernel
theorem d_M_endsAt_19 : decode b_M_endsAt 19 = .ok (.idiv, 1) := by decide +kernel
theorem d_M_endsAt_20 : decode b_M_endsAt 20 = .ok (.baload, 1) := by decide +kernel
theorem d_M_endsAt_21 : decode b_M_endsAt 21 = .ok (.ifCond .eq 28, 3) := by decide +kernel
theorem d_M_endsAt_24 : decode b_M_endsAt 24 = .ok (.aload_n 0, 1) := by decide +kernel
theorem d_M_endsAt_25 : decode b_M_endsAt 25 = .ok (.getfield 15, 3) := by decide +kernel
theorem d_M_endsAt_28 : decode b_M_endsAt 28 = .ok (.iload 4, 2) := by decide +kernel
theorem d_M_endsAt_30 : decode b_M_endsAt 30 = .ok (.iaload, 1) := by decide +kernel
theorem d_M_endsAt_31 : decode b_M_endsAt 31 = .ok (.iload_n 1, 1) := by decide +kernel
theorem d_M_endsAt_32 : decode b_M_endsAt 32 = .ok (.if_icmp .ne 17, 3) := by decide +kernel
theorem d_M_endsAt_35 : decode b_M_endsAt 35 = .ok (.aload_n 0, 1) := by decide +kernel
theorem d_M_endsAt_36 : decode b_M_endsAt 36 = .ok (.getfield 19, 3) := by decide +kernel
theorem d_M_endsAt_39 : decode b_M_endsAt 39 = .ok (.iload 4, 2) := by decide +kernel
theorem d_M_endsAt_41 : decode b_M_endsAt 41 = .ok (.iaload, 1) := by decide +kernel
theorem d_M_endsAt_42 : decode b_M_endsAt 42 = .ok (.iload_n 2, 1) := by decide +kernel
theorem d_M_endsAt_43 : decode b_M_endsAt 43 = .ok (.if_icmp .ne 6, 3) := by decide +kernel
theorem d_M_endsAt_46 : decode b_M_endsAt 46 = .ok (.iinc 3 1, 3) := by decide +kernel
theorem d_M_endsAt_49 : decode b_M_endsAt 49 = .ok (.iinc 4 1, 3) := by decide +kernel
theorem d_M_endsAt_52 : decode b_M_endsAt 52 = .ok (.goto (-47), 3) := by decide +kernel
theorem d_M_endsAt_55 : decode b_M_endsAt 55 = .ok (.iload_n 3, 1) := by decide +kernel
theorem d_M_endsAt_56 : decode b_M_endsAt 56 = .ok (.ireturn, 1) := by decide +kernel
theorem d_M_segmentAround_0 : decode b_M_segmentAround 0 = .ok (.iconst 0, 1) := by decide +kernel
theorem d_M_segmentAround_1 : decode b_M_segmentAround 1 = .ok (.istore_n 3, 1) := by decide +kernel
theorem d_M_segmentAround_2 : decode b_M_segmentAround 2 = .ok (.iload_n 3, 1) := by decide +kernel
theorem d_M_segmentAround_3 : decode b_M_segmentAround 3 = .ok (.bipush 20, 2) := by decide +kernel
theorem d_M_segmentAround_5 : decode b_M_segmentAround 5 = .ok (.if_icmp .ge 30, 3) := by decide +kernel
theorem d_M_segmentAround_8 : decode b_M_segmentAround 8 = .ok (.aload_n 0, 1) := by decide +kernel
theorem d_M_segmentAround_9 : decode b_M_segmentAround 9 = .ok (.getfield 9, 3) := by decide +kernel
theorem d_M_segmentAround_12 : decode b_M_segmentAround 12 = .ok (.iload_n 3, 1) := by decide +kernel
theorem d_M_segmentAround_13 : decode b_M_segmentAround 13 = .ok (.baload, 1) := by decide +kernel
theorem d_M_segmentAround_14 : decode b_M_segmentAround 14 = .ok (.ifCond .eq 15, 3) := by decide +kernel
theorem d_M_segmentAround_17 : decode b_M_segmentAround 17 = .ok (.aload_n 0, 1) := by decide +kernel
theorem d_M_segmentAround_18 : decode b_M_segmentAround 18 = .ok (.iload_n 3, 1) := by decide +kernel
theorem d_M_segmentAround_19 : decode b_M_segmentAround 19 = .ok (.iload_n 1, 1) := by decide +kernel
theorem d_M_segmentAround_20 : decode b_M_segmentAround 20 = .ok (.iload_n 2, 1) := by decide +kernel
theorem d_M_segmentAround_21 : decode b_M_segmentAround 21 = .ok (.invokevirtual 38, 3) := by decide +kernel
theorem d_M_segmentAround_24 : decode b_M_segmentAround 24 = .ok (.ifCond .eq 5, 3) := by decide +kernel
theorem d_M_segmentAround_27 : decode b_M_segmentAround 27 = .ok (.iload_n 3, 1) := by decide +kernel
theorem d_M_segmentAround_28 : decode b_M_segmentAround 28 = .ok (.ireturn, 1) := by decide +kernel
theorem d_M_segmentAround_29 : decode b_M_segmentAround 29 = .ok (.iinc 3 1, 3) := by decide +kernel
theorem d_M_segmentAround_32 : decode b_M_segmentAround 32 = .ok (.goto (-30), 3) := by decide +kernel
theorem d_M_segmentAround_35 : decode b_M_segmentAround 35 = .ok (.iconst (-1), 1) := by decide +kernel
theorem d_M_segmentAround_36 : decode b_M_segmentAround 36 = .ok (.ireturn, 1) := by decide +kernel
theorem d_M_struckAbove_0 : decode b_M_struckAbove 0 = .ok (.iconst (-1), 1) := by decide +kernel
theorem d_M_struckAbove_1 : decode b_M_struckAbove 1 = .ok (.istore_n 3, 1) := by decide +kernel
theorem d_M_struckAbove_2 : decode b_M_struckAbove 2 = .ok (.iconst 0, 1) := by decide +kernel
theorem d_M_struckAbove_3 : decode b_M_struckAbove 3 = .ok (.istore 4, 2) := by decide +kernel
theorem d_M_struckAbove_5 : decode b_M_struckAbove 5 = .ok (.iconst 1, 1) := by decide +kernel
theorem d_M_struckAbove_6 : decode b_M_struckAbove 6 = .ok (.istore 5, 2) := by decide +kernel
theorem d_M_struckAbove_8 : decode b_M_struckAbove 8 = .ok (.iconst 0, 1) := by decide +kernel
theorem d_M_struckAbove_9 : decode b_M_struckAbove 9 = .ok (.istore 6, 2) := by decide +kernel
theorem d_M_struckAbove_11 : decode b_M_struckAbove 11 = .ok (.iload 6, 2) := by decide +kernel
theorem d_M_struckAbove_13 : decode b_M_struckAbove 13 = .ok (.bipush 20, 2) := by decide +kernel
theorem d_M_struckAbove_15 : decode b_M_struckAbove 15 = .ok (.if_icmp .ge 129, 3) := by decide +kernel
theorem d_M_struckAbove_18 : decode b_M_struckAbove 18 = .ok (.iconst 2, 1) := by decide +kernel
theorem d_M_struckAbove_19 : decode b_M_struckAbove 19 = .ok (.iload 6, 2) := by decide +kernel
theorem d_M_struckAbove_21 : decode b_M_struckAbove 21 = .ok (.imul, 1) := by decide +kernel
theorem d_M_struckAbove_22 : decode b_M_struckAbove 22 = .ok (.istore 7, 2) := by decide +kernel
theorem d_M_struckAbove_24 : decode b_M_struckAbove 24 = .ok (.aload_n 0, 1) := by decide +kernel
theorem d_M_struckAbove_25 : decode b_M_struckAbove 25 = .ok (.getfield 9, 3) := by decide +kernel
theorem d_M_struckAbove_28 : decode b_M_struckAbove 28 = .ok (.iload 6, 2) := by decide +kernel
theorem d_M_struckAbove_30 : decode b_M_struckAbove 30 = .ok (.baload, 1) := by decide +kernel
theorem d_M_struckAbove_31 : decode b_M_struckAbove 31 = .ok (.ifCond .eq 107, 3) := by decide +kernel
theorem d_M_struckAbove_34 : decode b_M_struckAbove 34 = .ok (.iload_n 1, 1) := by decide +kernel
theorem d_M_struckAbove_35 : decode b_M_struckAbove 35 = .ok (.aload_n 0, 1) := by decide +kernel
theorem d_M_struckAbove_36 : decode b_M_struckAbove 36 = .ok (.getfield 15, 3) := by decide +kernel
theorem d_M_struckAbove_39 : decode b_M_struckAbove 39 = .ok (.iload 7, 2) := by decide +kernel
theorem d_M_struckAbove_41 : decode b_M_struckAbove 41 = .ok (.iaload, 1) := by decide +kernel
theorem d_M_struckAbove_42 : decode b_M_struckAbove 42 = .ok (.if_icmp .lt 96, 3) := by decide +kernel
theorem d_M_struckAbove_45 : decode b_M_struckAbove 45 = .ok (.iload_n 1, 1) := by decide +kernel
theorem d_M_struckAbove_46 : decode b_M_struckAbove 46 = .ok (.aload_n 0, 1) := by decide +kernel
theorem d_M_struckAbove_47 : decode b_M_struckAbove 47 = .ok (.getfield 15, 3) := by decide +kernel
theorem d_M_struckAbove_50 : decode b_M_struckAbove 50 = .ok (.iload 7, 2) := by decide +kernel
theorem d_M_struckAbove_52 : decode b_M_struckAbove 52 = .ok (.iconst 1, 1) := by decide +kernel
theorem d_M_struckAbove_53 : decode b_M_struckAbove 53 = .ok (.iadd, 1) := by decide +kernel
theorem d_M_struckAbove_54 : decode b_M_struckAbove 54 = .ok (.iaload, 1) := by decide +kernel
theorem d_M_struckAbove_55 : decode b_M_struckAbove 55 = .ok (.if_icmp .le 6, 3) := by decide +kernel
theorem d_M_struckAbove_58 : decode b_M_struckAbove 58 = .ok (.goto 80, 3) := by decide +kernel
theorem d_M_struckAbove_61 : decode b_M_struckAbove 61 = .ok (.iconst 1, 1) := by decide +kernel
theorem d_M_struckAbove_62 : decode b_M_struckAbove 62 = .ok (.aload_n 0, 1) := by decide +kernel
theorem d_M_struckAbove_63 : decode b_M_struckAbove 63 = .ok (.iload 7, 2) := by decide +kernel
theorem d_M_struckAbove_65 : decode b_M_struckAbove 65 = .ok (.invokevirtual 46, 3) := by decide +kernel
theorem d_M_struckAbove_68 : decode b_M_struckAbove 68 = .ok (.invokestatic 57, 3) := by decide +kernel
theorem d_M_struckAbove_71 : decode b_M_struckAbove 71 = .ok (.istore 8, 2) := by decide +kernel
theorem d_M_struckAbove_73 : decode b_M_struckAbove 73 = .ok (.aload_n 0, 1) := by decide +kernel
theorem d_M_struckAbove_74 : decode b_M_struckAbove 74 = .ok (.getfield 19, 3) := by decide +kernel
theorem d_M_struckAbove_77 : decode b_M_struckAbove 77 = .ok (.iload 7, 2) := by decide +kernel
theorem d_M_struckAbove_79 : decode b_M_struckAbove 79 = .ok (.iaload, 1) := by decide +kernel
theorem d_M_struckAbove_80 : decode b_M_struckAbove 80 = .ok (.iload_n 2, 1) := by decide +kernel
theorem d_M_struckAbove_81 : decode b_M_struckAbove 81 = .ok (.isub, 1) := by decide +kernel
theorem d_M_struckAbove_82 : decode b_M_struckAbove 82 = .ok (.iload 8, 2) := by decide +kernel
theorem d_M_struckAbove_84 : decode b_M_struckAbove 84 = .ok (.imul, 1) := by decide +kernel
theorem d_M_struckAbove_85 : decode b_M_struckAbove 85 = .ok (.aload_n 0, 1) := by decide +kernel
theorem d_M_struckAbove_86 : decode b_M_struckAbove 86 = .ok (.iload 7, 2) := by decide +kernel
theorem d_M_struckAbove_88 : decode b_M_struckAbove 88 = .ok (.invokevirtual 50, 3) := by decide +kernel
theorem d_M_struckAbove_91 : decode b_M_struckAbove 91 = .ok (.iload_n 1, 1) := by decide +kernel
theorem d_M_struckAbove_92 : decode b_M_struckAbove 92 = .ok (.aload_n 0, 1) := by decide +kernel
theorem d_M_struckAbove_93 : decode b_M_struckAbove 93 = .ok (.getfield 15, 3) := by decide +kernel
theorem d_M_struckAbove_96 : decode b_M_struckAbove 96 = .ok (.iload 7, 2) := by decide +kernel
theorem d_M_struckAbove_98 : decode b_M_struckAbove 98 = .ok (.iaload, 1) := by decide +kernel
theorem d_M_struckAbove_99 : decode b_M_struckAbove 99 = .ok (.isub, 1) := by decide +kernel
theorem d_M_struckAbove_100 : decode b_M_struckAbove 100 = .ok (.imul, 1) := by decide +kernel
theorem d_M_struckAbove_101 : decode b_M_struckAbove 101 = .ok (.iadd, 1) := by decide +kernel
theorem d_M_struckAbove_102 : decode b_M_struckAbove 102 = .ok (.istore 9, 2) := by decide +kernel
theorem d_M_struckAbove_104 : decode b_M_struckAbove 104 = .ok (.iload 9, 2) := by decide +kernel
theorem d_M_struckAbove_106 : decode b_M_struckAbove 106 = .ok (.ifCond .le 32, 3) := by decide +kernel
theorem d_M_struckAbove_109 : decode b_M_struckAbove 109 = .ok (.iload_n 3, 1) := by decide +kernel
theorem d_M_struckAbove_110 : decode b_M_struckAbove 110 = .ok (.iconst (-1), 1) := by decide +kernel
theorem d_M_struckAbove_111 : decode b_M_struckAbove 111 = .ok (.if_icmp .eq 16, 3) := by decide +kernel
theorem d_M_struckAbove_114 : decode b_M_struckAbove 114 = .ok (.iload 9, 2) := by decide +kernel
theorem d_M_struckAbove_116 : decode b_M_struckAbove 116 = .ok (.iload 5, 2) := by decide +kernel
theorem d_M_struckAbove_118 : decode b_M_struckAbove 118 = .ok (.imul, 1) := by decide +kernel
theorem d_M_struckAbove_119 : decode b_M_struckAbove 119 = .ok (.iload 4, 2) := by decide +kernel
theorem d_M_struckAbove_121 : decode b_M_struckAbove 121 = .ok (.iload 8, 2) := by decide +kernel
theorem d_M_struckAbove_123 : decode b_M_struckAbove 123 = .ok (.imul, 1) := by decide +kernel
theorem d_M_struckAbove_124 : decode b_M_struckAbove 124 = .ok (.if_icmp .ge 14, 3) := by decide +kernel
theorem d_M_struckAbove_127 : decode b_M_struckAbove 127 = .ok (.iload 6, 2) := by decide +kernel
theorem d_M_struckAbove_129 : decode b_M_struckAbove 129 = .ok (.istore_n 3, 1) := by decide +kernel
theorem d_M_struckAbove_130 : decode b_M_struckAbove 130 = .ok (.iload 9, 2) := by decide +kernel
theorem d_M_struckAbove_132 : decode b_M_struckAbove 132 = .ok (.istore 4, 2) := by decide +kernel
theorem d_M_struckAbove_134 : decode b_M_struckAbove 134 = .ok (.iload 8, 2) := by decide +kernel
theorem d_M_struckAbove_136 : decode b_M_struckAbove 136 = .ok (.istore 5, 2) := by decide +kernel
theorem d_M_struckAbove_138 : decode b_M_struckAbove 138 = .ok (.iinc 6 1, 3) := by decide +kernel
theorem d_M_struckAbove_141 : decode b_M_struckAbove 141 = .ok (.goto (-130), 3) := by decide +kernel
theorem d_M_struckAbove_144 : decode b_M_struckAbove 144 = .ok (.iload_n 3, 1) := by decide +kernel
theorem d_M_struckAbove_145 : decode b_M_struckAbove 145 = .ok (.ireturn, 1) := by decide +kernel
theorem d_M_sideAbove_0 : decode b_M_sideAbove 0 = .ok (.aload_n 0, 1) := by decide +kernel
theorem d_M_sideAbove_1 : decode b_M_sideAbove 1 = .ok (.iload_n 1, 1) := by decide +kernel
theorem d_M_sideAbove_2 : decode b_M_sideAbove 2 = .ok (.iload_n 2, 1) := by decide +kernel
theorem d_M_sideAbove_3 : decode b_M_sideAbove 3 = .ok (.invokevirtual 63, 3) := by decide +kernel
theorem d_M_sideAbove_6 : decode b_M_sideAbove 6 = .ok (.istore_n 3, 1) := by decide +kernel
theorem d_M_sideAbove_7 : decode b_M_sideAbove 7 = .ok (.iload_n 3, 1) := by decide +kernel
theorem d_M_sideAbove_8 : decode b_M_sideAbove 8 = .ok (.iconst (-1), 1) := by decide +kernel
theorem d_M_sideAbove_9 : decode b_M_sideAbove 9 = .ok (.if_icmp .ne 6, 3) := by decide +kernel
theorem d_M_sideAbove_12 : decode b_M_sideAbove 12 = .ok (.bipush 40, 2) := by decide +kernel
theorem d_M_sideAbove_14 : decode b_M_sideAbove 14 = .ok (.ireturn, 1) := by decide +kernel
theorem d_M_sideAbove_15 : decode b_M_sideAbove 15 = .ok (.iconst 2, 1) := by decide +kernel
theorem d_M_sideAbove_16 : decode b_M_sideAbove 16 = .ok (.iload_n 3, 1) := by decide +kernel
theorem d_M_sideAbove_17 : decode b_M_sideAbove 17 = .ok (.imul, 1) := by decide +kernel
theorem d_M_sideAbove_18 : decode b_M_sideAbove 18 = .ok (.istore 4, 2) := by decide +kernel
theorem d_M_sideAbove_20 : decode b_M_sideAbove 20 = .ok (.iconst 2, 1) := by decide +kernel
theorem d_M_sideAbove_21 : decode b_M_sideAbove 21 = .ok (.iload_n 3, 1) := by decide +kernel
theorem d_M_sideAbove_22 : decode b_M_sideAbove 22 = .ok (.imul, 1) := by decide +kernel
theorem d_M_sideAbove_23 : decode b_M_sideAbove 23 = .ok (.iconst 1, 1) := by decide +kernel
theorem d_M_sideAbove_24 : decode b_M_sideAbove 24 = .ok (.iadd, 1) := by decide +kernel
theorem d_M_sideAbove_25 : decode b_M_sideAbove 25 = .ok (.istore 5, 2) := by decide +kernel
theorem d_M_sideAbove_27 : decode b_M_sideAbove 27 = .ok (.iload_n 1, 1) := by decide +kernel
theorem d_M_sideAbove_28 : decode b_M_sideAbove 28 = .ok (.aload_n 0, 1) := by decide +kernel
theorem d_M_sideAbove_29 : decode b_M_sideAbove 29 = .ok (.getfield 15, 3) := by decide +kernel
theorem d_M_sideAbove_32 : decode b_M_sideAbove 32 = .ok (.iload 4, 2) := by decide +kernel
theorem d_M_sideAbove_34 : decode b_M_sideAbove 34 = .ok (.iaload, 1) := by decide +kernel
theorem d_M_sideAbove_35 : decode b_M_sideAbove 35 = .ok (.if_icmp .le 17, 3) := by decide +kernel
theorem d_M_sideAbove_38 : decode b_M_sideAbove 38 = .ok (.iload_n 1, 1) := by decide +kernel
theorem d_M_sideAbove_39 : decode b_M_sideAbove 39 = .ok (.aload_n 0, 1) := by decide +kernel
theorem d_M_sideAbove_40 : decode b_M_sideAbove 40 = .ok (.getfield 15, 3) := by decide +kernel
theorem d_M_sideAbove_43 : decode b_M_sideAbove 43 = .ok (.iload 5, 2) := by decide +kernel
theorem d_M_sideAbove_45 : decode b_M_sideAbove 45 = .ok (.iaload, 1) := by decide +kernel
theorem d_M_sideAbove_46 : decode b_M_sideAbove 46 = .ok (.if_icmp .ge 6, 3) := by decide +kernel
theorem d_M_sideAbove_49 : decode b_M_sideAbove 49 = .ok (.iload 5, 2) := by decide +kernel
theorem d_M_sideAbove_51 : decode b_M_sideAbove 51 = .ok (.ireturn, 1) := by decide +kernel
theorem d_M_sideAbove_52 : decode b_M_sideAbove 52 = .ok (.aload_n 0, 1) := by decide +kernel
theorem d_M_sideAbove_53 : decode b_M_sideAbove 53 = .ok (.iload_n 1, 1) := by decide +kernel
theorem d_M_sideAbove_54 : decode b_M_sideAbove 54 = .ok (.aload_n 0, 1) := by decide +kernel
theorem d_M_sideAbove_55 : decode b_M_sideAbove 55 = .ok (.getfield 15, 3) := by decide +kernel
theorem d_M_sideAbove_58 : decode b_M_sideAbove 58 = .ok (.iload 4, 2) := by decide +kernel
theorem d_M_sideAbove_60 : decode b_M_sideAbove 60 = .ok (.iaload, 1) := by decide +kernel
theorem d_M_sideAbove_61 : decode b_M_sideAbove 61 = .ok (.if_icmp .ne 8, 3) := by decide +kernel
theorem d_M_sideAbove_64 : decode b_M_sideAbove 64 = .ok (.iload 4, 2) := by decide +kernel
theorem d_M_sideAbove_66 : decode b_M_sideAbove 66 = .ok (.goto 5, 3) := by decide +kernel
theorem d_M_sideAbove_69 : decode b_M_sideAbove 69 = .ok (.iload 5, 2) := by decide +kernel
theorem d_M_sideAbove_71 : decode b_M_sideAbove 71 = .ok (.iconst 0, 1) := by decide +kernel
theorem d_M_sideAbove_72 : decode b_M_sideAbove 72 = .ok (.iconst (-1), 1) := by decide +kernel
theorem d_M_sideAbove_73 : decode b_M_sideAbove 73 = .ok (.invokevirtual 66, 3) := by decide +kernel
theorem d_M_sideAbove_76 : decode b_M_sideAbove 76 = .ok (.ireturn, 1) := by decide +kernel
theorem d_M_sideFacing_0 : decode b_M_sideFacing 0 = .ok (.iload_n 1, 1) := by decide +kernel
theorem d_M_sideFacing_1 : decode b_M_sideFacing 1 = .ok (.istore 4, 2) := by decide +kernel
theorem d_M_sideFacing_3 : decode b_M_sideFacing 3 = .ok (.iconst 0, 1) := by decide +kernel
theorem d_M_sideFacing_4 : decode b_M_sideFacing 4 = .ok (.istore 5, 2) := by decide +kernel
theorem d_M_sideFacing_6 : decode b_M_sideFacing 6 = .ok (.iload 5, 2) := by decide +kernel
theorem d_M_sideFacing_8 : decode b_M_sideFacing 8 = .ok (.bipush 40, 2) := by decide +kernel
theorem d_M_sideFacing_10 : decode b_M_sideFacing 10 = .ok (.if_icmp .ge 48, 3) := by decide +kernel
theorem d_M_sideFacing_13 : decode b_M_sideFacing 13 = .ok (.aload_n 0, 1) := by decide +kernel
theorem d_M_sideFacing_14 : decode b_M_sideFacing 14 = .ok (.getfield 9, 3) := by decide +kernel
theorem d_M_sideFacing_17 : decode b_M_sideFacing 17 = .ok (.iload 5, 2) := by decide +kernel
theorem d_M_sideFacing_19 : decode b_M_sideFacing 19 = .ok (.iconst 2, 1) := by decide +kernel
theorem d_M_sideFacing_20 : decode b_M_sideFacing 20 = .ok (.idiv, 1) := by decide +kernel
theorem d_M_sideFacing_21 : decode b_M_sideFacing 21 = .ok (.baload, 1) := by decide +kernel
theorem d_M_sideFacing_22 : decode b_M_sideFacing 22 = .ok (.ifCond .eq 30, 3) := by decide +kernel
theorem d_M_sideFacing_25 : decode b_M_sideFacing 25 = .ok (.aload_n 0, 1) := by decide +kernel
theorem d_M_sideFacing_26 : decode b_M_sideFacing 26 = .ok (.iload 5, 2) := by decide +kernel
theorem d_M_sideFacing_28 : decode b_M_sideFacing 28 = .ok (.iload_n 1, 1) := by decide +kernel
theorem d_M_sideFacing_29 : decode b_M_sideFacing 29 = .ok (.invokevirtual 35, 3) := by decide +kernel
theorem d_M_sideFacing_32 : decode b_M_sideFacing 32 = .ok (.ifCond .eq 20, 3) := by decide +kernel
theorem d_M_sideFacing_35 : decode b_M_sideFacing 35 = .ok (.aload_n 0, 1) := by decide +kernel
theorem d_M_sideFacing_36 : decode b_M_sideFacing 36 = .ok (.iload 5, 2) := by decide +kernel
theorem d_M_sideFacing_38 : decode b_M_sideFacing 38 = .ok (.iload 4, 2) := by decide +kernel
theorem d_M_sideFacing_40 : decode b_M_sideFacing 40 = .ok (.iload_n 2, 1) := by decide +kernel
theorem d_M_sideFacing_41 : decode b_M_sideFacing 41 = .ok (.iload_n 3, 1) := by decide +kernel
theorem d_M_sideFacing_42 : decode b_M_sideFacing 42 = .ok (.invokevirtual 69, 3) := by decide +kernel
theorem d_M_sideFacing_45 : decode b_M_sideFacing 45 = .ok (.ifCond .eq 7, 3) := by decide +kernel
theorem d_M_sideFacing_48 : decode b_M_sideFacing 48 = .ok (.iload 5, 2) := by decide +kernel
theorem d_M_sideFacing_50 : decode b_M_sideFacing 50 = .ok (.istore 4, 2) := by decide +kernel
theorem d_M_sideFacing_52 : decode b_M_sideFacing 52 = .ok (.iinc 5 1, 3) := by decide +kernel
theorem d_M_sideFacing_55 : decode b_M_sideFacing 55 = .ok (.goto (-49), 3) := by decide +kernel
theorem d_M_sideFacing_58 : decode b_M_sideFacing 58 = .ok (.iload 4, 2) := by decide +kernel
theorem d_M_sideFacing_60 : decode b_M_sideFacing 60 = .ok (.iconst 1, 1) := by decide +kernel
theorem d_M_sideFacing_61 : decode b_M_sideFacing 61 = .ok (.ixor, 1) := by decide +kernel
theorem d_M_sideFacing_62 : decode b_M_sideFacing 62 = .ok (.ireturn, 1) := by decide +kernel
theorem d_M_comesSooner_0 : decode b_M_comesSooner 0 = .ok (.iload_n 3, 1) := by decide +kernel
theorem d_M_comesSooner_1 : decode b_M_comesSooner 1 = .ok (.iload 4, 2) := by decide +kernel
theorem d_M_comesSooner_3 : decode b_M_comesSooner 3 = .ok (.aload_n 0, 1) := by decide +kernel
theorem d_M_comesSooner_4 : decode b_M_comesSooner 4 = .ok (.iload_n 1, 1) := by decide +kernel
theorem d_M_comesSooner_5 : decode b_M_comesSooner 5 = .ok (.invokevirtual 46, 3) := by decide +kernel
theorem d_M_comesSooner_8 : decode b_M_comesSooner 8 = .ok (.aload_n 0, 1) := by decide +kernel
theorem d_M_comesSooner_9 : decode b_M_comesSooner 9 = .ok (.iload_n 1, 1) := by decide +kernel
theorem d_M_comesSooner_10 : decode b_M_comesSooner 10 = .ok (.invokevirtual 50, 3) := by decide +kernel
theorem d_M_comesSooner_13 : decode b_M_comesSooner 13 = .ok (.invokestatic 73, 3) := by decide +kernel
theorem d_M_comesSooner_16 : decode b_M_comesSooner 16 = .ok (.istore 5, 2) := by decide +kernel
theorem d_M_comesSooner_18 : decode b_M_comesSooner 18 = .ok (.iload_n 3, 1) := by decide +kernel
theorem d_M_comesSooner_19 : decode b_M_comesSooner 19 = .ok (.iload 4, 2) := by decide +kernel
theorem d_M_comesSooner_21 : decode b_M_comesSooner 21 = .ok (.aload_n 0, 1) := by decide +kernel
theorem d_M_comesSooner_22 : decode b_M_comesSooner 22 = .ok (.iload_n 2, 1) := by decide +kernel
theorem d_M_comesSooner_23 : decode b_M_comesSooner 23 = .ok (.invokevirtual 46, 3) := by decide +kernel
theorem d_M_comesSooner_26 : decode b_M_comesSooner 26 = .ok (.aload_n 0, 1) := by decide +kernel
theorem d_M_comesSooner_27 : decode b_M_comesSooner 27 = .ok (.iload_n 2, 1) := by decide +kernel
theorem d_M_comesSooner_28 : decode b_M_comesSooner 28 = .ok (.invokevirtual 50, 3) := by decide +kernel
theorem d_M_comesSooner_31 : decode b_M_comesSooner 31 = .ok (.invokestatic 73, 3) := by decide +kernel
theorem d_M_comesSooner_34 : decode b_M_comesSooner 34 = .ok (.istore 6, 2) := by decide +kernel
theorem d_M_comesSooner_36 : decode b_M_comesSooner 36 = .ok (.iload 5, 2) := by decide +kernel
theorem d_M_comesSooner_38 : decode b_M_comesSooner 38 = .ok (.iload 6, 2) := by decide +kernel
theorem d_M_comesSooner_40 : decode b_M_comesSooner 40 = .ok (.if_icmp .eq 16, 3) := by decide +kernel
theorem d_M_comesSooner_43 : decode b_M_comesSooner 43 = .ok (.iload 5, 2) := by decide +kernel
theorem d_M_comesSooner_45 : decode b_M_comesSooner 45 = .ok (.iload 6, 2) := by decide +kernel
theorem d_M_comesSooner_47 : decode b_M_comesSooner 47 = .ok (.if_icmp .ge 7, 3) := by decide +kernel
theorem d_M_comesSooner_50 : decode b_M_comesSooner 50 = .ok (.iconst 1, 1) := by decide +kernel
theorem d_M_comesSooner_51 : decode b_M_comesSooner 51 = .ok (.goto 4, 3) := by decide +kernel
theorem d_M_comesSooner_54 : decode b_M_comesSooner 54 = .ok (.iconst 0, 1) := by decide +kernel
theorem d_M_comesSooner_55 : decode b_M_comesSooner 55 = .ok (.ireturn, 1) := by decide +kernel
theorem d_M_comesSooner_56 : decode b_M_comesSooner 56 = .ok (.aload_n 0, 1) := by decide +kernel
theorem d_M_comesSooner_57 : decode b_M_comesSooner 57 = .ok (.iload_n 1, 1) := by decide +kernel
theorem d_M_comesSooner_58 : decode b_M_comesSooner 58 = .ok (.invokevirtual 46, 3) := by decide +kernel
theorem d_M_comesSooner_61 : decode b_M_comesSooner 61 = .ok (.aload_n 0, 1) := by decide +kernel
theorem d_M_comesSooner_62 : decode b_M_comesSooner 62 = .ok (.iload_n 1, 1) := by decide +kernel
theorem d_M_comesSooner_63 : decode b_M_comesSooner 63 = .ok (.invokevirtual 50, 3) := by decide +kernel
theorem d_M_comesSooner_66 : decode b_M_comesSooner 66 = .ok (.aload_n 0, 1) := by decide +kernel
theorem d_M_comesSooner_67 : decode b_M_comesSooner 67 = .ok (.iload_n 2, 1) := by decide +kernel
theorem d_M_comesSooner_68 : decode b_M_comesSooner 68 = .ok (.invokevirtual 46, 3) := by decide +kernel
theorem d_M_comesSooner_71 : decode b_M_comesSooner 71 = .ok (.aload_n 0, 1) := by decide +kernel
theorem d_M_comesSooner_72 : decode b_M_comesSooner 72 = .ok (.iload_n 2, 1) := by decide +kernel
theorem d_M_comesSooner_73 : decode b_M_comesSooner 73 = .ok (.invokevirtual 50, 3) := by decide +kernel
theorem d_M_comesSooner_76 : decode b_M_comesSooner 76 = .ok (.invokestatic 53, 3) := by decide +kernel
theorem d_M_comesSooner_79 : decode b_M_comesSooner 79 = .ok (.ifCond .le 7, 3) := by decide +kernel
theorem d_M_comesSooner_82 : decode b_M_comesSooner 82 = .ok (.iconst 1, 1) := by decide +kernel
theorem d_M_comesSooner_83 : decode b_M_comesSooner 83 = .ok (.goto 4, 3) := by decide +kernel
theorem d_M_comesSooner_86 : decode b_M_comesSooner 86 = .ok (.iconst 0, 1) := by decide +kernel
theorem d_M_comesSooner_87 : decode b_M_comesSooner 87 = .ok (.ireturn, 1) := by decide +kernel
theorem d_M_turnRank_0 : decode b_M_turnRank 0 = .ok (.iload_n 0, 1) := by decide +kernel
theorem d_M_turnRank_1 : decode b_M_turnRank 1 = .ok (.iload_n 3, 1) := by decide +kernel
theorem d_M_turnRank_2 : decode b_M_turnRank 2 = .ok (.imul, 1) := by decide +kernel
theorem d_M_turnRank_3 : decode b_M_turnRank 3 = .ok (.iload_n 1, 1) := by decide +kernel
theorem d_M_turnRank_4 : decode b_M_turnRank 4 = .ok (.iload_n 2, 1) := by decide +kernel
theorem d_M_turnRank_5 : decode b_M_turnRank 5 = .ok (.imul, 1) := by decide +kernel
theorem d_M_turnRank_6 : decode b_M_turnRank 6 = .ok (.isub, 1) := by decide +kernel
theorem d_M_turnRank_7 : decode b_M_turnRank 7 = .ok (.istore 4, 2) := by decide +kernel
theorem d_M_turnRank_9 : decode b_M_turnRank 9 = .ok (.iload 4, 2) := by decide +kernel
theorem d_M_turnRank_11 : decode b_M_turnRank 11 = .ok (.ifCond .eq 14, 3) := by decide +kernel
theorem d_M_turnRank_14 : decode b_M_turnRank 14 = .ok (.iload 4, 2) := by decide +kernel
theorem d_M_turnRank_16 : decode b_M_turnRank 16 = .ok (.ifCond .le 7, 3) := by decide +kernel
theorem d_M_turnRank_19 : decode b_M_turnRank 19 = .ok (.iconst 1, 1) := by decide +kernel
theorem d_M_turnRank_20 : decode b_M_turnRank 20 = .ok (.goto 4, 3) := by decide +kernel
theorem d_M_turnRank_23 : decode b_M_turnRank 23 = .ok (.iconst 3, 1) := by decide +kernel
theorem d_M_turnRank_24 : decode b_M_turnRank 24 = .ok (.ireturn, 1) := by decide +kernel
theorem d_M_turnRank_25 : decode b_M_turnRank 25 = .ok (.iload_n 0, 1) := by decide +kernel
theorem d_M_turnRank_26 : decode b_M_turnRank 26 = .ok (.iload_n 2, 1) := by decide +kernel
theorem d_M_turnRank_27 : decode b_M_turnRank 27 = .ok (.imul, 1) := by decide +kernel
theorem d_M_turnRank_28 : decode b_M_turnRank 28 = .ok (.iload_n 1, 1) := by decide +kernel
theorem d_M_turnRank_29 : decode b_M_turnRank 29 = .ok (.iload_n 3, 1) := by decide +kernel
theorem d_M_turnRank_30 : decode b_M_turnRank 30 = .ok (.imul, 1) := by decide +kernel
theorem d_M_turnRank_31 : decode b_M_turnRank 31 = .ok (.iadd, 1) := by decide +kernel
theorem d_M_turnRank_32 : decode b_M_turnRank 32 = .ok (.ifCond .ge 7, 3) := by decide +kernel
theorem d_M_turnRank_35 : decode b_M_turnRank 35 = .ok (.iconst 2, 1) := by decide +kernel
theorem d_M_turnRank_36 : decode b_M_turnRank 36 = .ok (.goto 4, 3) := by decide +kernel
theorem d_M_turnRank_39 : decode b_M_turnRank 39 = .ok (.iconst 4, 1) := by decide +kernel
theorem d_M_turnRank_40 : decode b_M_turnRank 40 = .ok (.ireturn, 1) := by decide +kernel
theorem d_M_sweep_0 : decode b_M_sweep 0 = .ok (.aload_n 0, 1) := by decide +kernel
theorem d_M_sweep_1 : decode b_M_sweep 1 = .ok (.getfield 15, 3) := by decide +kernel
theorem d_M_sweep_4 : decode b_M_sweep 4 = .ok (.iload_n 1, 1) := by decide +kernel
theorem d_M_sweep_5 : decode b_M_sweep 5 = .ok (.iaload, 1) := by decide +kernel
theorem d_M_sweep_6 : decode b_M_sweep 6 = .ok (.aload_n 0, 1) := by decide +kernel
theorem d_M_sweep_7 : decode b_M_sweep 7 = .ok (.getfield 19, 3) := by decide +kernel
theorem d_M_sweep_10 : decode b_M_sweep 10 = .ok (.iload_n 1, 1) := by decide +kernel
theorem d_M_sweep_11 : decode b_M_sweep 11 = .ok (.iaload, 1) := by decide +kernel
theorem d_M_sweep_12 : decode b_M_sweep 12 = .ok (.aload_n 0, 1) := by decide +kernel
theorem d_M_sweep_13 : decode b_M_sweep 13 = .ok (.getfield 15, 3) := by decide +kernel
theorem d_M_sweep_16 : decode b_M_sweep 16 = .ok (.iload_n 1, 1) := by decide +kernel
theorem d_M_sweep_17 : decode b_M_sweep 17 = .ok (.iconst 1, 1) := by decide +kernel
theorem d_M_sweep_18 : decode b_M_sweep 18 = .ok (.ixor, 1) := by decide +kernel
theorem d_M_sweep_19 : decode b_M_sweep 19 = .ok (.iaload, 1) := by decide +kernel
theorem d_M_sweep_20 : decode b_M_sweep 20 = .ok (.aload_n 0, 1) := by decide +kernel
theorem d_M_sweep_21 : decode b_M_sweep 21 = .ok (.getfield 19, 3) := by decide +kernel
theorem d_M_sweep_24 : decode b_M_sweep 24 = .ok (.iload_n 1, 1) := by decide +kernel
theorem d_M_sweep_25 : decode b_M_sweep 25 = .ok (.iconst 1, 1) := by decide +kernel
theorem d_M_sweep_26 : decode b_M_sweep 26 = .ok (.ixor, 1) := by decide +kernel
theorem d_M_sweep_27 : decode b_M_sweep 27 = .ok (.iaload, 1) := by decide +kernel
theorem d_M_sweep_28 : decode b_M_sweep 28 = .ok (.invokestatic 53, 3) := by decide +kernel
theorem d_M_sweep_31 : decode b_M_sweep 31 = .ok (.ireturn, 1) := by decide +kernel
theorem d_M_cross_0 : decode b_M_cross 0 = .ok (.iload_n 0, 1) := by decide +kernel
theorem d_M_cross_1 : decode b_M_cross 1 = .ok (.iload_n 3, 1) := by decide +kernel
theorem d_M_cross_2 : decode b_M_cross 2 = .ok (.imul, 1) := by decide +kernel
theorem d_M_cross_3 : decode b_M_cross 3 = .ok (.iload_n 1, 1) := by decide +kernel
theorem d_M_cross_4 : decode b_M_cross 4 = .ok (.iload_n 2, 1) := by decide +kernel
theorem d_M_cross_5 : decode b_M_cross 5 = .ok (.imul, 1) := by decide +kernel
theorem d_M_cross_6 : decode b_M_cross 6 = .ok (.isub, 1) := by decide +kernel
theorem d_M_cross_7 : decode b_M_cross 7 = .ok (.ireturn, 1) := by decide +kernel
