theorem d_A_init_0 : decode b_A_init 0 = .ok (.aload_n 0, 1) := by decide +kernel
theorem d_A_init_1 : decode b_A_init 1 = .ok (.invokespecial 3, 3) := by decide +kernel
theorem d_A_init_4 : decode b_A_init 4 = .ok (.aload_n 0, 1) := by decide +kernel
theorem d_A_init_5 : decode b_A_init 5 = .ok (.new 9, 3) := by decide +kernel
theorem d_A_init_8 : decode b_A_init 8 = .ok (.dup, 1) := by decide +kernel
theorem d_A_init_9 : decode b_A_init 9 = .ok (.invokespecial 11, 3) := by decide +kernel
theorem d_A_init_12 : decode b_A_init 12 = .ok (.putfield 12, 3) := by decide +kernel
theorem d_A_init_15 : decode b_A_init 15 = .ok (.aload_n 0, 1) := by decide +kernel
theorem d_A_init_16 : decode b_A_init 16 = .ok (.new 16, 3) := by decide +kernel
theorem d_A_init_19 : decode b_A_init 19 = .ok (.dup, 1) := by decide +kernel
theorem d_A_init_20 : decode b_A_init 20 = .ok (.bipush 41, 2) := by decide +kernel
theorem d_A_init_22 : decode b_A_init 22 = .ok (.invokespecial 18, 3) := by decide +kernel
theorem d_A_init_25 : decode b_A_init 25 = .ok (.putfield 21, 3) := by decide +kernel
theorem d_A_init_28 : decode b_A_init 28 = .ok (.aload_n 0, 1) := by decide +kernel
theorem d_A_init_29 : decode b_A_init 29 = .ok (.new 16, 3) := by decide +kernel
theorem d_A_init_32 : decode b_A_init 32 = .ok (.dup, 1) := by decide +kernel
theorem d_A_init_33 : decode b_A_init 33 = .ok (.bipush 20, 2) := by decide +kernel
theorem d_A_init_35 : decode b_A_init 35 = .ok (.invokespecial 18, 3) := by decide +kernel
theorem d_A_init_38 : decode b_A_init 38 = .ok (.putfield 25, 3) := by decide +kernel
theorem d_A_init_41 : decode b_A_init 41 = .ok (.return_, 1) := by decide +kernel
theorem d_A_add_0 : decode b_A_add 0 = .ok (.iload_n 1, 1) := by decide +kernel
theorem d_A_add_1 : decode b_A_add 1 = .ok (.iload_n 2, 1) := by decide +kernel
theorem d_A_add_2 : decode b_A_add 2 = .ok (.invokestatic 28, 3) := by decide +kernel
theorem d_A_add_5 : decode b_A_add 5 = .ok (.ifCond .eq 23, 3) := by decide +kernel
theorem d_A_add_8 : decode b_A_add 8 = .ok (.iload_n 3, 1) := by decide +kernel
theorem d_A_add_9 : decode b_A_add 9 = .ok (.iload 4, 2) := by decide +kernel
theorem d_A_add_11 : decode b_A_add 11 = .ok (.invokestatic 28, 3) := by decide +kernel
theorem d_A_add_14 : decode b_A_add 14 = .ok (.ifCond .eq 14, 3) := by decide +kernel
theorem d_A_add_17 : decode b_A_add 17 = .ok (.iload_n 1, 1) := by decide +kernel
theorem d_A_add_18 : decode b_A_add 18 = .ok (.iload_n 3, 1) := by decide +kernel
theorem d_A_add_19 : decode b_A_add 19 = .ok (.if_icmp .ne 12, 3) := by decide +kernel
theorem d_A_add_22 : decode b_A_add 22 = .ok (.iload_n 2, 1) := by decide +kernel
theorem d_A_add_23 : decode b_A_add 23 = .ok (.iload 4, 2) := by decide +kernel
theorem d_A_add_25 : decode b_A_add 25 = .ok (.if_icmp .ne 6, 3) := by decide +kernel
theorem d_A_add_28 : decode b_A_add 28 = .ok (.bipush (-2), 2) := by decide +kernel
theorem d_A_add_30 : decode b_A_add 30 = .ok (.ireturn, 1) := by decide +kernel
theorem d_A_add_31 : decode b_A_add 31 = .ok (.aload_n 0, 1) := by decide +kernel
theorem d_A_add_32 : decode b_A_add 32 = .ok (.getfield 12, 3) := by decide +kernel
theorem d_A_add_35 : decode b_A_add 35 = .ok (.invokevirtual 32, 3) := by decide +kernel
theorem d_A_add_38 : decode b_A_add 38 = .ok (.istore 5, 2) := by decide +kernel
theorem d_A_add_40 : decode b_A_add 40 = .ok (.iload 5, 2) := by decide +kernel
theorem d_A_add_42 : decode b_A_add 42 = .ok (.iconst (-1), 1) := by decide +kernel
theorem d_A_add_43 : decode b_A_add 43 = .ok (.if_icmp .ne 6, 3) := by decide +kernel
theorem d_A_add_46 : decode b_A_add 46 = .ok (.bipush (-3), 2) := by decide +kernel
theorem d_A_add_48 : decode b_A_add 48 = .ok (.ireturn, 1) := by decide +kernel
theorem d_A_add_49 : decode b_A_add 49 = .ok (.aload_n 0, 1) := by decide +kernel
theorem d_A_add_50 : decode b_A_add 50 = .ok (.getfield 12, 3) := by decide +kernel
theorem d_A_add_53 : decode b_A_add 53 = .ok (.iload 5, 2) := by decide +kernel
theorem d_A_add_55 : decode b_A_add 55 = .ok (.iload_n 1, 1) := by decide +kernel
theorem d_A_add_56 : decode b_A_add 56 = .ok (.iload_n 2, 1) := by decide +kernel
theorem d_A_add_57 : decode b_A_add 57 = .ok (.iload_n 3, 1) := by decide +kernel
theorem d_A_add_58 : decode b_A_add 58 = .ok (.iload 4, 2) := by decide +kernel
theorem d_A_add_60 : decode b_A_add 60 = .ok (.invokevirtual 36, 3) := by decide +kernel
theorem d_A_add_63 : decode b_A_add 63 = .ok (.aload_n 0, 1) := by decide +kernel
theorem d_A_add_64 : decode b_A_add 64 = .ok (.getfield 12, 3) := by decide +kernel
theorem d_A_add_67 : decode b_A_add 67 = .ok (.iload 5, 2) := by decide +kernel
theorem d_A_add_69 : decode b_A_add 69 = .ok (.invokevirtual 40, 3) := by decide +kernel
theorem d_A_add_72 : decode b_A_add 72 = .ok (.istore 6, 2) := by decide +kernel
theorem d_A_add_74 : decode b_A_add 74 = .ok (.iload 6, 2) := by decide +kernel
theorem d_A_add_76 : decode b_A_add 76 = .ok (.iconst (-1), 1) := by decide +kernel
theorem d_A_add_77 : decode b_A_add 77 = .ok (.if_icmp .eq 9, 3) := by decide +kernel
theorem d_A_add_80 : decode b_A_add 80 = .ok (.bipush (-10), 2) := by decide +kernel
theorem d_A_add_82 : decode b_A_add 82 = .ok (.iload 6, 2) := by decide +kernel
theorem d_A_add_84 : decode b_A_add 84 = .ok (.isub, 1) := by decide +kernel
theorem d_A_add_85 : decode b_A_add 85 = .ok (.ireturn, 1) := by decide +kernel
theorem d_A_add_86 : decode b_A_add 86 = .ok (.aload_n 0, 1) := by decide +kernel
theorem d_A_add_87 : decode b_A_add 87 = .ok (.getfield 12, 3) := by decide +kernel
theorem d_A_add_90 : decode b_A_add 90 = .ok (.iload 5, 2) := by decide +kernel
theorem d_A_add_92 : decode b_A_add 92 = .ok (.iconst 1, 1) := by decide +kernel
theorem d_A_add_93 : decode b_A_add 93 = .ok (.invokevirtual 44, 3) := by decide +kernel
theorem d_A_add_96 : decode b_A_add 96 = .ok (.aload_n 0, 1) := by decide +kernel
theorem d_A_add_97 : decode b_A_add 97 = .ok (.invokevirtual 48, 3) := by decide +kernel
theorem d_A_add_100 : decode b_A_add 100 = .ok (.iload 5, 2) := by decide +kernel
theorem d_A_add_102 : decode b_A_add 102 = .ok (.ireturn, 1) := by decide +kernel
theorem d_A_remove_0 : decode b_A_remove 0 = .ok (.aload_n 0, 1) := by decide +kernel
theorem d_A_remove_1 : decode b_A_remove 1 = .ok (.getfield 12, 3) := by decide +kernel
theorem d_A_remove_4 : decode b_A_remove 4 = .ok (.iload_n 1, 1) := by decide +kernel
theorem d_A_remove_5 : decode b_A_remove 5 = .ok (.invokevirtual 51, 3) := by decide +kernel
theorem d_A_remove_8 : decode b_A_remove 8 = .ok (.ifCond .ne 5, 3) := by decide +kernel
theorem d_A_remove_11 : decode b_A_remove 11 = .ok (.iconst 0, 1) := by decide +kernel
theorem d_A_remove_12 : decode b_A_remove 12 = .ok (.ireturn, 1) := by decide +kernel
theorem d_A_remove_13 : decode b_A_remove 13 = .ok (.aload_n 0, 1) := by decide +kernel
theorem d_A_remove_14 : decode b_A_remove 14 = .ok (.getfield 12, 3) := by decide +kernel
theorem d_A_remove_17 : decode b_A_remove 17 = .ok (.iload_n 1, 1) := by decide +kernel
theorem d_A_remove_18 : decode b_A_remove 18 = .ok (.iconst 0, 1) := by decide +kernel
theorem d_A_remove_19 : decode b_A_remove 19 = .ok (.invokevirtual 44, 3) := by decide +kernel
theorem d_A_remove_22 : decode b_A_remove 22 = .ok (.aload_n 0, 1) := by decide +kernel
theorem d_A_remove_23 : decode b_A_remove 23 = .ok (.invokevirtual 48, 3) := by decide +kernel
theorem d_A_remove_26 : decode b_A_remove 26 = .ok (.iconst 1, 1) := by decide +kernel
theorem d_A_remove_27 : decode b_A_remove 27 = .ok (.ireturn, 1) := by decide +kernel
theorem d_A_segments_0 : decode b_A_segments 0 = .ok (.iconst 0, 1) := by decide +kernel
theorem d_A_segments_1 : decode b_A_segments 1 = .ok (.istore_n 1, 1) := by decide +kernel
theorem d_A_segments_2 : decode b_A_segments 2 = .ok (.iconst 0, 1) := by decide +kernel
theorem d_A_segments_3 : decode b_A_segments 3 = .ok (.istore_n 2, 1) := by decide +kernel
theorem d_A_segments_4 : decode b_A_segments 4 = .ok (.iload_n 2, 1) := by decide +kernel
theorem d_A_segments_5 : decode b_A_segments 5 = .ok (.bipush 20, 2) := by decide +kernel
theorem d_A_segments_7 : decode b_A_segments 7 = .ok (.if_icmp .ge 23, 3) := by decide +kernel
theorem d_A_segments_10 : decode b_A_segments 10 = .ok (.aload_n 0, 1) := by decide +kernel
theorem d_A_segments_11 : decode b_A_segments 11 = .ok (.getfield 12, 3) := by decide +kernel
theorem d_A_segments_14 : decode b_A_segments 14 = .ok (.iload_n 2, 1) := by decide +kernel
theorem d_A_segments_15 : decode b_A_segments 15 = .ok (.invokevirtual 51, 3) := by decide +kernel
theorem d_A_segments_18 : decode b_A_segments 18 = .ok (.ifCond .eq 6, 3) := by decide +kernel
theorem d_A_segments_21 : decode b_A_segments 21 = .ok (.iinc 1 1, 3) := by decide +kernel
theorem d_A_segments_24 : decode b_A_segments 24 = .ok (.iinc 2 1, 3) := by decide +kernel
theorem d_A_segments_27 : decode b_A_segments 27 = .ok (.goto (-23), 3) := by decide +kernel
theorem d_A_segments_30 : decode b_A_segments 30 = .ok (.iload_n 1, 1) := by decide +kernel
theorem d_A_segments_31 : decode b_A_segments 31 = .ok (.ireturn, 1) := by decide +kernel
theorem d_A_vertices_0 : decode b_A_vertices 0 = .ok (.iconst 0, 1) := by decide +kernel
theorem d_A_vertices_1 : decode b_A_vertices 1 = .ok (.istore_n 1, 1) := by decide +kernel
theorem d_A_vertices_2 : decode b_A_vertices 2 = .ok (.iconst 0, 1) := by decide +kernel
theorem d_A_vertices_3 : decode b_A_vertices 3 = .ok (.istore_n 2, 1) := by decide +kernel
theorem d_A_vertices_4 : decode b_A_vertices 4 = .ok (.iload_n 2, 1) := by decide +kernel
theorem d_A_vertices_5 : decode b_A_vertices 5 = .ok (.bipush 40, 2) := by decide +kernel
theorem d_A_vertices_7 : decode b_A_vertices 7 = .ok (.if_icmp .ge 34, 3) := by decide +kernel
theorem d_A_vertices_10 : decode b_A_vertices 10 = .ok (.aload_n 0, 1) := by decide +kernel
theorem d_A_vertices_11 : decode b_A_vertices 11 = .ok (.getfield 12, 3) := by decide +kernel
theorem d_A_vertices_14 : decode b_A_vertices 14 = .ok (.iload_n 2, 1) := by decide +kernel
theorem d_A_vertices_15 : decode b_A_vertices 15 = .ok (.invokevirtual 55, 3) := by decide +kernel
theorem d_A_vertices_18 : decode b_A_vertices 18 = .ok (.ifCond .eq 17, 3) := by decide +kernel
theorem d_A_vertices_21 : decode b_A_vertices 21 = .ok (.aload_n 0, 1) := by decide +kernel
theorem d_A_vertices_22 : decode b_A_vertices 22 = .ok (.getfield 12, 3) := by decide +kernel
theorem d_A_vertices_25 : decode b_A_vertices 25 = .ok (.iload_n 2, 1) := by decide +kernel
theorem d_A_vertices_26 : decode b_A_vertices 26 = .ok (.invokevirtual 58, 3) := by decide +kernel
theorem d_A_vertices_29 : decode b_A_vertices 29 = .ok (.ifCond .eq 6, 3) := by decide +kernel
theorem d_A_vertices_32 : decode b_A_vertices 32 = .ok (.iinc 1 1, 3) := by decide +kernel
theorem d_A_vertices_35 : decode b_A_vertices 35 = .ok (.iinc 2 1, 3) := by decide +kernel
theorem d_A_vertices_38 : decode b_A_vertices 38 = .ok (.goto (-34), 3) := by decide +kernel
theorem d_A_vertices_41 : decode b_A_vertices 41 = .ok (.iload_n 1, 1) := by decide +kernel
theorem d_A_vertices_42 : decode b_A_vertices 42 = .ok (.ireturn, 1) := by decide +kernel
theorem d_A_parts_0 : decode b_A_parts 0 = .ok (.iconst 0, 1) := by decide +kernel
theorem d_A_parts_1 : decode b_A_parts 1 = .ok (.istore_n 1, 1) := by decide +kernel
theorem d_A_parts_2 : decode b_A_parts 2 = .ok (.iconst 0, 1) := by decide +kernel
theorem d_A_parts_3 : decode b_A_parts 3 = .ok (.istore_n 2, 1) := by decide +kernel
theorem d_A_parts_4 : decode b_A_parts 4 = .ok (.iload_n 2, 1) := by decide +kernel
theorem d_A_parts_5 : decode b_A_parts 5 = .ok (.bipush 20, 2) := by decide +kernel
theorem d_A_parts_7 : decode b_A_parts 7 = .ok (.if_icmp .ge 34, 3) := by decide +kernel
theorem d_A_parts_10 : decode b_A_parts 10 = .ok (.aload_n 0, 1) := by decide +kernel
theorem d_A_parts_11 : decode b_A_parts 11 = .ok (.getfield 12, 3) := by decide +kernel
theorem d_A_parts_14 : decode b_A_parts 14 = .ok (.iload_n 2, 1) := by decide +kernel
theorem d_A_parts_15 : decode b_A_parts 15 = .ok (.invokevirtual 51, 3) := by decide +kernel
theorem d_A_parts_18 : decode b_A_parts 18 = .ok (.ifCond .eq 17, 3) := by decide +kernel
theorem d_A_parts_21 : decode b_A_parts 21 = .ok (.aload_n 0, 1) := by decide +kernel
theorem d_A_parts_22 : decode b_A_parts 22 = .ok (.getfield 25, 3) := by decide +kernel
theorem d_A_parts_25 : decode b_A_parts 25 = .ok (.iload_n 2, 1) := by decide +kernel
theorem d_A_parts_26 : decode b_A_parts 26 = .ok (.invokevirtual 61, 3) := by decide +kernel
theorem d_A_parts_29 : decode b_A_parts 29 = .ok (.ifCond .eq 6, 3) := by decide +kernel
theorem d_A_parts_32 : decode b_A_parts 32 = .ok (.iinc 1 1, 3) := by decide +kernel
theorem d_A_parts_35 : decode b_A_parts 35 = .ok (.iinc 2 1, 3) := by decide +kernel
theorem d_A_parts_38 : decode b_A_parts 38 = .ok (.goto (-34), 3) := by decide +kernel
theorem d_A_parts_41 : decode b_A_parts 41 = .ok (.iload_n 1, 1) := by decide +kernel
theorem d_A_parts_42 : decode b_A_parts 42 = .ok (.ireturn, 1) := by decide +kernel
theorem d_A_faces_0 : decode b_A_faces 0 = .ok (.aload_n 0, 1) := by decide +kernel
theorem d_A_faces_1 : decode b_A_faces 1 = .ok (.getfield 21, 3) := by decide +kernel
theorem d_A_faces_4 : decode b_A_faces 4 = .ok (.bipush 40, 2) := by decide +kernel
theorem d_A_faces_6 : decode b_A_faces 6 = .ok (.invokevirtual 61, 3) := by decide +kernel
theorem d_A_faces_9 : decode b_A_faces 9 = .ok (.ifCond .eq 7, 3) := by decide +kernel
theorem d_A_faces_12 : decode b_A_faces 12 = .ok (.iconst 1, 1) := by decide +kernel
theorem d_A_faces_13 : decode b_A_faces 13 = .ok (.goto 4, 3) := by decide +kernel
theorem d_A_faces_16 : decode b_A_faces 16 = .ok (.iconst 0, 1) := by decide +kernel
theorem d_A_faces_17 : decode b_A_faces 17 = .ok (.istore_n 1, 1) := by decide +kernel
theorem d_A_faces_18 : decode b_A_faces 18 = .ok (.iconst 0, 1) := by decide +kernel
theorem d_A_faces_19 : decode b_A_faces 19 = .ok (.istore_n 2, 1) := by decide +kernel
theorem d_A_faces_20 : decode b_A_faces 20 = .ok (.iload_n 2, 1) := by decide +kernel
theorem d_A_faces_21 : decode b_A_faces 21 = .ok (.bipush 40, 2) := by decide +kernel
theorem d_A_faces_23 : decode b_A_faces 23 = .ok (.if_icmp .ge 34, 3) := by decide +kernel
theorem d_A_faces_26 : decode b_A_faces 26 = .ok (.aload_n 0, 1) := by decide +kernel
theorem d_A_faces_27 : decode b_A_faces 27 = .ok (.getfield 12, 3) := by decide +kernel
theorem d_A_faces_30 : decode b_A_faces 30 = .ok (.iload_n 2, 1) := by decide +kernel
theorem d_A_faces_31 : decode b_A_faces 31 = .ok (.invokevirtual 55, 3) := by decide +kernel
theorem d_A_faces_34 : decode b_A_faces 34 = .ok (.ifCond .eq 17, 3) := by decide +kernel
theorem d_A_faces_37 : decode b_A_faces 37 = .ok (.aload_n 0, 1) := by decide +kernel
theorem d_A_faces_38 : decode b_A_faces 38 = .ok (.getfield 21, 3) := by decide +kernel
theorem d_A_faces_41 : decode b_A_faces 41 = .ok (.iload_n 2, 1) := by decide +kernel
theorem d_A_faces_42 : decode b_A_faces 42 = .ok (.invokevirtual 61, 3) := by decide +kernel
theorem d_A_faces_45 : decode b_A_faces 45 = .ok (.ifCond .eq 6, 3) := by decide +kernel
theorem d_A_faces_48 : decode b_A_faces 48 = .ok (.iinc 1 1, 3) := by decide +kernel
theorem d_A_faces_51 : decode b_A_faces 51 = .ok (.iinc 2 1, 3) := by decide +kernel
theorem d_A_faces_54 : decode b_A_faces 54 = .ok (.goto (-34), 3) := by decide +kernel
theorem d_A_faces_57 : decode b_A_faces 57 = .ok (.iload_n 1, 1) := by decide +kernel
theorem d_A_faces_58 : decode b_A_faces 58 = .ok (.ireturn, 1) := by decide +kernel
theorem d_A_find_0 : decode b_A_find 0 = .ok (.iload_n 1, 1) := by decide +kernel
theorem d_A_find_1 : decode b_A_find 1 = .ok (.iload_n 2, 1) := by decide +kernel
theorem d_A_find_2 : decode b_A_find 2 = .ok (.invokestatic 28, 3) := by decide +kernel
theorem d_A_find_5 : decode b_A_find 5 = .ok (.ifCond .ne 6, 3) := by decide +kernel
theorem d_A_find_8 : decode b_A_find 8 = .ok (.bipush (-2), 2) := by decide +kernel
theorem d_A_find_10 : decode b_A_find 10 = .ok (.ireturn, 1) := by decide +kernel
theorem d_A_find_11 : decode b_A_find 11 = .ok (.aload_n 0, 1) := by decide +kernel
theorem d_A_find_12 : decode b_A_find 12 = .ok (.getfield 12, 3) := by decide +kernel
theorem d_A_find_15 : decode b_A_find 15 = .ok (.iload_n 1, 1) := by decide +kernel
theorem d_A_find_16 : decode b_A_find 16 = .ok (.iload_n 2, 1) := by decide +kernel
theorem d_A_find_17 : decode b_A_find 17 = .ok (.invokevirtual 64, 3) := by decide +kernel
theorem d_A_find_20 : decode b_A_find 20 = .ok (.istore_n 3, 1) := by decide +kernel
theorem d_A_find_21 : decode b_A_find 21 = .ok (.iload_n 3, 1) := by decide +kernel
theorem d_A_find_22 : decode b_A_find 22 = .ok (.ifCond .le 9, 3) := by decide +kernel
theorem d_A_find_25 : decode b_A_find 25 = .ok (.sipush 200, 3) := by decide +kernel
theorem d_A_find_28 : decode b_A_find 28 = .ok (.iload_n 3, 1) := by decide +kernel
theorem d_A_find_29 : decode b_A_find 29 = .ok (.iadd, 1) := by decide +kernel
theorem d_A_find_30 : decode b_A_find 30 = .ok (.ireturn, 1) := by decide +kernel
theorem d_A_find_31 : decode b_A_find 31 = .ok (.aload_n 0, 1) := by decide +kernel
theorem d_A_find_32 : decode b_A_find 32 = .ok (.getfield 12, 3) := by decide +kernel
theorem d_A_find_35 : decode b_A_find 35 = .ok (.iload_n 1, 1) := by decide +kernel
theorem d_A_find_36 : decode b_A_find 36 = .ok (.iload_n 2, 1) := by decide +kernel
theorem d_A_find_37 : decode b_A_find 37 = .ok (.invokevirtual 68, 3) := by decide +kernel
theorem d_A_find_40 : decode b_A_find 40 = .ok (.istore 4, 2) := by decide +kernel
theorem d_A_find_42 : decode b_A_find 42 = .ok (.iload 4, 2) := by decide +kernel
theorem d_A_find_44 : decode b_A_find 44 = .ok (.iconst (-1), 1) := by decide +kernel
theorem d_A_find_45 : decode b_A_find 45 = .ok (.if_icmp .eq 11, 3) := by decide +kernel
theorem d_A_find_48 : decode b_A_find 48 = .ok (.bipush 100, 2) := by decide +kernel
theorem d_A_find_50 : decode b_A_find 50 = .ok (.iload 4, 2) := by decide +kernel
theorem d_A_find_52 : decode b_A_find 52 = .ok (.iadd, 1) := by decide +kernel
theorem d_A_find_53 : decode b_A_find 53 = .ok (.goto 12, 3) := by decide +kernel
theorem d_A_find_56 : decode b_A_find 56 = .ok (.aload_n 0, 1) := by decide +kernel
theorem d_A_find_57 : decode b_A_find 57 = .ok (.getfield 12, 3) := by decide +kernel
theorem d_A_find_60 : decode b_A_find 60 = .ok (.iload_n 1, 1) := by decide +kernel
theorem d_A_find_61 : decode b_A_find 61 = .ok (.iload_n 2, 1) := by decide +kernel
theorem d_A_find_62 : decode b_A_find 62 = .ok (.invokevirtual 71, 3) := by decide +kernel
theorem d_A_find_65 : decode b_A_find 65 = .ok (.ireturn, 1) := by decide +kernel
theorem d_A_same_0 : decode b_A_same 0 = .ok (.aload_n 0, 1) := by decide +kernel
theorem d_A_same_1 : decode b_A_same 1 = .ok (.iload_n 1, 1) := by decide +kernel
theorem d_A_same_2 : decode b_A_same 2 = .ok (.iload_n 2, 1) := by decide +kernel
theorem d_A_same_3 : decode b_A_same 3 = .ok (.invokevirtual 74, 3) := by decide +kernel
theorem d_A_same_6 : decode b_A_same 6 = .ok (.istore 5, 2) := by decide +kernel
theorem d_A_same_8 : decode b_A_same 8 = .ok (.aload_n 0, 1) := by decide +kernel
theorem d_A_same_9 : decode b_A_same 9 = .ok (.iload_n 3, 1) := by decide +kernel
theorem d_A_same_10 : decode b_A_same 10 = .ok (.iload 4, 2) := by decide +kernel
theorem d_A_same_12 : decode b_A_same 12 = .ok (.invokevirtual 74, 3) := by decide +kernel
theorem d_A_same_15 : decode b_A_same 15 = .ok (.istore 6, 2) := by decide +kernel
theorem d_A_same_17 : decode b_A_same 17 = .ok (.iload 5, 2) := by decide +kernel
theorem d_A_same_19 : decode b_A_same 19 = .ok (.ifCond .lt 26, 3) := by decide +kernel
theorem d_A_same_22 : decode b_A_same 22 = .ok (.iload 6, 2) := by decide +kernel
theorem d_A_same_24 : decode b_A_same 24 = .ok (.ifCond .lt 21, 3) := by decide +kernel
theorem d_A_same_27 : decode b_A_same 27 = .ok (.aload_n 0, 1) := by decide +kernel
theorem d_A_same_28 : decode b_A_same 28 = .ok (.getfield 21, 3) := by decide +kernel
theorem d_A_same_31 : decode b_A_same 31 = .ok (.iload 5, 2) := by decide +kernel
theorem d_A_same_33 : decode b_A_same 33 = .ok (.iload 6, 2) := by decide +kernel
theorem d_A_same_35 : decode b_A_same 35 = .ok (.invokevirtual 77, 3) := by decide +kernel
theorem d_A_same_38 : decode b_A_same 38 = .ok (.ifCond .eq 7, 3) := by decide +kernel
theorem d_A_same_41 : decode b_A_same 41 = .ok (.iconst 1, 1) := by decide +kernel
theorem d_A_same_42 : decode b_A_same 42 = .ok (.goto 4, 3) := by decide +kernel
theorem d_A_same_45 : decode b_A_same 45 = .ok (.iconst 0, 1) := by decide +kernel
theorem d_A_same_46 : decode b_A_same 46 = .ok (.ireturn, 1) := by decide +kernel
theorem d_A_area_0 : decode b_A_area 0 = .ok (.aload_n 0, 1) := by decide +kernel
theorem d_A_area_1 : decode b_A_area 1 = .ok (.iload_n 1, 1) := by decide +kernel
theorem d_A_area_2 : decode b_A_area 2 = .ok (.iload_n 2, 1) := by decide +kernel
theorem d_A_area_3 : decode b_A_area 3 = .ok (.invokevirtual 74, 3) := by decide +kernel
theorem d_A_area_6 : decode b_A_area 6 = .ok (.istore_n 3, 1) := by decide +kernel
theorem d_A_area_7 : decode b_A_area 7 = .ok (.iload_n 3, 1) := by decide +kernel
theorem d_A_area_8 : decode b_A_area 8 = .ok (.ifCond .ge 5, 3) := by decide +kernel
theorem d_A_area_11 : decode b_A_area 11 = .ok (.iload_n 3, 1) := by decide +kernel
theorem d_A_area_12 : decode b_A_area 12 = .ok (.ireturn, 1) := by decide +kernel
theorem d_A_area_13 : decode b_A_area 13 = .ok (.aload_n 0, 1) := by decide +kernel
theorem d_A_area_14 : decode b_A_area 14 = .ok (.getfield 21, 3) := by decide +kernel
theorem d_A_area_17 : decode b_A_area 17 = .ok (.iload_n 3, 1) := by decide +kernel
theorem d_A_area_18 : decode b_A_area 18 = .ok (.bipush 40, 2) := by decide +kernel
theorem d_A_area_20 : decode b_A_area 20 = .ok (.invokevirtual 77, 3) := by decide +kernel
theorem d_A_area_23 : decode b_A_area 23 = .ok (.ifCond .eq 5, 3) := by decide +kernel
theorem d_A_area_26 : decode b_A_area 26 = .ok (.iconst 0, 1) := by decide +kernel
theorem d_A_area_27 : decode b_A_area 27 = .ok (.ireturn, 1) := by decide +kernel
theorem d_A_area_28 : decode b_A_area 28 = .ok (.iconst 0, 1) := by decide +kernel
theorem d_A_area_29 : decode b_A_area 29 = .ok (.istore 4, 2) := by decide +kernel
theorem d_A_area_31 : decode b_A_area 31 = .ok (.iconst 0, 1) := by decide +kernel
theorem d_A_area_32 : decode b_A_area 32 = .ok (.istore 5, 2) := by decide +kernel
theorem d_A_area_34 : decode b_A_area 34 = .ok (.iload 5, 2) := by decide +kernel
theorem d_A_area_36 : decode b_A_area 36 = .ok (.bipush 40, 2) := by decide +kernel
theorem d_A_area_38 : decode b_A_area 38 = .ok (.if_icmp .ge 48, 3) := by decide +kernel
theorem d_A_area_41 : decode b_A_area 41 = .ok (.aload_n 0, 1) := by decide +kernel
theorem d_A_area_42 : decode b_A_area 42 = .ok (.getfield 12, 3) := by decide +kernel
theorem d_A_area_45 : decode b_A_area 45 = .ok (.iload 5, 2) := by decide +kernel
theorem d_A_area_47 : decode b_A_area 47 = .ok (.invokevirtual 55, 3) := by decide +kernel
theorem d_A_area_50 : decode b_A_area 50 = .ok (.ifCond .eq 30, 3) := by decide +kernel
theorem d_A_area_53 : decode b_A_area 53 = .ok (.aload_n 0, 1) := by decide +kernel
theorem d_A_area_54 : decode b_A_area 54 = .ok (.getfield 21, 3) := by decide +kernel
theorem d_A_area_57 : decode b_A_area 57 = .ok (.iload_n 3, 1) := by decide +kernel
theorem d_A_area_58 : decode b_A_area 58 = .ok (.iload 5, 2) := by decide +kernel
theorem d_A_area_60 : decode b_A_area 60 = .ok (.invokevirtual 77, 3) := by decide +kernel
theorem d_A_area_63 : decode b_A_area 63 = .ok (.ifCond .eq 17, 3) := by decide +kernel
theorem d_A_area_66 : decode b_A_area 66 = .ok (.iload 4, 2) := by decide +kernel
theorem d_A_area_68 : decode b_A_area 68 = .ok (.aload_n 0, 1) := by decide +kernel
theorem d_A_area_69 : decode b_A_area 69 = .ok (.getfield 12, 3) := by decide +kernel
theorem d_A_area_72 : decode b_A_area 72 = .ok (.iload 5, 2) := by decide +kernel
theorem d_A_area_74 : decode b_A_area 74 = .ok (.invokevirtual 80, 3) := by decide +kernel
theorem d_A_area_77 : decode b_A_area 77 = .ok (.iadd, 1) := by decide +kernel
theorem d_A_area_78 : decode b_A_area 78 = .ok (.istore 4, 2) := by decide +kernel
theorem d_A_area_80 : decode b_A_area 80 = .ok (.iinc 5 1, 3) := by decide +kernel
theorem d_A_area_83 : decode b_A_area 83 = .ok (.goto (-49), 3) := by decide +kernel
theorem d_A_area_86 : decode b_A_area 86 = .ok (.iload 4, 2) := by decide +kernel
theorem d_A_area_88 : decode b_A_area 88 = .ok (.ireturn, 1) := by decide +kernel
theorem d_A_border_0 : decode b_A_border 0 = .ok (.aload_n 0, 1) := by decide +kernel
theorem d_A_border_1 : decode b_A_border 1 = .ok (.iload_n 1, 1) := by decide +kernel
theorem d_A_border_2 : decode b_A_border 2 = .ok (.iload_n 2, 1) := by decide +kernel
theorem d_A_border_3 : decode b_A_border 3 = .ok (.invokevirtual 74, 3) := by decide +kernel
theorem d_A_border_6 : decode b_A_border 6 = .ok (.istore_n 3, 1) := by decide +kernel
theorem d_A_border_7 : decode b_A_border 7 = .ok (.iload_n 3, 1) := by decide +kernel
theorem d_A_border_8 : decode b_A_border 8 = .ok (.ifCond .ge 5, 3) := by decide +kernel
theorem d_A_border_11 : decode b_A_border 11 = .ok (.iload_n 3, 1) := by decide +kernel
theorem d_A_border_12 : decode b_A_border 12 = .ok (.ireturn, 1) := by decide +kernel
theorem d_A_border_13 : decode b_A_border 13 = .ok (.iconst 0, 1) := by decide +kernel
theorem d_A_border_14 : decode b_A_border 14 = .ok (.istore 4, 2) := by decide +kernel
theorem d_A_border_16 : decode b_A_border 16 = .ok (.iconst 0, 1) := by decide +kernel
theorem d_A_border_17 : decode b_A_border 17 = .ok (.istore 5, 2) := by decide +kernel
theorem d_A_border_19 : decode b_A_border 19 = .ok (.iload 5, 2) := by decide +kernel
theorem d_A_border_21 : decode b_A_border 21 = .ok (.bipush 40, 2) := by decide +kernel
theorem d_A_border_23 : decode b_A_border 23 = .ok (.if_icmp .ge 37, 3) := by decide +kernel
theorem d_A_border_26 : decode b_A_border 26 = .ok (.aload_n 0, 1) := by decide +kernel
theorem d_A_border_27 : decode b_A_border 27 = .ok (.getfield 12, 3) := by decide +kernel
theorem d_A_border_30 : decode b_A_border 30 = .ok (.iload 5, 2) := by decide +kernel
theorem d_A_border_32 : decode b_A_border 32 = .ok (.invokevirtual 55, 3) := by decide +kernel
theorem d_A_border_35 : decode b_A_border 35 = .ok (.ifCond .eq 19, 3) := by decide +kernel
theorem d_A_border_38 : decode b_A_border 38 = .ok (.aload_n 0, 1) := by decide +kernel
theorem d_A_border_39 : decode b_A_border 39 = .ok (.getfield 21, 3) := by decide +kernel
theorem d_A_border_42 : decode b_A_border 42 = .ok (.iload_n 3, 1) := by decide +kernel
theorem d_A_border_43 : decode b_A_border 43 = .ok (.iload 5, 2) := by decide +kernel
theorem d_A_border_45 : decode b_A_border 45 = .ok (.invokevirtual 77, 3) := by decide +kernel
theorem d_A_border_48 : decode b_A_border 48 = .ok (.ifCond .eq 6, 3) := by decide +kernel
theorem d_A_border_51 : decode b_A_border 51 = .ok (.iinc 4 1, 3) := by decide +kernel
theorem d_A_border_54 : decode b_A_border 54 = .ok (.iinc 5 1, 3) := by decide +kernel
theorem d_A_border_57 : decode b_A_border 57 = .ok (.goto (-38), 3) := by decide +kernel
theorem d_A_border_60 : decode b_A_border 60 = .ok (.iload 4, 2) := by decide +kernel
theorem d_A_border_62 : decode b_A_border 62 = .ok (.ireturn, 1) := by decide +kernel
theorem d_A_touches_0 : decode b_A_touches 0 = .ok (.aload_n 0, 1) := by decide +kernel
theorem d_A_touches_1 : decode b_A_touches 1 = .ok (.iload_n 1, 1) := by decide +kernel
theorem d_A_touches_2 : decode b_A_touches 2 = .ok (.iload_n 2, 1) := by decide +kernel
theorem d_A_touches_3 : decode b_A_touches 3 = .ok (.invokevirtual 74, 3) := by decide +kernel
theorem d_A_touches_6 : decode b_A_touches 6 = .ok (.istore 4, 2) := by decide +kernel
theorem d_A_touches_8 : decode b_A_touches 8 = .ok (.iload 4, 2) := by decide +kernel
theorem d_A_touches_10 : decode b_A_touches 10 = .ok (.ifCond .ge 6, 3) := by decide +kernel
theorem d_A_touches_13 : decode b_A_touches 13 = .ok (.iload 4, 2) := by decide +kernel
theorem d_A_touches_15 : decode b_A_touches 15 = .ok (.ireturn, 1) := by decide +kernel
theorem d_A_touches_16 : decode b_A_touches 16 = .ok (.aload_n 0, 1) := by decide +kernel
theorem d_A_touches_17 : decode b_A_touches 17 = .ok (.getfield 12, 3) := by decide +kernel
theorem d_A_touches_20 : decode b_A_touches 20 = .ok (.iload_n 3, 1) := by decide +kernel
theorem d_A_touches_21 : decode b_A_touches 21 = .ok (.invokevirtual 51, 3) := by decide +kernel
theorem d_A_touches_24 : decode b_A_touches 24 = .ok (.ifCond .ne 5, 3) := by decide +kernel
theorem d_A_touches_27 : decode b_A_touches 27 = .ok (.iconst (-1), 1) := by decide +kernel
theorem d_A_touches_28 : decode b_A_touches 28 = .ok (.ireturn, 1) := by decide +kernel
theorem d_A_touches_29 : decode b_A_touches 29 = .ok (.aload_n 0, 1) := by decide +kernel
theorem d_A_touches_30 : decode b_A_touches 30 = .ok (.getfield 21, 3) := by decide +kernel
theorem d_A_touches_33 : decode b_A_touches 33 = .ok (.iload 4, 2) := by decide +kernel
theorem d_A_touches_35 : decode b_A_touches 35 = .ok (.iconst 2, 1) := by decide +kernel
theorem d_A_touches_36 : decode b_A_touches 36 = .ok (.iload_n 3, 1) := by decide +kernel
theorem d_A_touches_37 : decode b_A_touches 37 = .ok (.imul, 1) := by decide +kernel
theorem d_A_touches_38 : decode b_A_touches 38 = .ok (.invokevirtual 77, 3) := by decide +kernel
theorem d_A_touches_41 : decode b_A_touches 41 = .ok (.ifCond .eq 7, 3) := by decide +kernel
theorem d_A_touches_44 : decode b_A_touches 44 = .ok (.iconst 1, 1) := by decide +kernel
theorem d_A_touches_45 : decode b_A_touches 45 = .ok (.goto 4, 3) := by decide +kernel
theorem d_A_touches_48 : decode b_A_touches 48 = .ok (.iconst 0, 1) := by decide +kernel
theorem d_A_touches_49 : decode b_A_touches 49 = .ok (.istore 5, 2) := by decide +kernel
theorem d_A_touches_51 : decode b_A_touches 51 = .ok (.aload_n 0, 1) := by decide +kernel
theorem d_A_touches_52 : decode b_A_touches 52 = .ok (.getfield 21, 3) := by decide +kernel
theorem d_A_touches_55 : decode b_A_touches 55 = .ok (.iload 4, 2) := by decide +kernel
theorem d_A_touches_57 : decode b_A_touches 57 = .ok (.iconst 2, 1) := by decide +kernel
theorem d_A_touches_58 : decode b_A_touches 58 = .ok (.iload_n 3, 1) := by decide +kernel
theorem d_A_touches_59 : decode b_A_touches 59 = .ok (.imul, 1) := by decide +kernel
theorem d_A_touches_60 : decode b_A_touches 60 = .ok (.iconst 1, 1) := by decide +kernel
theorem d_A_touches_61 : decode b_A_touches 61 = .ok (.iadd, 1) := by decide +kernel
theorem d_A_touches_62 : decode b_A_touches 62 = .ok (.invokevirtual 77, 3) := by decide +kernel
theorem d_A_touches_65 : decode b_A_touches 65 = .ok (.ifCond .eq 7, 3) := by decide +kernel
theorem d_A_touches_68 : decode b_A_touches 68 = .ok (.iconst 2, 1) := by decide +kernel
theorem d_A_touches_69 : decode b_A_touches 69 = .ok (.goto 4, 3) := by decide +kernel
theorem d_A_touches_72 : decode b_A_touches 72 = .ok (.iconst 0, 1) := by decide +kernel
theorem d_A_touches_73 : decode b_A_touches 73 = .ok (.istore 6, 2) := by decide +kernel
theorem d_A_touches_75 : decode b_A_touches 75 = .ok (.iload 5, 2) := by decide +kernel
theorem d_A_touches_77 : decode b_A_touches 77 = .ok (.iload 6, 2) := by decide +kernel
theorem d_A_touches_79 : decode b_A_touches 79 = .ok (.iadd, 1) := by decide +kernel
theorem d_A_touches_80 : decode b_A_touches 80 = .ok (.ireturn, 1) := by decide +kernel
theorem d_A_isNearby_0 : decode b_A_isNearby 0 = .ok (.iload_n 0, 1) := by decide +kernel
theorem d_A_isNearby_1 : decode b_A_isNearby 1 = .ok (.bipush (-100), 2) := by decide +kernel
theorem d_A_isNearby_3 : decode b_A_isNearby 3 = .ok (.if_icmp .lt 25, 3) := by decide +kernel
theorem d_A_isNearby_6 : decode b_A_isNearby 6 = .ok (.iload_n 0, 1) := by decide +kernel
theorem d_A_isNearby_7 : decode b_A_isNearby 7 = .ok (.bipush 100, 2) := by decide +kernel
theorem d_A_isNearby_9 : decode b_A_isNearby 9 = .ok (.if_icmp .gt 19, 3) := by decide +kernel
theorem d_A_isNearby_12 : decode b_A_isNearby 12 = .ok (.iload_n 1, 1) := by decide +kernel
theorem d_A_isNearby_13 : decode b_A_isNearby 13 = .ok (.bipush (-100), 2) := by decide +kernel
theorem d_A_isNearby_15 : decode b_A_isNearby 15 = .ok (.if_icmp .lt 13, 3) := by decide +kernel
theorem d_A_isNearby_18 : decode b_A_isNearby 18 = .ok (.iload_n 1, 1) := by decide +kernel
theorem d_A_isNearby_19 : decode b_A_isNearby 19 = .ok (.bipush 100, 2) := by decide +kernel
theorem d_A_isNearby_21 : decode b_A_isNearby 21 = .ok (.if_icmp .gt 7, 3) := by decide +kernel
theorem d_A_isNearby_24 : decode b_A_isNearby 24 = .ok (.iconst 1, 1) := by decide +kernel
theorem d_A_isNearby_25 : decode b_A_isNearby 25 = .ok (.goto 4, 3) := by decide +kernel
theorem d_A_isNearby_28 : decode b_A_isNearby 28 = .ok (.iconst 0, 1) := by decide +kernel
theorem d_A_isNearby_29 : decode b_A_isNearby 29 = .ok (.ireturn, 1) := by decide +kernel
theorem d_A_sideSeenFrom_0 : decode b_A_sideSeenFrom 0 = .ok (.iload_n 1, 1) := by decide +kernel
theorem d_A_sideSeenFrom_1 : decode b_A_sideSeenFrom 1 = .ok (.iload_n 2, 1) := by decide +kernel
theorem d_A_sideSeenFrom_2 : decode b_A_sideSeenFrom 2 = .ok (.invokestatic 28, 3) := by decide +kernel
theorem d_A_sideSeenFrom_5 : decode b_A_sideSeenFrom 5 = .ok (.ifCond .ne 6, 3) := by decide +kernel
theorem d_A_sideSeenFrom_8 : decode b_A_sideSeenFrom 8 = .ok (.bipush (-2), 2) := by decide +kernel
theorem d_A_sideSeenFrom_10 : decode b_A_sideSeenFrom 10 = .ok (.ireturn, 1) := by decide +kernel
theorem d_A_sideSeenFrom_11 : decode b_A_sideSeenFrom 11 = .ok (.aload_n 0, 1) := by decide +kernel
theorem d_A_sideSeenFrom_12 : decode b_A_sideSeenFrom 12 = .ok (.getfield 12, 3) := by decide +kernel
theorem d_A_sideSeenFrom_15 : decode b_A_sideSeenFrom 15 = .ok (.iload_n 1, 1) := by decide +kernel
theorem d_A_sideSeenFrom_16 : decode b_A_sideSeenFrom 16 = .ok (.iload_n 2, 1) := by decide +kernel
theorem d_A_sideSeenFrom_17 : decode b_A_sideSeenFrom 17 = .ok (.invokevirtual 64, 3) := by decide +kernel
theorem d_A_sideSeenFrom_20 : decode b_A_sideSeenFrom 20 = .ok (.ifCond .gt 16, 3) := by decide +kernel
theorem d_A_sideSeenFrom_23 : decode b_A_sideSeenFrom 23 = .ok (.aload_n 0, 1) := by decide +kernel
theorem d_A_sideSeenFrom_24 : decode b_A_sideSeenFrom 24 = .ok (.getfield 12, 3) := by decide +kernel
theorem d_A_sideSeenFrom_27 : decode b_A_sideSeenFrom 27 = .ok (.iload_n 1, 1) := by decide +kernel
theorem d_A_sideSeenFrom_28 : decode b_A_sideSeenFrom 28 = .ok (.iload_n 2, 1) := by decide +kernel
theorem d_A_sideSeenFrom_29 : decode b_A_sideSeenFrom 29 = .ok (.invokevirtual 68, 3) := by decide +kernel
theorem d_A_sideSeenFrom_32 : decode b_A_sideSeenFrom 32 = .ok (.iconst (-1), 1) := by decide +kernel
theorem d_A_sideSeenFrom_33 : decode b_A_sideSeenFrom 33 = .ok (.if_icmp .eq 5, 3) := by decide +kernel
theorem d_A_sideSeenFrom_36 : decode b_A_sideSeenFrom 36 = .ok (.iconst (-1), 1) := by decide +kernel
theorem d_A_sideSeenFrom_37 : decode b_A_sideSeenFrom 37 = .ok (.ireturn, 1) := by decide +kernel
theorem d_A_sideSeenFrom_38 : decode b_A_sideSeenFrom 38 = .ok (.aload_n 0, 1) := by decide +kernel
theorem d_A_sideSeenFrom_39 : decode b_A_sideSeenFrom 39 = .ok (.getfield 12, 3) := by decide +kernel
theorem d_A_sideSeenFrom_42 : decode b_A_sideSeenFrom 42 = .ok (.iload_n 1, 1) := by decide +kernel
theorem d_A_sideSeenFrom_43 : decode b_A_sideSeenFrom 43 = .ok (.iload_n 2, 1) := by decide +kernel
theorem d_A_sideSeenFrom_44 : decode b_A_sideSeenFrom 44 = .ok (.invokevirtual 83, 3) := by decide +kernel
theorem d_A_sideSeenFrom_47 : decode b_A_sideSeenFrom 47 = .ok (.ireturn, 1) := by decide +kernel
theorem d_A_regroup_0 : decode b_A_regroup 0 = .ok (.aload_n 0, 1) := by decide +kernel
theorem d_A_regroup_1 : decode b_A_regroup 1 = .ok (.getfield 21, 3) := by decide +kernel
theorem d_A_regroup_4 : decode b_A_regroup 4 = .ok (.invokevirtual 86, 3) := by decide +kernel
theorem d_A_regroup_7 : decode b_A_regroup 7 = .ok (.aload_n 0, 1) := by decide +kernel
theorem d_A_regroup_8 : decode b_A_regroup 8 = .ok (.getfield 25, 3) := by decide +kernel
theorem d_A_regroup_11 : decode b_A_regroup 11 = .ok (.invokevirtual 86, 3) := by decide +kernel
theorem d_A_regroup_14 : decode b_A_regroup 14 = .ok (.iconst 0, 1) := by decide +kernel
theorem d_A_regroup_15 : decode b_A_regroup 15 = .ok (.istore_n 1, 1) := by decide +kernel
theorem d_A_regroup_16 : decode b_A_regroup 16 = .ok (.iload_n 1, 1) := by decide +kernel
theorem d_A_regroup_17 : decode b_A_regroup 17 = .ok (.bipush 40, 2) := by decide +kernel
theorem d_A_regroup_19 : decode b_A_regroup 19 = .ok (.if_icmp .ge 30, 3) := by decide +kernel
theorem d_A_regroup_22 : decode b_A_regroup 22 = .ok (.aload_n 0, 1) := by decide +kernel
theorem d_A_regroup_23 : decode b_A_regroup 23 = .ok (.getfield 12, 3) := by decide +kernel
theorem d_A_regroup_26 : decode b_A_regroup 26 = .ok (.iload_n 1, 1) := by decide +kernel
theorem d_A_regroup_27 : decode b_A_regroup 27 = .ok (.invokevirtual 55, 3) := by decide +kernel
theorem d_A_regroup_30 : decode b_A_regroup 30 = .ok (.ifCond .eq 13, 3) := by decide +kernel
theorem d_A_regroup_33 : decode b_A_regroup 33 = .ok (.aload_n 0, 1) := by decide +kernel
theorem d_A_regroup_34 : decode b_A_regroup 34 = .ok (.iload_n 1, 1) := by decide +kernel
theorem d_A_regroup_35 : decode b_A_regroup 35 = .ok (.invokevirtual 89, 3) := by decide +kernel
theorem d_A_regroup_38 : decode b_A_regroup 38 = .ok (.aload_n 0, 1) := by decide +kernel
theorem d_A_regroup_39 : decode b_A_regroup 39 = .ok (.iload_n 1, 1) := by decide +kernel
theorem d_A_regroup_40 : decode b_A_regroup 40 = .ok (.invokevirtual 92, 3) := by decide +kernel
theorem d_A_regroup_43 : decode b_A_regroup 43 = .ok (.iinc 1 1, 3) := by decide +kernel
theorem d_A_regroup_46 : decode b_A_regroup 46 = .ok (.goto (-30), 3) := by decide +kernel
theorem d_A_regroup_49 : decode b_A_regroup 49 = .ok (.return_, 1) := by decide +kernel
theorem d_A_joinWithNextAroundTail_0 : decode b_A_joinWithNextAroundTail 0 = .ok (.aload_n 0, 1) := by decide +kernel
theorem d_A_joinWithNextAroundTail_1 : decode b_A_joinWithNextAroundTail 1 = .ok (.getfield 12, 3) := by decide +kernel
theorem d_A_joinWithNextAroundTail_4 : decode b_A_joinWithNextAroundTail 4 = .ok (.iload_n 1, 1) := by decide +kernel
theorem d_A_joinWithNextAroundTail_5 : decode b_A_joinWithNextAroundTail 5 = .ok (.aload_n 0, 1) := by decide +kernel
theorem d_A_joinWithNextAroundTail_6 : decode b_A_joinWithNextAroundTail 6 = .ok (.getfield 12, 3) := by decide +kernel
theorem d_A_joinWithNextAroundTail_9 : decode b_A_joinWithNextAroundTail 9 = .ok (.iload_n 1, 1) := by decide +kernel
theorem d_A_joinWithNextAroundTail_10 : decode b_A_joinWithNextAroundTail 10 = .ok (.invokevirtual 95, 3) := by decide +kernel
theorem d_A_joinWithNextAroundTail_13 : decode b_A_joinWithNextAroundTail 13 = .ok (.aload_n 0, 1) := by decide +kernel
theorem d_A_joinWithNextAroundTail_14 : decode b_A_joinWithNextAroundTail 14 = .ok (.getfield 12, 3) := by decide +kernel
theorem d_A_joinWithNextAroundTail_17 : decode b_A_joinWithNextAroundTail 17 = .ok (.iload_n 1, 1) := by decide +kernel
theorem d_A_joinWithNextAroundTail_18 : decode b_A_joinWithNextAroundTail 18 = .ok (.invokevirtual 98, 3) := by decide +kernel
theorem d_A_joinWithNextAroundTail_21 : decode b_A_joinWithNextAroundTail 21 = .ok (.invokevirtual 101, 3) := by decide +kernel
theorem d_A_joinWithNextAroundTail_24 : decode b_A_joinWithNextAroundTail 24 = .ok (.istore_n 2, 1) := by decide +kernel
theorem d_A_joinWithNextAroundTail_25 : decode b_A_joinWithNextAroundTail 25 = .ok (.aload_n 0, 1) := by decide +kernel
theorem d_A_joinWithNextAroundTail_26 : decode b_A_joinWithNextAroundTail 26 = .ok (.getfield 21, 3) := by decide +kernel
theorem d_A_joinWithNextAroundTail_29 : decode b_A_joinWithNextAroundTail 29 = .ok (.iload_n 1, 1) := by decide +kernel
theorem d_A_joinWithNextAroundTail_30 : decode b_A_joinWithNextAroundTail 30 = .ok (.iload_n 2, 1) := by decide +kernel
theorem d_A_joinWithNextAroundTail_31 : decode b_A_joinWithNextAroundTail 31 = .ok (.invokevirtual 105, 3) := by decide +kernel
theorem d_A_joinWithNextAroundTail_34 : decode b_A_joinWithNextAroundTail 34 = .ok (.aload_n 0, 1) := by decide +kernel
theorem d_A_joinWithNextAroundTail_35 : decode b_A_joinWithNextAroundTail 35 = .ok (.getfield 25, 3) := by decide +kernel
theorem d_A_joinWithNextAroundTail_38 : decode b_A_joinWithNextAroundTail 38 = .ok (.iload_n 1, 1) := by decide +kernel
theorem d_A_joinWithNextAroundTail_39 : decode b_A_joinWithNextAroundTail 39 = .ok (.iconst 2, 1) := by decide +kernel
theorem d_A_joinWithNextAroundTail_40 : decode b_A_joinWithNextAroundTail 40 = .ok (.idiv, 1) := by decide +kernel
theorem d_A_joinWithNextAroundTail_41 : decode b_A_joinWithNextAroundTail 41 = .ok (.iload_n 2, 1) := by decide +kernel
theorem d_A_joinWithNextAroundTail_42 : decode b_A_joinWithNextAroundTail 42 = .ok (.iconst 2, 1) := by decide +kernel
theorem d_A_joinWithNextAroundTail_43 : decode b_A_joinWithNextAroundTail 43 = .ok (.idiv, 1) := by decide +kernel
theorem d_A_joinWithNextAroundTail_44 : decode b_A_joinWithNextAroundTail 44 = .ok (.invokevirtual 105, 3) := by decide +kernel
theorem d_A_joinWithNextAroundTail_47 : decode b_A_joinWithNextAroundTail 47 = .ok (.return_, 1) := by decide +kernel
theorem d_A_joinWithWhatIsAbove_0 : decode b_A_joinWithWhatIsAbove 0 = .ok (.aload_n 0, 1) := by decide +kernel
theorem d_A_joinWithWhatIsAbove_1 : decode b_A_joinWithWhatIsAbove 1 = .ok (.getfield 12, 3) := by decide +kernel
theorem d_A_joinWithWhatIsAbove_4 : decode b_A_joinWithWhatIsAbove 4 = .ok (.iload_n 1, 1) := by decide +kernel
theorem d_A_joinWithWhatIsAbove_5 : decode b_A_joinWithWhatIsAbove 5 = .ok (.invokevirtual 109, 3) := by decide +kernel
theorem d_A_joinWithWhatIsAbove_8 : decode b_A_joinWithWhatIsAbove 8 = .ok (.ifCond .eq 45, 3) := by decide +kernel
theorem d_A_joinWithWhatIsAbove_11 : decode b_A_joinWithWhatIsAbove 11 = .ok (.aload_n 0, 1) := by decide +kernel
theorem d_A_joinWithWhatIsAbove_12 : decode b_A_joinWithWhatIsAbove 12 = .ok (.getfield 12, 3) := by decide +kernel
theorem d_A_joinWithWhatIsAbove_15 : decode b_A_joinWithWhatIsAbove 15 = .ok (.iload_n 1, 1) := by decide +kernel
theorem d_A_joinWithWhatIsAbove_16 : decode b_A_joinWithWhatIsAbove 16 = .ok (.iconst 0, 1) := by decide +kernel
theorem d_A_joinWithWhatIsAbove_17 : decode b_A_joinWithWhatIsAbove 17 = .ok (.iconst 1, 1) := by decide +kernel
theorem d_A_joinWithWhatIsAbove_18 : decode b_A_joinWithWhatIsAbove 18 = .ok (.invokevirtual 101, 3) := by decide +kernel
theorem d_A_joinWithWhatIsAbove_21 : decode b_A_joinWithWhatIsAbove 21 = .ok (.istore_n 2, 1) := by decide +kernel
theorem d_A_joinWithWhatIsAbove_22 : decode b_A_joinWithWhatIsAbove 22 = .ok (.aload_n 0, 1) := by decide +kernel
theorem d_A_joinWithWhatIsAbove_23 : decode b_A_joinWithWhatIsAbove 23 = .ok (.getfield 21, 3) := by decide +kernel
theorem d_A_joinWithWhatIsAbove_26 : decode b_A_joinWithWhatIsAbove 26 = .ok (.iload_n 2, 1) := by decide +kernel
theorem d_A_joinWithWhatIsAbove_27 : decode b_A_joinWithWhatIsAbove 27 = .ok (.aload_n 0, 1) := by decide +kernel
theorem d_A_joinWithWhatIsAbove_28 : decode b_A_joinWithWhatIsAbove 28 = .ok (.getfield 12, 3) := by decide +kernel
theorem d_A_joinWithWhatIsAbove_31 : decode b_A_joinWithWhatIsAbove 31 = .ok (.aload_n 0, 1) := by decide +kernel
theorem d_A_joinWithWhatIsAbove_32 : decode b_A_joinWithWhatIsAbove 32 = .ok (.getfield 12, 3) := by decide +kernel
theorem d_A_joinWithWhatIsAbove_35 : decode b_A_joinWithWhatIsAbove 35 = .ok (.iload_n 1, 1) := by decide +kernel
theorem d_A_joinWithWhatIsAbove_36 : decode b_A_joinWithWhatIsAbove 36 = .ok (.invokevirtual 112, 3) := by decide +kernel
theorem d_A_joinWithWhatIsAbove_39 : decode b_A_joinWithWhatIsAbove 39 = .ok (.aload_n 0, 1) := by decide +kernel
theorem d_A_joinWithWhatIsAbove_40 : decode b_A_joinWithWhatIsAbove 40 = .ok (.getfield 12, 3) := by decide +kernel
theorem d_A_joinWithWhatIsAbove_43 : decode b_A_joinWithWhatIsAbove 43 = .ok (.iload_n 1, 1) := by decide +kernel
theorem d_A_joinWithWhatIsAbove_44 : decode b_A_joinWithWhatIsAbove 44 = .ok (.invokevirtual 115, 3) := by decide +kernel
theorem d_A_joinWithWhatIsAbove_47 : decode b_A_joinWithWhatIsAbove 47 = .ok (.invokevirtual 83, 3) := by decide +kernel
theorem d_A_joinWithWhatIsAbove_50 : decode b_A_joinWithWhatIsAbove 50 = .ok (.invokevirtual 105, 3) := by decide +kernel
theorem d_A_joinWithWhatIsAbove_53 : decode b_A_joinWithWhatIsAbove 53 = .ok (.return_, 1) := by decide +kernel
theorem d_L_law_0 : decode code 0 = .ok (.new 7, 3) := by decide +kernel
theorem d_L_law_3 : decode code 3 = .ok (.dup, 1) := by decide +kernel
theorem d_L_law_4 : decode code 4 = .ok (.invokespecial 9, 3) := by decide +kernel
theorem d_L_law_7 : decode code 7 = .ok (.astore_n 1, 1) := by decide +kernel
theorem d_L_law_8 : decode code 8 = .ok (.new 10, 3) := by decide +kernel
theorem d_L_law_11 : decode code 11 = .ok (.dup, 1) := by decide +kernel
theorem d_L_law_12 : decode code 12 = .ok (.invokespecial 12, 3) := by decide +kernel
theorem d_L_law_15 : decode code 15 = .ok (.astore_n 2, 1) := by decide +kernel
theorem d_L_law_16 : decode code 16 = .ok (.iconst 0, 1) := by decide +kernel
theorem d_L_law_17 : decode code 17 = .ok (.istore_n 3, 1) := by decide +kernel
theorem d_L_law_18 : decode code 18 = .ok (.iload_n 3, 1) := by decide +kernel
theorem d_L_law_19 : decode code 19 = .ok (.aload_n 0, 1) := by decide +kernel
theorem d_L_law_20 : decode code 20 = .ok (.arraylength, 1) := by decide +kernel
theorem d_L_law_21 : decode code 21 = .ok (.iconst 5, 1) := by decide +kernel
theorem d_L_law_22 : decode code 22 = .ok (.isub, 1) := by decide +kernel
theorem d_L_law_23 : decode code 23 = .ok (.if_icmp .gt 398, 3) := by decide +kernel
theorem d_L_law_26 : decode code 26 = .ok (.aload_n 0, 1) := by decide +kernel
theorem d_L_law_27 : decode code 27 = .ok (.iload_n 3, 1) := by decide +kernel
theorem d_L_law_28 : decode code 28 = .ok (.iaload, 1) := by decide +kernel
theorem d_L_law_29 : decode code 29 = .ok (.bipush 15, 2) := by decide +kernel
theorem d_L_law_31 : decode code 31 = .ok (.iand, 1) := by decide +kernel
theorem d_L_law_32 : decode code 32 = .ok (.tableswitch 383 0 10 #[60, 113, 136, 149, 162, 175, 188, 221, 274, 307, 340], 60) := by decide +kernel
theorem d_L_law_92 : decode code 92 = .ok (.aload_n 1, 1) := by decide +kernel
theorem d_L_law_93 : decode code 93 = .ok (.aload_n 0, 1) := by decide +kernel
theorem d_L_law_94 : decode code 94 = .ok (.iload_n 3, 1) := by decide +kernel
theorem d_L_law_95 : decode code 95 = .ok (.iconst 1, 1) := by decide +kernel
theorem d_L_law_96 : decode code 96 = .ok (.iadd, 1) := by decide +kernel
theorem d_L_law_97 : decode code 97 = .ok (.iaload, 1) := by decide +kernel
theorem d_L_law_98 : decode code 98 = .ok (.aload_n 0, 1) := by decide +kernel
theorem d_L_law_99 : decode code 99 = .ok (.iload_n 3, 1) := by decide +kernel
theorem d_L_law_100 : decode code 100 = .ok (.iconst 2, 1) := by decide +kernel
theorem d_L_law_101 : decode code 101 = .ok (.iadd, 1) := by decide +kernel
theorem d_L_law_102 : decode code 102 = .ok (.iaload, 1) := by decide +kernel
theorem d_L_law_103 : decode code 103 = .ok (.aload_n 0, 1) := by decide +kernel
theorem d_L_law_104 : decode code 104 = .ok (.iload_n 3, 1) := by decide +kernel
theorem d_L_law_105 : decode code 105 = .ok (.iconst 3, 1) := by decide +kernel
theorem d_L_law_106 : decode code 106 = .ok (.iadd, 1) := by decide +kernel
theorem d_L_law_107 : decode code 107 = .ok (.iaload, 1) := by decide +kernel
theorem d_L_law_108 : decode code 108 = .ok (.aload_n 0, 1) := by decide +kernel
theorem d_L_law_109 : decode code 109 = .ok (.iload_n 3, 1) := by decide +kernel
theorem d_L_law_110 : decode code 110 = .ok (.iconst 4, 1) := by decide +kernel
theorem d_L_law_111 : decode code 111 = .ok (.iadd, 1) := by decide +kernel
theorem d_L_law_112 : decode code 112 = .ok (.iaload, 1) := by decide +kernel
theorem d_L_law_113 : decode code 113 = .ok (.invokevirtual 13, 3) := by decide +kernel
theorem d_L_law_116 : decode code 116 = .ok (.aload_n 2, 1) := by decide +kernel
theorem d_L_law_117 : decode code 117 = .ok (.aload_n 0, 1) := by decide +kernel
theorem d_L_law_118 : decode code 118 = .ok (.iload_n 3, 1) := by decide +kernel
theorem d_L_law_119 : decode code 119 = .ok (.iconst 1, 1) := by decide +kernel
theorem d_L_law_120 : decode code 120 = .ok (.iadd, 1) := by decide +kernel
theorem d_L_law_121 : decode code 121 = .ok (.iaload, 1) := by decide +kernel
theorem d_L_law_122 : decode code 122 = .ok (.aload_n 0, 1) := by decide +kernel
theorem d_L_law_123 : decode code 123 = .ok (.iload_n 3, 1) := by decide +kernel
theorem d_L_law_124 : decode code 124 = .ok (.iconst 2, 1) := by decide +kernel
theorem d_L_law_125 : decode code 125 = .ok (.iadd, 1) := by decide +kernel
theorem d_L_law_126 : decode code 126 = .ok (.iaload, 1) := by decide +kernel
theorem d_L_law_127 : decode code 127 = .ok (.aload_n 0, 1) := by decide +kernel
theorem d_L_law_128 : decode code 128 = .ok (.iload_n 3, 1) := by decide +kernel
theorem d_L_law_129 : decode code 129 = .ok (.iconst 3, 1) := by decide +kernel
theorem d_L_law_130 : decode code 130 = .ok (.iadd, 1) := by decide +kernel
theorem d_L_law_131 : decode code 131 = .ok (.iaload, 1) := by decide +kernel
theorem d_L_law_132 : decode code 132 = .ok (.aload_n 0, 1) := by decide +kernel
theorem d_L_law_133 : decode code 133 = .ok (.iload_n 3, 1) := by decide +kernel
theorem d_L_law_134 : decode code 134 = .ok (.iconst 4, 1) := by decide +kernel
theorem d_L_law_135 : decode code 135 = .ok (.iadd, 1) := by decide +kernel
theorem d_L_law_136 : decode code 136 = .ok (.iaload, 1) := by decide +kernel
theorem d_L_law_137 : decode code 137 = .ok (.invokevirtual 17, 3) := by decide +kernel
theorem d_L_law_140 : decode code 140 = .ok (.if_icmp .eq 275, 3) := by decide +kernel
theorem d_L_law_143 : decode code 143 = .ok (.iconst 0, 1) := by decide +kernel
theorem d_L_law_144 : decode code 144 = .ok (.ireturn, 1) := by decide +kernel
theorem d_L_law_145 : decode code 145 = .ok (.aload_n 1, 1) := by decide +kernel
theorem d_L_law_146 : decode code 146 = .ok (.aload_n 0, 1) := by decide +kernel
theorem d_L_law_147 : decode code 147 = .ok (.iload_n 3, 1) := by decide +kernel
theorem d_L_law_148 : decode code 148 = .ok (.iconst 1, 1) := by decide +kernel
theorem d_L_law_149 : decode code 149 = .ok (.iadd, 1) := by decide +kernel
theorem d_L_law_150 : decode code 150 = .ok (.iaload, 1) := by decide +kernel
theorem d_L_law_151 : decode code 151 = .ok (.invokevirtual 18, 3) := by decide +kernel
theorem d_L_law_154 : decode code 154 = .ok (.aload_n 2, 1) := by decide +kernel
theorem d_L_law_155 : decode code 155 = .ok (.aload_n 0, 1) := by decide +kernel
theorem d_L_law_156 : decode code 156 = .ok (.iload_n 3, 1) := by decide +kernel
theorem d_L_law_157 : decode code 157 = .ok (.iconst 1, 1) := by decide +kernel
theorem d_L_law_158 : decode code 158 = .ok (.iadd, 1) := by decide +kernel
theorem d_L_law_159 : decode code 159 = .ok (.iaload, 1) := by decide +kernel
theorem d_L_law_160 : decode code 160 = .ok (.invokevirtual 22, 3) := by decide +kernel
theorem d_L_law_163 : decode code 163 = .ok (.if_icmp .eq 252, 3) := by decide +kernel
theorem d_L_law_166 : decode code 166 = .ok (.iconst 0, 1) := by decide +kernel
theorem d_L_law_167 : decode code 167 = .ok (.ireturn, 1) := by decide +kernel
theorem d_L_law_168 : decode code 168 = .ok (.aload_n 1, 1) := by decide +kernel
theorem d_L_law_169 : decode code 169 = .ok (.invokevirtual 23, 3) := by decide +kernel
theorem d_L_law_172 : decode code 172 = .ok (.aload_n 2, 1) := by decide +kernel
theorem d_L_law_173 : decode code 173 = .ok (.invokevirtual 27, 3) := by decide +kernel
theorem d_L_law_176 : decode code 176 = .ok (.if_icmp .eq 239, 3) := by decide +kernel
theorem d_L_law_179 : decode code 179 = .ok (.iconst 0, 1) := by decide +kernel
theorem d_L_law_180 : decode code 180 = .ok (.ireturn, 1) := by decide +kernel
theorem d_L_law_181 : decode code 181 = .ok (.aload_n 1, 1) := by decide +kernel
theorem d_L_law_182 : decode code 182 = .ok (.invokevirtual 28, 3) := by decide +kernel
theorem d_L_law_185 : decode code 185 = .ok (.aload_n 2, 1) := by decide +kernel
theorem d_L_law_186 : decode code 186 = .ok (.invokevirtual 31, 3) := by decide +kernel
theorem d_L_law_189 : decode code 189 = .ok (.if_icmp .eq 226, 3) := by decide +kernel
theorem d_L_law_192 : decode code 192 = .ok (.iconst 0, 1) := by decide +kernel
theorem d_L_law_193 : decode code 193 = .ok (.ireturn, 1) := by decide +kernel
theorem d_L_law_194 : decode code 194 = .ok (.aload_n 1, 1) := by decide +kernel
theorem d_L_law_195 : decode code 195 = .ok (.invokevirtual 32, 3) := by decide +kernel
theorem d_L_law_198 : decode code 198 = .ok (.aload_n 2, 1) := by decide +kernel
theorem d_L_law_199 : decode code 199 = .ok (.invokevirtual 35, 3) := by decide +kernel
theorem d_L_law_202 : decode code 202 = .ok (.if_icmp .eq 213, 3) := by decide +kernel
theorem d_L_law_205 : decode code 205 = .ok (.iconst 0, 1) := by decide +kernel
theorem d_L_law_206 : decode code 206 = .ok (.ireturn, 1) := by decide +kernel
theorem d_L_law_207 : decode code 207 = .ok (.aload_n 1, 1) := by decide +kernel
theorem d_L_law_208 : decode code 208 = .ok (.invokevirtual 36, 3) := by decide +kernel
theorem d_L_law_211 : decode code 211 = .ok (.aload_n 2, 1) := by decide +kernel
theorem d_L_law_212 : decode code 212 = .ok (.invokevirtual 39, 3) := by decide +kernel
theorem d_L_law_215 : decode code 215 = .ok (.if_icmp .eq 200, 3) := by decide +kernel
theorem d_L_law_218 : decode code 218 = .ok (.iconst 0, 1) := by decide +kernel
theorem d_L_law_219 : decode code 219 = .ok (.ireturn, 1) := by decide +kernel
theorem d_L_law_220 : decode code 220 = .ok (.aload_n 1, 1) := by decide +kernel
theorem d_L_law_221 : decode code 221 = .ok (.aload_n 0, 1) := by decide +kernel
theorem d_L_law_222 : decode code 222 = .ok (.iload_n 3, 1) := by decide +kernel
theorem d_L_law_223 : decode code 223 = .ok (.iconst 1, 1) := by decide +kernel
theorem d_L_law_224 : decode code 224 = .ok (.iadd, 1) := by decide +kernel
theorem d_L_law_225 : decode code 225 = .ok (.iaload, 1) := by decide +kernel
theorem d_L_law_226 : decode code 226 = .ok (.aload_n 0, 1) := by decide +kernel
theorem d_L_law_227 : decode code 227 = .ok (.iload_n 3, 1) := by decide +kernel
theorem d_L_law_228 : decode code 228 = .ok (.iconst 2, 1) := by decide +kernel
theorem d_L_law_229 : decode code 229 = .ok (.iadd, 1) := by decide +kernel
theorem d_L_law_230 : decode code 230 = .ok (.iaload, 1) := by decide +kernel
theorem d_L_law_231 : decode code 231 = .ok (.invokevirtual 40, 3) := by decide +kernel
theorem d_L_law_234 : decode code 234 = .ok (.aload_n 2, 1) := by decide +kernel
theorem d_L_law_235 : decode code 235 = .ok (.aload_n 0, 1) := by decide +kernel
theorem d_L_law_236 : decode code 236 = .ok (.iload_n 3, 1) := by decide +kernel
theorem d_L_law_237 : decode code 237 = .ok (.iconst 1, 1) := by decide +kernel
theorem d_L_law_238 : decode code 238 = .ok (.iadd, 1) := by decide +kernel
theorem d_L_law_239 : decode code 239 = .ok (.iaload, 1) := by decide +kernel
theorem d_L_law_240 : decode code 240 = .ok (.aload_n 0, 1) := by decide +kernel
theorem d_L_law_241 : decode code 241 = .ok (.iload_n 3, 1) := by decide +kernel
theorem d_L_law_242 : decode code 242 = .ok (.iconst 2, 1) := by decide +kernel
theorem d_L_law_243 : decode code 243 = .ok (.iadd, 1) := by decide +kernel
theorem d_L_law_244 : decode code 244 = .ok (.iaload, 1) := by decide +kernel
theorem d_L_law_245 : decode code 245 = .ok (.invokevirtual 44, 3) := by decide +kernel
theorem d_L_law_248 : decode code 248 = .ok (.if_icmp .eq 167, 3) := by decide +kernel
theorem d_L_law_251 : decode code 251 = .ok (.iconst 0, 1) := by decide +kernel
theorem d_L_law_252 : decode code 252 = .ok (.ireturn, 1) := by decide +kernel
theorem d_L_law_253 : decode code 253 = .ok (.aload_n 1, 1) := by decide +kernel
theorem d_L_law_254 : decode code 254 = .ok (.aload_n 0, 1) := by decide +kernel
theorem d_L_law_255 : decode code 255 = .ok (.iload_n 3, 1) := by decide +kernel
theorem d_L_law_256 : decode code 256 = .ok (.iconst 1, 1) := by decide +kernel
theorem d_L_law_257 : decode code 257 = .ok (.iadd, 1) := by decide +kernel
theorem d_L_law_258 : decode code 258 = .ok (.iaload, 1) := by decide +kernel
theorem d_L_law_259 : decode code 259 = .ok (.aload_n 0, 1) := by decide +kernel
theorem d_L_law_260 : decode code 260 = .ok (.iload_n 3, 1) := by decide +kernel
theorem d_L_law_261 : decode code 261 = .ok (.iconst 2, 1) := by decide +kernel
theorem d_L_law_262 : decode code 262 = .ok (.iadd, 1) := by decide +kernel
theorem d_L_law_263 : decode code 263 = .ok (.iaload, 1) := by decide +kernel
theorem d_L_law_264 : decode code 264 = .ok (.aload_n 0, 1) := by decide +kernel
theorem d_L_law_265 : decode code 265 = .ok (.iload_n 3, 1) := by decide +kernel
theorem d_L_law_266 : decode code 266 = .ok (.iconst 3, 1) := by decide +kernel
theorem d_L_law_267 : decode code 267 = .ok (.iadd, 1) := by decide +kernel
theorem d_L_law_268 : decode code 268 = .ok (.iaload, 1) := by decide +kernel
theorem d_L_law_269 : decode code 269 = .ok (.aload_n 0, 1) := by decide +kernel
theorem d_L_law_270 : decode code 270 = .ok (.iload_n 3, 1) := by decide +kernel
theorem d_L_law_271 : decode code 271 = .ok (.iconst 4, 1) := by decide +kernel
theorem d_L_law_272 : decode code 272 = .ok (.iadd, 1) := by decide +kernel
theorem d_L_law_273 : decode code 273 = .ok (.iaload, 1) := by decide +kernel
theorem d_L_law_274 : decode code 274 = .ok (.invokevirtual 45, 3) := by decide +kernel
theorem d_L_law_277 : decode code 277 = .ok (.aload_n 2, 1) := by decide +kernel
theorem d_L_law_278 : decode code 278 = .ok (.aload_n 0, 1) := by decide +kernel
theorem d_L_law_279 : decode code 279 = .ok (.iload_n 3, 1) := by decide +kernel
theorem d_L_law_280 : decode code 280 = .ok (.iconst 1, 1) := by decide +kernel
theorem d_L_law_281 : decode code 281 = .ok (.iadd, 1) := by decide +kernel
theorem d_L_law_282 : decode code 282 = .ok (.iaload, 1) := by decide +kernel
theorem d_L_law_283 : decode code 283 = .ok (.aload_n 0, 1) := by decide +kernel
theorem d_L_law_284 : decode code 284 = .ok (.iload_n 3, 1) := by decide +kernel
theorem d_L_law_285 : decode code 285 = .ok (.iconst 2, 1) := by decide +kernel
theorem d_L_law_286 : decode code 286 = .ok (.iadd, 1) := by decide +kernel
theorem d_L_law_287 : decode code 287 = .ok (.iaload, 1) := by decide +kernel
theorem d_L_law_288 : decode code 288 = .ok (.aload_n 0, 1) := by decide +kernel
theorem d_L_law_289 : decode code 289 = .ok (.iload_n 3, 1) := by decide +kernel
theorem d_L_law_290 : decode code 290 = .ok (.iconst 3, 1) := by decide +kernel
theorem d_L_law_291 : decode code 291 = .ok (.iadd, 1) := by decide +kernel
theorem d_L_law_292 : decode code 292 = .ok (.iaload, 1) := by decide +kernel
theorem d_L_law_293 : decode code 293 = .ok (.aload_n 0, 1) := by decide +kernel
theorem d_L_law_294 : decode code 294 = .ok (.iload_n 3, 1) := by decide +kernel
theorem d_L_law_295 : decode code 295 = .ok (.iconst 4, 1) := by decide +kernel
theorem d_L_law_296 : decode code 296 = .ok (.iadd, 1) := by decide +kernel
theorem d_L_law_297 : decode code 297 = .ok (.iaload, 1) := by decide +kernel
theorem d_L_law_298 : decode code 298 = .ok (.invokevirtual 49, 3) := by decide +kernel
theorem d_L_law_301 : decode code 301 = .ok (.if_icmp .eq 114, 3) := by decide +kernel
theorem d_L_law_304 : decode code 304 = .ok (.iconst 0, 1) := by decide +kernel
theorem d_L_law_305 : decode code 305 = .ok (.ireturn, 1) := by decide +kernel
theorem d_L_law_306 : decode code 306 = .ok (.aload_n 1, 1) := by decide +kernel
theorem d_L_law_307 : decode code 307 = .ok (.aload_n 0, 1) := by decide +kernel
theorem d_L_law_308 : decode code 308 = .ok (.iload_n 3, 1) := by decide +kernel
theorem d_L_law_309 : decode code 309 = .ok (.iconst 1, 1) := by decide +kernel
theorem d_L_law_310 : decode code 310 = .ok (.iadd, 1) := by decide +kernel
theorem d_L_law_311 : decode code 311 = .ok (.iaload, 1) := by decide +kernel
theorem d_L_law_312 : decode code 312 = .ok (.aload_n 0, 1) := by decide +kernel
theorem d_L_law_313 : decode code 313 = .ok (.iload_n 3, 1) := by decide +kernel
theorem d_L_law_314 : decode code 314 = .ok (.iconst 2, 1) := by decide +kernel
theorem d_L_law_315 : decode code 315 = .ok (.iadd, 1) := by decide +kernel
theorem d_L_law_316 : decode code 316 = .ok (.iaload, 1) := by decide +kernel
theorem d_L_law_317 : decode code 317 = .ok (.invokevirtual 50, 3) := by decide +kernel
theorem d_L_law_320 : decode code 320 = .ok (.aload_n 2, 1) := by decide +kernel
theorem d_L_law_321 : decode code 321 = .ok (.aload_n 0, 1) := by decide +kernel
theorem d_L_law_322 : decode code 322 = .ok (.iload_n 3, 1) := by decide +kernel
theorem d_L_law_323 : decode code 323 = .ok (.iconst 1, 1) := by decide +kernel
theorem d_L_law_324 : decode code 324 = .ok (.iadd, 1) := by decide +kernel
theorem d_L_law_325 : decode code 325 = .ok (.iaload, 1) := by decide +kernel
theorem d_L_law_326 : decode code 326 = .ok (.aload_n 0, 1) := by decide +kernel
theorem d_L_law_327 : decode code 327 = .ok (.iload_n 3, 1) := by decide +kernel
theorem d_L_law_328 : decode code 328 = .ok (.iconst 2, 1) := by decide +kernel
theorem d_L_law_329 : decode code 329 = .ok (.iadd, 1) := by decide +kernel
theorem d_L_law_330 : decode code 330 = .ok (.iaload, 1) := by decide +kernel
theorem d_L_law_331 : decode code 331 = .ok (.invokevirtual 53, 3) := by decide +kernel
theorem d_L_law_334 : decode code 334 = .ok (.if_icmp .eq 81, 3) := by decide +kernel
theorem d_L_law_337 : decode code 337 = .ok (.iconst 0, 1) := by decide +kernel
theorem d_L_law_338 : decode code 338 = .ok (.ireturn, 1) := by decide +kernel
theorem d_L_law_339 : decode code 339 = .ok (.aload_n 1, 1) := by decide +kernel
theorem d_L_law_340 : decode code 340 = .ok (.aload_n 0, 1) := by decide +kernel
theorem d_L_law_341 : decode code 341 = .ok (.iload_n 3, 1) := by decide +kernel
theorem d_L_law_342 : decode code 342 = .ok (.iconst 1, 1) := by decide +kernel
theorem d_L_law_343 : decode code 343 = .ok (.iadd, 1) := by decide +kernel
theorem d_L_law_344 : decode code 344 = .ok (.iaload, 1) := by decide +kernel
theorem d_L_law_345 : decode code 345 = .ok (.aload_n 0, 1) := by decide +kernel
theorem d_L_law_346 : decode code 346 = .ok (.iload_n 3, 1) := by decide +kernel
theorem d_L_law_347 : decode code 347 = .ok (.iconst 2, 1) := by decide +kernel
theorem d_L_law_348 : decode code 348 = .ok (.iadd, 1) := by decide +kernel
theorem d_L_law_349 : decode code 349 = .ok (.iaload, 1) := by decide +kernel
theorem d_L_law_350 : decode code 350 = .ok (.invokevirtual 54, 3) := by decide +kernel
theorem d_L_law_353 : decode code 353 = .ok (.aload_n 2, 1) := by decide +kernel
theorem d_L_law_354 : decode code 354 = .ok (.aload_n 0, 1) := by decide +kernel
theorem d_L_law_355 : decode code 355 = .ok (.iload_n 3, 1) := by decide +kernel
theorem d_L_law_356 : decode code 356 = .ok (.iconst 1, 1) := by decide +kernel
theorem d_L_law_357 : decode code 357 = .ok (.iadd, 1) := by decide +kernel
theorem d_L_law_358 : decode code 358 = .ok (.iaload, 1) := by decide +kernel
theorem d_L_law_359 : decode code 359 = .ok (.aload_n 0, 1) := by decide +kernel
theorem d_L_law_360 : decode code 360 = .ok (.iload_n 3, 1) := by decide +kernel
theorem d_L_law_361 : decode code 361 = .ok (.iconst 2, 1) := by decide +kernel
theorem d_L_law_362 : decode code 362 = .ok (.iadd, 1) := by decide +kernel
theorem d_L_law_363 : decode code 363 = .ok (.iaload, 1) := by decide +kernel
theorem d_L_law_364 : decode code 364 = .ok (.invokevirtual 57, 3) := by decide +kernel
theorem d_L_law_367 : decode code 367 = .ok (.if_icmp .eq 48, 3) := by decide +kernel
theorem d_L_law_370 : decode code 370 = .ok (.iconst 0, 1) := by decide +kernel
theorem d_L_law_371 : decode code 371 = .ok (.ireturn, 1) := by decide +kernel
theorem d_L_law_372 : decode code 372 = .ok (.aload_n 1, 1) := by decide +kernel
theorem d_L_law_373 : decode code 373 = .ok (.aload_n 0, 1) := by decide +kernel
theorem d_L_law_374 : decode code 374 = .ok (.iload_n 3, 1) := by decide +kernel
theorem d_L_law_375 : decode code 375 = .ok (.iconst 1, 1) := by decide +kernel
theorem d_L_law_376 : decode code 376 = .ok (.iadd, 1) := by decide +kernel
theorem d_L_law_377 : decode code 377 = .ok (.iaload, 1) := by decide +kernel
theorem d_L_law_378 : decode code 378 = .ok (.aload_n 0, 1) := by decide +kernel
theorem d_L_law_379 : decode code 379 = .ok (.iload_n 3, 1) := by decide +kernel
theorem d_L_law_380 : decode code 380 = .ok (.iconst 2, 1) := by decide +kernel
theorem d_L_law_381 : decode code 381 = .ok (.iadd, 1) := by decide +kernel
theorem d_L_law_382 : decode code 382 = .ok (.iaload, 1) := by decide +kernel
theorem d_L_law_383 : decode code 383 = .ok (.aload_n 0, 1) := by decide +kernel
theorem d_L_law_384 : decode code 384 = .ok (.iload_n 3, 1) := by decide +kernel
theorem d_L_law_385 : decode code 385 = .ok (.iconst 3, 1) := by decide +kernel
theorem d_L_law_386 : decode code 386 = .ok (.iadd, 1) := by decide +kernel
theorem d_L_law_387 : decode code 387 = .ok (.iaload, 1) := by decide +kernel
theorem d_L_law_388 : decode code 388 = .ok (.invokevirtual 58, 3) := by decide +kernel
theorem d_L_law_391 : decode code 391 = .ok (.aload_n 2, 1) := by decide +kernel
theorem d_L_law_392 : decode code 392 = .ok (.aload_n 0, 1) := by decide +kernel
theorem d_L_law_393 : decode code 393 = .ok (.iload_n 3, 1) := by decide +kernel
theorem d_L_law_394 : decode code 394 = .ok (.iconst 1, 1) := by decide +kernel
theorem d_L_law_395 : decode code 395 = .ok (.iadd, 1) := by decide +kernel
theorem d_L_law_396 : decode code 396 = .ok (.iaload, 1) := by decide +kernel
theorem d_L_law_397 : decode code 397 = .ok (.aload_n 0, 1) := by decide +kernel
theorem d_L_law_398 : decode code 398 = .ok (.iload_n 3, 1) := by decide +kernel
theorem d_L_law_399 : decode code 399 = .ok (.iconst 2, 1) := by decide +kernel
theorem d_L_law_400 : decode code 400 = .ok (.iadd, 1) := by decide +kernel
theorem d_L_law_401 : decode code 401 = .ok (.iaload, 1) := by decide +kernel
theorem d_L_law_402 : decode code 402 = .ok (.aload_n 0, 1) := by decide +kernel
theorem d_L_law_403 : decode code 403 = .ok (.iload_n 3, 1) := by decide +kernel
theorem d_L_law_404 : decode code 404 = .ok (.iconst 3, 1) := by decide +kernel
theorem d_L_law_405 : decode code 405 = .ok (.iadd, 1) := by decide +kernel
theorem d_L_law_406 : decode code 406 = .ok (.iaload, 1) := by decide +kernel
theorem d_L_law_407 : decode code 407 = .ok (.invokevirtual 62, 3) := by decide +kernel
theorem d_L_law_410 : decode code 410 = .ok (.if_icmp .eq 5, 3) := by decide +kernel
theorem d_L_law_413 : decode code 413 = .ok (.iconst 0, 1) := by decide +kernel
theorem d_L_law_414 : decode code 414 = .ok (.ireturn, 1) := by decide +kernel
theorem d_L_law_415 : decode code 415 = .ok (.iinc 3 5, 3) := by decide +kernel
theorem d_L_law_418 : decode code 418 = .ok (.goto (-400), 3) := by decide +kernel
theorem d_L_law_421 : decode code 421 = .ok (.iconst 1, 1) := by decide +kernel
theorem d_L_law_422 : decode code 422 = .ok (.ireturn, 1) := by decide +kernel
