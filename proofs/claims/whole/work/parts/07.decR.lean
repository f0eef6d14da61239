theorem d_R_below_92 : decode b_R_below 92 = .ok (.iload_n 2, 1) := by decide +kernel
theorem d_R_below_93 : decode b_R_below 93 = .ok (.invokevirtual 82, 3) := by decide +kernel
theorem d_R_below_96 : decode b_R_below 96 = .ok (.invokestatic 90, 3) := by decide +kernel
theorem d_R_below_99 : decode b_R_below 99 = .ok (.ireturn, 1) := by decide +kernel
theorem d_R_fill_0 : decode b_R_fill 0 = .ok (.aload_n 0, 1) := by decide +kernel
theorem d_R_fill_1 : decode b_R_fill 1 = .ok (.getfield 32, 3) := by decide +kernel
theorem d_R_fill_4 : decode b_R_fill 4 = .ok (.iload_n 1, 1) := by decide +kernel
theorem d_R_fill_5 : decode b_R_fill 5 = .ok (.iconst 0, 1) := by decide +kernel
theorem d_R_fill_6 : decode b_R_fill 6 = .ok (.iastore, 1) := by decide +kernel
theorem d_R_fill_7 : decode b_R_fill 7 = .ok (.iload_n 1, 1) := by decide +kernel
theorem d_R_fill_8 : decode b_R_fill 8 = .ok (.ifCond .eq 11, 3) := by decide +kernel
theorem d_R_fill_11 : decode b_R_fill 11 = .ok (.iload_n 1, 1) := by decide +kernel
theorem d_R_fill_12 : decode b_R_fill 12 = .ok (.aload_n 0, 1) := by decide +kernel
theorem d_R_fill_13 : decode b_R_fill 13 = .ok (.getfield 86, 3) := by decide +kernel
theorem d_R_fill_16 : decode b_R_fill 16 = .ok (.if_icmp .ne 4, 3) := by decide +kernel
theorem d_R_fill_19 : decode b_R_fill 19 = .ok (.return_, 1) := by decide +kernel
theorem d_R_fill_20 : decode b_R_fill 20 = .ok (.aload_n 0, 1) := by decide +kernel
theorem d_R_fill_21 : decode b_R_fill 21 = .ok (.getfield 26, 3) := by decide +kernel
theorem d_R_fill_24 : decode b_R_fill 24 = .ok (.iload_n 1, 1) := by decide +kernel
theorem d_R_fill_25 : decode b_R_fill 25 = .ok (.iconst 1, 1) := by decide +kernel
theorem d_R_fill_26 : decode b_R_fill 26 = .ok (.isub, 1) := by decide +kernel
theorem d_R_fill_27 : decode b_R_fill 27 = .ok (.iaload, 1) := by decide +kernel
theorem d_R_fill_28 : decode b_R_fill 28 = .ok (.istore_n 2, 1) := by decide +kernel
theorem d_R_fill_29 : decode b_R_fill 29 = .ok (.aload_n 0, 1) := by decide +kernel
theorem d_R_fill_30 : decode b_R_fill 30 = .ok (.getfield 26, 3) := by decide +kernel
theorem d_R_fill_33 : decode b_R_fill 33 = .ok (.iload_n 1, 1) := by decide +kernel
theorem d_R_fill_34 : decode b_R_fill 34 = .ok (.iaload, 1) := by decide +kernel
theorem d_R_fill_35 : decode b_R_fill 35 = .ok (.istore_n 3, 1) := by decide +kernel
theorem d_R_fill_36 : decode b_R_fill 36 = .ok (.iconst 0, 1) := by decide +kernel
theorem d_R_fill_37 : decode b_R_fill 37 = .ok (.istore 4, 2) := by decide +kernel
theorem d_R_fill_39 : decode b_R_fill 39 = .ok (.iload 4, 2) := by decide +kernel
theorem d_R_fill_41 : decode b_R_fill 41 = .ok (.bipush 20, 2) := by decide +kernel
theorem d_R_fill_43 : decode b_R_fill 43 = .ok (.if_icmp .ge 125, 3) := by decide +kernel
theorem d_R_fill_46 : decode b_R_fill 46 = .ok (.aload_n 0, 1) := by decide +kernel
theorem d_R_fill_47 : decode b_R_fill 47 = .ok (.getfield 7, 3) := by decide +kernel
theorem d_R_fill_50 : decode b_R_fill 50 = .ok (.iload 4, 2) := by decide +kernel
theorem d_R_fill_52 : decode b_R_fill 52 = .ok (.baload, 1) := by decide +kernel
theorem d_R_fill_53 : decode b_R_fill 53 = .ok (.ifCond .eq 109, 3) := by decide +kernel
theorem d_R_fill_56 : decode b_R_fill 56 = .ok (.aload_n 0, 1) := by decide +kernel
theorem d_R_fill_57 : decode b_R_fill 57 = .ok (.getfield 13, 3) := by decide +kernel
theorem d_R_fill_60 : decode b_R_fill 60 = .ok (.iload 4, 2) := by decide +kernel
theorem d_R_fill_62 : decode b_R_fill 62 = .ok (.iaload, 1) := by decide +kernel
theorem d_R_fill_63 : decode b_R_fill 63 = .ok (.iload_n 2, 1) := by decide +kernel
theorem d_R_fill_64 : decode b_R_fill 64 = .ok (.if_icmp .gt 98, 3) := by decide +kernel
theorem d_R_fill_67 : decode b_R_fill 67 = .ok (.aload_n 0, 1) := by decide +kernel
theorem d_R_fill_68 : decode b_R_fill 68 = .ok (.getfield 20, 3) := by decide +kernel
theorem d_R_fill_71 : decode b_R_fill 71 = .ok (.iload 4, 2) := by decide +kernel
theorem d_R_fill_73 : decode b_R_fill 73 = .ok (.iaload, 1) := by decide +kernel
theorem d_R_fill_74 : decode b_R_fill 74 = .ok (.iload_n 3, 1) := by decide +kernel
theorem d_R_fill_75 : decode b_R_fill 75 = .ok (.if_icmp .lt 87, 3) := by decide +kernel
theorem d_R_fill_78 : decode b_R_fill 78 = .ok (.bipush 20, 2) := by decide +kernel
theorem d_R_fill_80 : decode b_R_fill 80 = .ok (.iload_n 1, 1) := by decide +kernel
theorem d_R_fill_81 : decode b_R_fill 81 = .ok (.imul, 1) := by decide +kernel
theorem d_R_fill_82 : decode b_R_fill 82 = .ok (.aload_n 0, 1) := by decide +kernel
theorem d_R_fill_83 : decode b_R_fill 83 = .ok (.getfield 32, 3) := by decide +kernel
theorem d_R_fill_86 : decode b_R_fill 86 = .ok (.iload_n 1, 1) := by decide +kernel
theorem d_R_fill_87 : decode b_R_fill 87 = .ok (.iaload, 1) := by decide +kernel
theorem d_R_fill_88 : decode b_R_fill 88 = .ok (.iadd, 1) := by decide +kernel
theorem d_R_fill_89 : decode b_R_fill 89 = .ok (.istore 5, 2) := by decide +kernel
theorem d_R_fill_91 : decode b_R_fill 91 = .ok (.iload 5, 2) := by decide +kernel
theorem d_R_fill_93 : decode b_R_fill 93 = .ok (.bipush 20, 2) := by decide +kernel
theorem d_R_fill_95 : decode b_R_fill 95 = .ok (.iload_n 1, 1) := by decide +kernel
theorem d_R_fill_96 : decode b_R_fill 96 = .ok (.imul, 1) := by decide +kernel
theorem d_R_fill_97 : decode b_R_fill 97 = .ok (.if_icmp .le 46, 3) := by decide +kernel
theorem d_R_fill_100 : decode b_R_fill 100 = .ok (.aload_n 0, 1) := by decide +kernel
theorem d_R_fill_101 : decode b_R_fill 101 = .ok (.iload 4, 2) := by decide +kernel
theorem d_R_fill_103 : decode b_R_fill 103 = .ok (.aload_n 0, 1) := by decide +kernel
theorem d_R_fill_104 : decode b_R_fill 104 = .ok (.getfield 29, 3) := by decide +kernel
theorem d_R_fill_107 : decode b_R_fill 107 = .ok (.iload 5, 2) := by decide +kernel
theorem d_R_fill_109 : decode b_R_fill 109 = .ok (.iconst 1, 1) := by decide +kernel
theorem d_R_fill_110 : decode b_R_fill 110 = .ok (.isub, 1) := by decide +kernel
theorem d_R_fill_111 : decode b_R_fill 111 = .ok (.iaload, 1) := by decide +kernel
theorem d_R_fill_112 : decode b_R_fill 112 = .ok (.iload_n 2, 1) := by decide +kernel
theorem d_R_fill_113 : decode b_R_fill 113 = .ok (.iload_n 3, 1) := by decide +kernel
theorem d_R_fill_114 : decode b_R_fill 114 = .ok (.iadd, 1) := by decide +kernel
theorem d_R_fill_115 : decode b_R_fill 115 = .ok (.invokevirtual 94, 3) := by decide +kernel
theorem d_R_fill_118 : decode b_R_fill 118 = .ok (.ifCond .eq 25, 3) := by decide +kernel
theorem d_R_fill_121 : decode b_R_fill 121 = .ok (.aload_n 0, 1) := by decide +kernel
theorem d_R_fill_122 : decode b_R_fill 122 = .ok (.getfield 29, 3) := by decide +kernel
theorem d_R_fill_125 : decode b_R_fill 125 = .ok (.iload 5, 2) := by decide +kernel
theorem d_R_fill_127 : decode b_R_fill 127 = .ok (.aload_n 0, 1) := by decide +kernel
theorem d_R_fill_128 : decode b_R_fill 128 = .ok (.getfield 29, 3) := by decide +kernel
theorem d_R_fill_131 : decode b_R_fill 131 = .ok (.iload 5, 2) := by decide +kernel
theorem d_R_fill_133 : decode b_R_fill 133 = .ok (.iconst 1, 1) := by decide +kernel
theorem d_R_fill_134 : decode b_R_fill 134 = .ok (.isub, 1) := by decide +kernel
theorem d_R_fill_135 : decode b_R_fill 135 = .ok (.iaload, 1) := by decide +kernel
theorem d_R_fill_136 : decode b_R_fill 136 = .ok (.iastore, 1) := by decide +kernel
theorem d_R_fill_137 : decode b_R_fill 137 = .ok (.iinc 5 (-1), 3) := by decide +kernel
theorem d_R_fill_140 : decode b_R_fill 140 = .ok (.goto (-49), 3) := by decide +kernel
theorem d_R_fill_143 : decode b_R_fill 143 = .ok (.aload_n 0, 1) := by decide +kernel
theorem d_R_fill_144 : decode b_R_fill 144 = .ok (.getfield 29, 3) := by decide +kernel
theorem d_R_fill_147 : decode b_R_fill 147 = .ok (.iload 5, 2) := by decide +kernel
theorem d_R_fill_149 : decode b_R_fill 149 = .ok (.iload 4, 2) := by decide +kernel
theorem d_R_fill_151 : decode b_R_fill 151 = .ok (.iastore, 1) := by decide +kernel
theorem d_R_fill_152 : decode b_R_fill 152 = .ok (.aload_n 0, 1) := by decide +kernel
theorem d_R_fill_153 : decode b_R_fill 153 = .ok (.getfield 32, 3) := by decide +kernel
theorem d_R_fill_156 : decode b_R_fill 156 = .ok (.iload_n 1, 1) := by decide +kernel
theorem d_R_fill_157 : decode b_R_fill 157 = .ok (.dup2, 1) := by decide +kernel
theorem d_R_fill_158 : decode b_R_fill 158 = .ok (.iaload, 1) := by decide +kernel
theorem d_R_fill_159 : decode b_R_fill 159 = .ok (.iconst 1, 1) := by decide +kernel
theorem d_R_fill_160 : decode b_R_fill 160 = .ok (.iadd, 1) := by decide +kernel
theorem d_R_fill_161 : decode b_R_fill 161 = .ok (.iastore, 1) := by decide +kernel
theorem d_R_fill_162 : decode b_R_fill 162 = .ok (.iinc 4 1, 3) := by decide +kernel
theorem d_R_fill_165 : decode b_R_fill 165 = .ok (.goto (-126), 3) := by decide +kernel
theorem d_R_fill_168 : decode b_R_fill 168 = .ok (.return_, 1) := by decide +kernel
theorem d_R_face_0 : decode b_R_face 0 = .ok (.iload_n 1, 1) := by decide +kernel
theorem d_R_face_1 : decode b_R_face 1 = .ok (.istore_n 2, 1) := by decide +kernel
theorem d_R_face_2 : decode b_R_face 2 = .ok (.aload_n 0, 1) := by decide +kernel
theorem d_R_face_3 : decode b_R_face 3 = .ok (.getfield 35, 3) := by decide +kernel
theorem d_R_face_6 : decode b_R_face 6 = .ok (.iload_n 2, 1) := by decide +kernel
theorem d_R_face_7 : decode b_R_face 7 = .ok (.iaload, 1) := by decide +kernel
theorem d_R_face_8 : decode b_R_face 8 = .ok (.iload_n 2, 1) := by decide +kernel
theorem d_R_face_9 : decode b_R_face 9 = .ok (.if_icmp .eq 13, 3) := by decide +kernel
theorem d_R_face_12 : decode b_R_face 12 = .ok (.aload_n 0, 1) := by decide +kernel
theorem d_R_face_13 : decode b_R_face 13 = .ok (.getfield 35, 3) := by decide +kernel
theorem d_R_face_16 : decode b_R_face 16 = .ok (.iload_n 2, 1) := by decide +kernel
theorem d_R_face_17 : decode b_R_face 17 = .ok (.iaload, 1) := by decide +kernel
theorem d_R_face_18 : decode b_R_face 18 = .ok (.istore_n 2, 1) := by decide +kernel
theorem d_R_face_19 : decode b_R_face 19 = .ok (.goto (-17), 3) := by decide +kernel
theorem d_R_face_22 : decode b_R_face 22 = .ok (.iload_n 2, 1) := by decide +kernel
theorem d_R_face_23 : decode b_R_face 23 = .ok (.ireturn, 1) := by decide +kernel
theorem d_R_open_0 : decode b_R_open 0 = .ok (.aload_n 0, 1) := by decide +kernel
theorem d_R_open_1 : decode b_R_open 1 = .ok (.getfield 26, 3) := by decide +kernel
theorem d_R_open_4 : decode b_R_open 4 = .ok (.iload_n 1, 1) := by decide +kernel
theorem d_R_open_5 : decode b_R_open 5 = .ok (.iaload, 1) := by decide +kernel
theorem d_R_open_6 : decode b_R_open 6 = .ok (.istore 4, 2) := by decide +kernel
theorem d_R_open_8 : decode b_R_open 8 = .ok (.aload_n 0, 1) := by decide +kernel
theorem d_R_open_9 : decode b_R_open 9 = .ok (.iload_n 1, 1) := by decide +kernel
theorem d_R_open_10 : decode b_R_open 10 = .ok (.iload_n 2, 1) := by decide +kernel
theorem d_R_open_11 : decode b_R_open 11 = .ok (.iload 4, 2) := by decide +kernel
theorem d_R_open_13 : decode b_R_open 13 = .ok (.invokevirtual 97, 3) := by decide +kernel
theorem d_R_open_16 : decode b_R_open 16 = .ok (.istore 5, 2) := by decide +kernel
theorem d_R_open_18 : decode b_R_open 18 = .ok (.aload_n 0, 1) := by decide +kernel
theorem d_R_open_19 : decode b_R_open 19 = .ok (.iload_n 1, 1) := by decide +kernel
theorem d_R_open_20 : decode b_R_open 20 = .ok (.iload_n 2, 1) := by decide +kernel
theorem d_R_open_21 : decode b_R_open 21 = .ok (.invokevirtual 100, 3) := by decide +kernel
theorem d_R_open_24 : decode b_R_open 24 = .ok (.istore 6, 2) := by decide +kernel
theorem d_R_open_26 : decode b_R_open 26 = .ok (.aload_n 0, 1) := by decide +kernel
theorem d_R_open_27 : decode b_R_open 27 = .ok (.iload_n 1, 1) := by decide +kernel
theorem d_R_open_28 : decode b_R_open 28 = .ok (.iconst 1, 1) := by decide +kernel
theorem d_R_open_29 : decode b_R_open 29 = .ok (.iadd, 1) := by decide +kernel
theorem d_R_open_30 : decode b_R_open 30 = .ok (.iload_n 3, 1) := by decide +kernel
theorem d_R_open_31 : decode b_R_open 31 = .ok (.iload 4, 2) := by decide +kernel
theorem d_R_open_33 : decode b_R_open 33 = .ok (.invokevirtual 97, 3) := by decide +kernel
theorem d_R_open_36 : decode b_R_open 36 = .ok (.istore 7, 2) := by decide +kernel
theorem d_R_open_38 : decode b_R_open 38 = .ok (.aload_n 0, 1) := by decide +kernel
theorem d_R_open_39 : decode b_R_open 39 = .ok (.iload_n 1, 1) := by decide +kernel
theorem d_R_open_40 : decode b_R_open 40 = .ok (.iconst 1, 1) := by decide +kernel
theorem d_R_open_41 : decode b_R_open 41 = .ok (.iadd, 1) := by decide +kernel
theorem d_R_open_42 : decode b_R_open 42 = .ok (.iload_n 3, 1) := by decide +kernel
theorem d_R_open_43 : decode b_R_open 43 = .ok (.invokevirtual 100, 3) := by decide +kernel
theorem d_R_open_46 : decode b_R_open 46 = .ok (.istore 8, 2) := by decide +kernel
theorem d_R_open_48 : decode b_R_open 48 = .ok (.iload 5, 2) := by decide +kernel
theorem d_R_open_50 : decode b_R_open 50 = .ok (.iload 6, 2) := by decide +kernel
theorem d_R_open_52 : decode b_R_open 52 = .ok (.iload 7, 2) := by decide +kernel
theorem d_R_open_54 : decode b_R_open 54 = .ok (.iload 8, 2) := by decide +kernel
theorem d_R_open_56 : decode b_R_open 56 = .ok (.invokestatic 90, 3) := by decide +kernel
theorem d_R_open_59 : decode b_R_open 59 = .ok (.istore 9, 2) := by decide +kernel
theorem d_R_open_61 : decode b_R_open 61 = .ok (.iload 9, 2) := by decide +kernel
theorem d_R_open_63 : decode b_R_open 63 = .ok (.ifCond .eq 8, 3) := by decide +kernel
theorem d_R_open_66 : decode b_R_open 66 = .ok (.iload 7, 2) := by decide +kernel
theorem d_R_open_68 : decode b_R_open 68 = .ok (.goto 5, 3) := by decide +kernel
theorem d_R_open_71 : decode b_R_open 71 = .ok (.iload 5, 2) := by decide +kernel
theorem d_R_open_73 : decode b_R_open 73 = .ok (.istore 10, 2) := by decide +kernel
theorem d_R_open_75 : decode b_R_open 75 = .ok (.iload 9, 2) := by decide +kernel
theorem d_R_open_77 : decode b_R_open 77 = .ok (.ifCond .eq 8, 3) := by decide +kernel
theorem d_R_open_80 : decode b_R_open 80 = .ok (.iload 8, 2) := by decide +kernel
theorem d_R_open_82 : decode b_R_open 82 = .ok (.goto 5, 3) := by decide +kernel
theorem d_R_open_85 : decode b_R_open 85 = .ok (.iload 6, 2) := by decide +kernel
theorem d_R_open_87 : decode b_R_open 87 = .ok (.istore 11, 2) := by decide +kernel
theorem d_R_open_89 : decode b_R_open 89 = .ok (.aload_n 0, 1) := by decide +kernel
theorem d_R_open_90 : decode b_R_open 90 = .ok (.iload_n 1, 1) := by decide +kernel
theorem d_R_open_91 : decode b_R_open 91 = .ok (.iload_n 2, 1) := by decide +kernel
theorem d_R_open_92 : decode b_R_open 92 = .ok (.iload 4, 2) := by decide +kernel
theorem d_R_open_94 : decode b_R_open 94 = .ok (.invokevirtual 103, 3) := by decide +kernel
theorem d_R_open_97 : decode b_R_open 97 = .ok (.istore 5, 2) := by decide +kernel
theorem d_R_open_99 : decode b_R_open 99 = .ok (.aload_n 0, 1) := by decide +kernel
theorem d_R_open_100 : decode b_R_open 100 = .ok (.iload_n 1, 1) := by decide +kernel
theorem d_R_open_101 : decode b_R_open 101 = .ok (.iload_n 2, 1) := by decide +kernel
theorem d_R_open_102 : decode b_R_open 102 = .ok (.invokevirtual 106, 3) := by decide +kernel
theorem d_R_open_105 : decode b_R_open 105 = .ok (.istore 6, 2) := by decide +kernel
theorem d_R_open_107 : decode b_R_open 107 = .ok (.aload_n 0, 1) := by decide +kernel
theorem d_R_open_108 : decode b_R_open 108 = .ok (.iload_n 1, 1) := by decide +kernel
theorem d_R_open_109 : decode b_R_open 109 = .ok (.iconst 1, 1) := by decide +kernel
theorem d_R_open_110 : decode b_R_open 110 = .ok (.iadd, 1) := by decide +kernel
theorem d_R_open_111 : decode b_R_open 111 = .ok (.iload_n 3, 1) := by decide +kernel
theorem d_R_open_112 : decode b_R_open 112 = .ok (.iload 4, 2) := by decide +kernel
theorem d_R_open_114 : decode b_R_open 114 = .ok (.invokevirtual 103, 3) := by decide +kernel
theorem d_R_open_117 : decode b_R_open 117 = .ok (.istore 7, 2) := by decide +kernel
theorem d_R_open_119 : decode b_R_open 119 = .ok (.aload_n 0, 1) := by decide +kernel
theorem d_R_open_120 : decode b_R_open 120 = .ok (.iload_n 1, 1) := by decide +kernel
theorem d_R_open_121 : decode b_R_open 121 = .ok (.iconst 1, 1) := by decide +kernel
theorem d_R_open_122 : decode b_R_open 122 = .ok (.iadd, 1) := by decide +kernel
theorem d_R_open_123 : decode b_R_open 123 = .ok (.iload_n 3, 1) := by decide +kernel
theorem d_R_open_124 : decode b_R_open 124 = .ok (.invokevirtual 106, 3) := by decide +kernel
theorem d_R_open_127 : decode b_R_open 127 = .ok (.istore 8, 2) := by decide +kernel
theorem d_R_open_129 : decode b_R_open 129 = .ok (.iload 7, 2) := by decide +kernel
theorem d_R_open_131 : decode b_R_open 131 = .ok (.iload 8, 2) := by decide +kernel
theorem d_R_open_133 : decode b_R_open 133 = .ok (.iload 5, 2) := by decide +kernel
theorem d_R_open_135 : decode b_R_open 135 = .ok (.iload 6, 2) := by decide +kernel
theorem d_R_open_137 : decode b_R_open 137 = .ok (.invokestatic 90, 3) := by decide +kernel
theorem d_R_open_140 : decode b_R_open 140 = .ok (.istore 9, 2) := by decide +kernel
theorem d_R_open_142 : decode b_R_open 142 = .ok (.iload 9, 2) := by decide +kernel
theorem d_R_open_144 : decode b_R_open 144 = .ok (.ifCond .eq 8, 3) := by decide +kernel
theorem d_R_open_147 : decode b_R_open 147 = .ok (.iload 7, 2) := by decide +kernel
theorem d_R_open_149 : decode b_R_open 149 = .ok (.goto 5, 3) := by decide +kernel
theorem d_R_open_152 : decode b_R_open 152 = .ok (.iload 5, 2) := by decide +kernel
theorem d_R_open_154 : decode b_R_open 154 = .ok (.istore 12, 2) := by decide +kernel
theorem d_R_open_156 : decode b_R_open 156 = .ok (.iload 9, 2) := by decide +kernel
theorem d_R_open_158 : decode b_R_open 158 = .ok (.ifCond .eq 8, 3) := by decide +kernel
theorem d_R_open_161 : decode b_R_open 161 = .ok (.iload 8, 2) := by decide +kernel
theorem d_R_open_163 : decode b_R_open 163 = .ok (.goto 5, 3) := by decide +kernel
theorem d_R_open_166 : decode b_R_open 166 = .ok (.iload 6, 2) := by decide +kernel
theorem d_R_open_168 : decode b_R_open 168 = .ok (.istore 13, 2) := by decide +kernel
theorem d_R_open_170 : decode b_R_open 170 = .ok (.iconst 1, 1) := by decide +kernel
theorem d_R_open_171 : decode b_R_open 171 = .ok (.istore 14, 2) := by decide +kernel
theorem d_R_open_173 : decode b_R_open 173 = .ok (.iload 14, 2) := by decide +kernel
theorem d_R_open_175 : decode b_R_open 175 = .ok (.ifCond .eq 107, 3) := by decide +kernel
theorem d_R_open_178 : decode b_R_open 178 = .ok (.iconst 0, 1) := by decide +kernel
theorem d_R_open_179 : decode b_R_open 179 = .ok (.istore 14, 2) := by decide +kernel
theorem d_R_open_181 : decode b_R_open 181 = .ok (.iconst 0, 1) := by decide +kernel
theorem d_R_open_182 : decode b_R_open 182 = .ok (.istore 15, 2) := by decide +kernel
theorem d_R_open_184 : decode b_R_open 184 = .ok (.iload 15, 2) := by decide +kernel
theorem d_R_open_186 : decode b_R_open 186 = .ok (.bipush 20, 2) := by decide +kernel
theorem d_R_open_188 : decode b_R_open 188 = .ok (.if_icmp .ge 91, 3) := by decide +kernel
theorem d_R_open_191 : decode b_R_open 191 = .ok (.aload_n 0, 1) := by decide +kernel
theorem d_R_open_192 : decode b_R_open 192 = .ok (.getfield 7, 3) := by decide +kernel
theorem d_R_open_195 : decode b_R_open 195 = .ok (.iload 15, 2) := by decide +kernel
theorem d_R_open_197 : decode b_R_open 197 = .ok (.baload, 1) := by decide +kernel
theorem d_R_open_198 : decode b_R_open 198 = .ok (.ifCond .eq 75, 3) := by decide +kernel
theorem d_R_open_201 : decode b_R_open 201 = .ok (.aload_n 0, 1) := by decide +kernel
theorem d_R_open_202 : decode b_R_open 202 = .ok (.iload 15, 2) := by decide +kernel
theorem d_R_open_204 : decode b_R_open 204 = .ok (.invokevirtual 109, 3) := by decide +kernel
theorem d_R_open_207 : decode b_R_open 207 = .ok (.ifCond .eq 66, 3) := by decide +kernel
theorem d_R_open_210 : decode b_R_open 210 = .ok (.aload_n 0, 1) := by decide +kernel
theorem d_R_open_211 : decode b_R_open 211 = .ok (.getfield 13, 3) := by decide +kernel
theorem d_R_open_214 : decode b_R_open 214 = .ok (.iload 15, 2) := by decide +kernel
theorem d_R_open_216 : decode b_R_open 216 = .ok (.iaload, 1) := by decide +kernel
theorem d_R_open_217 : decode b_R_open 217 = .ok (.iload 4, 2) := by decide +kernel
theorem d_R_open_219 : decode b_R_open 219 = .ok (.if_icmp .ne 54, 3) := by decide +kernel
theorem d_R_open_222 : decode b_R_open 222 = .ok (.iload 10, 2) := by decide +kernel
theorem d_R_open_224 : decode b_R_open 224 = .ok (.iload 11, 2) := by decide +kernel
theorem d_R_open_226 : decode b_R_open 226 = .ok (.aload_n 0, 1) := by decide +kernel
theorem d_R_open_227 : decode b_R_open 227 = .ok (.getfield 17, 3) := by decide +kernel
theorem d_R_open_230 : decode b_R_open 230 = .ok (.iload 15, 2) := by decide +kernel
theorem d_R_open_232 : decode b_R_open 232 = .ok (.iaload, 1) := by decide +kernel
theorem d_R_open_233 : decode b_R_open 233 = .ok (.iconst 1, 1) := by decide +kernel
theorem d_R_open_234 : decode b_R_open 234 = .ok (.invokestatic 90, 3) := by decide +kernel
theorem d_R_open_237 : decode b_R_open 237 = .ok (.ifCond .ne 36, 3) := by decide +kernel
theorem d_R_open_240 : decode b_R_open 240 = .ok (.iload 10, 2) := by decide +kernel
theorem d_R_open_242 : decode b_R_open 242 = .ok (.iload 11, 2) := by decide +kernel
theorem d_R_open_244 : decode b_R_open 244 = .ok (.aload_n 0, 1) := by decide +kernel
theorem d_R_open_245 : decode b_R_open 245 = .ok (.getfield 23, 3) := by decide +kernel
theorem d_R_open_248 : decode b_R_open 248 = .ok (.iload 15, 2) := by decide +kernel
theorem d_R_open_250 : decode b_R_open 250 = .ok (.iaload, 1) := by decide +kernel
theorem d_R_open_251 : decode b_R_open 251 = .ok (.iconst 1, 1) := by decide +kernel
theorem d_R_open_252 : decode b_R_open 252 = .ok (.invokestatic 90, 3) := by decide +kernel
theorem d_R_open_255 : decode b_R_open 255 = .ok (.ifCond .eq 18, 3) := by decide +kernel
theorem d_R_open_258 : decode b_R_open 258 = .ok (.aload_n 0, 1) := by decide +kernel
theorem d_R_open_259 : decode b_R_open 259 = .ok (.getfield 23, 3) := by decide +kernel
theorem d_R_open_262 : decode b_R_open 262 = .ok (.iload 15, 2) := by decide +kernel
theorem d_R_open_264 : decode b_R_open 264 = .ok (.iaload, 1) := by decide +kernel
theorem d_R_open_265 : decode b_R_open 265 = .ok (.istore 10, 2) := by decide +kernel
theorem d_R_open_267 : decode b_R_open 267 = .ok (.iconst 1, 1) := by decide +kernel
theorem d_R_open_268 : decode b_R_open 268 = .ok (.istore 11, 2) := by decide +kernel
theorem d_R_open_270 : decode b_R_open 270 = .ok (.iconst 1, 1) := by decide +kernel
theorem d_R_open_271 : decode b_R_open 271 = .ok (.istore 14, 2) := by decide +kernel
theorem d_R_open_273 : decode b_R_open 273 = .ok (.iinc 15 1, 3) := by decide +kernel
theorem d_R_open_276 : decode b_R_open 276 = .ok (.goto (-92), 3) := by decide +kernel
theorem d_R_open_279 : decode b_R_open 279 = .ok (.goto (-106), 3) := by decide +kernel
theorem d_R_open_282 : decode b_R_open 282 = .ok (.iload 10, 2) := by decide +kernel
theorem d_R_open_284 : decode b_R_open 284 = .ok (.iload 11, 2) := by decide +kernel
theorem d_R_open_286 : decode b_R_open 286 = .ok (.iload 12, 2) := by decide +kernel
theorem d_R_open_288 : decode b_R_open 288 = .ok (.iload 13, 2) := by decide +kernel
theorem d_R_open_290 : decode b_R_open 290 = .ok (.invokestatic 90, 3) := by decide +kernel
theorem d_R_open_293 : decode b_R_open 293 = .ok (.ireturn, 1) := by decide +kernel
theorem d_R_look_0 : decode b_R_look 0 = .ok (.aload_n 0, 1) := by decide +kernel
theorem d_R_look_1 : decode b_R_look 1 = .ok (.getfield 61, 3) := by decide +kernel
theorem d_R_look_4 : decode b_R_look 4 = .ok (.ifCond .eq 4, 3) := by decide +kernel
theorem d_R_look_7 : decode b_R_look 7 = .ok (.return_, 1) := by decide +kernel
theorem d_R_look_8 : decode b_R_look 8 = .ok (.aload_n 0, 1) := by decide +kernel
theorem d_R_look_9 : decode b_R_look 9 = .ok (.iconst 1, 1) := by decide +kernel
theorem d_R_look_10 : decode b_R_look 10 = .ok (.putfield 61, 3) := by decide +kernel
theorem d_R_look_13 : decode b_R_look 13 = .ok (.aload_n 0, 1) := by decide +kernel
theorem d_R_look_14 : decode b_R_look 14 = .ok (.iconst 0, 1) := by decide +kernel
theorem d_R_look_15 : decode b_R_look 15 = .ok (.putfield 86, 3) := by decide +kernel
theorem d_R_look_18 : decode b_R_look 18 = .ok (.iconst 0, 1) := by decide +kernel
theorem d_R_look_19 : decode b_R_look 19 = .ok (.istore_n 1, 1) := by decide +kernel
theorem d_R_look_20 : decode b_R_look 20 = .ok (.iload_n 1, 1) := by decide +kernel
theorem d_R_look_21 : decode b_R_look 21 = .ok (.bipush 20, 2) := by decide +kernel
theorem d_R_look_23 : decode b_R_look 23 = .ok (.if_icmp .ge 38, 3) := by decide +kernel
theorem d_R_look_26 : decode b_R_look 26 = .ok (.aload_n 0, 1) := by decide +kernel
theorem d_R_look_27 : decode b_R_look 27 = .ok (.getfield 7, 3) := by decide +kernel
theorem d_R_look_30 : decode b_R_look 30 = .ok (.iload_n 1, 1) := by decide +kernel
theorem d_R_look_31 : decode b_R_look 31 = .ok (.baload, 1) := by decide +kernel
theorem d_R_look_32 : decode b_R_look 32 = .ok (.ifCond .eq 23, 3) := by decide +kernel
theorem d_R_look_35 : decode b_R_look 35 = .ok (.aload_n 0, 1) := by decide +kernel
theorem d_R_look_36 : decode b_R_look 36 = .ok (.aload_n 0, 1) := by decide +kernel
theorem d_R_look_37 : decode b_R_look 37 = .ok (.getfield 13, 3) := by decide +kernel
theorem d_R_look_40 : decode b_R_look 40 = .ok (.iload_n 1, 1) := by decide +kernel
theorem d_R_look_41 : decode b_R_look 41 = .ok (.iaload, 1) := by decide +kernel
theorem d_R_look_42 : decode b_R_look 42 = .ok (.invokevirtual 112, 3) := by decide +kernel
theorem d_R_look_45 : decode b_R_look 45 = .ok (.aload_n 0, 1) := by decide +kernel
theorem d_R_look_46 : decode b_R_look 46 = .ok (.aload_n 0, 1) := by decide +kernel
theorem d_R_look_47 : decode b_R_look 47 = .ok (.getfield 20, 3) := by decide +kernel
theorem d_R_look_50 : decode b_R_look 50 = .ok (.iload_n 1, 1) := by decide +kernel
theorem d_R_look_51 : decode b_R_look 51 = .ok (.iaload, 1) := by decide +kernel
theorem d_R_look_52 : decode b_R_look 52 = .ok (.invokevirtual 112, 3) := by decide +kernel
theorem d_R_look_55 : decode b_R_look 55 = .ok (.iinc 1 1, 3) := by decide +kernel
theorem d_R_look_58 : decode b_R_look 58 = .ok (.goto (-38), 3) := by decide +kernel
theorem d_R_look_61 : decode b_R_look 61 = .ok (.iconst 0, 1) := by decide +kernel
theorem d_R_look_62 : decode b_R_look 62 = .ok (.istore_n 1, 1) := by decide +kernel
theorem d_R_look_63 : decode b_R_look 63 = .ok (.iload_n 1, 1) := by decide +kernel
theorem d_R_look_64 : decode b_R_look 64 = .ok (.aload_n 0, 1) := by decide +kernel
theorem d_R_look_65 : decode b_R_look 65 = .ok (.getfield 86, 3) := by decide +kernel
theorem d_R_look_68 : decode b_R_look 68 = .ok (.if_icmp .gt 49, 3) := by decide +kernel
theorem d_R_look_71 : decode b_R_look 71 = .ok (.aload_n 0, 1) := by decide +kernel
theorem d_R_look_72 : decode b_R_look 72 = .ok (.iload_n 1, 1) := by decide +kernel
theorem d_R_look_73 : decode b_R_look 73 = .ok (.invokevirtual 116, 3) := by decide +kernel
theorem d_R_look_76 : decode b_R_look 76 = .ok (.iconst 0, 1) := by decide +kernel
theorem d_R_look_77 : decode b_R_look 77 = .ok (.istore_n 2, 1) := by decide +kernel
theorem d_R_look_78 : decode b_R_look 78 = .ok (.iload_n 2, 1) := by decide +kernel
theorem d_R_look_79 : decode b_R_look 79 = .ok (.aload_n 0, 1) := by decide +kernel
theorem d_R_look_80 : decode b_R_look 80 = .ok (.getfield 32, 3) := by decide +kernel
theorem d_R_look_83 : decode b_R_look 83 = .ok (.iload_n 1, 1) := by decide +kernel
theorem d_R_look_84 : decode b_R_look 84 = .ok (.iaload, 1) := by decide +kernel
theorem d_R_look_85 : decode b_R_look 85 = .ok (.if_icmp .gt 26, 3) := by decide +kernel
theorem d_R_look_88 : decode b_R_look 88 = .ok (.aload_n 0, 1) := by decide +kernel
theorem d_R_look_89 : decode b_R_look 89 = .ok (.getfield 35, 3) := by decide +kernel
theorem d_R_look_92 : decode b_R_look 92 = .ok (.bipush 21, 2) := by decide +kernel
theorem d_R_look_94 : decode b_R_look 94 = .ok (.iload_n 1, 1) := by decide +kernel
theorem d_R_look_95 : decode b_R_look 95 = .ok (.imul, 1) := by decide +kernel
theorem d_R_look_96 : decode b_R_look 96 = .ok (.iload_n 2, 1) := by decide +kernel
theorem d_R_look_97 : decode b_R_look 97 = .ok (.iadd, 1) := by decide +kernel
theorem d_R_look_98 : decode b_R_look 98 = .ok (.bipush 21, 2) := by decide +kernel
theorem d_R_look_100 : decode b_R_look 100 = .ok (.iload_n 1, 1) := by decide +kernel
theorem d_R_look_101 : decode b_R_look 101 = .ok (.imul, 1) := by decide +kernel
theorem d_R_look_102 : decode b_R_look 102 = .ok (.iload_n 2, 1) := by decide +kernel
theorem d_R_look_103 : decode b_R_look 103 = .ok (.iadd, 1) := by decide +kernel
theorem d_R_look_104 : decode b_R_look 104 = .ok (.iastore, 1) := by decide +kernel
theorem d_R_look_105 : decode b_R_look 105 = .ok (.iinc 2 1, 3) := by decide +kernel
theorem d_R_look_108 : decode b_R_look 108 = .ok (.goto (-30), 3) := by decide +kernel
theorem d_R_look_111 : decode b_R_look 111 = .ok (.iinc 1 1, 3) := by decide +kernel
theorem d_R_look_114 : decode b_R_look 114 = .ok (.goto (-51), 3) := by decide +kernel
theorem d_R_look_117 : decode b_R_look 117 = .ok (.iconst 0, 1) := by decide +kernel
theorem d_R_look_118 : decode b_R_look 118 = .ok (.istore_n 1, 1) := by decide +kernel
theorem d_R_look_119 : decode b_R_look 119 = .ok (.iload_n 1, 1) := by decide +kernel
theorem d_R_look_120 : decode b_R_look 120 = .ok (.aload_n 0, 1) := by decide +kernel
theorem d_R_look_121 : decode b_R_look 121 = .ok (.getfield 86, 3) := by decide +kernel
theorem d_R_look_124 : decode b_R_look 124 = .ok (.if_icmp .ge 85, 3) := by decide +kernel
theorem d_R_look_127 : decode b_R_look 127 = .ok (.iconst 0, 1) := by decide +kernel
theorem d_R_look_128 : decode b_R_look 128 = .ok (.istore_n 2, 1) := by decide +kernel
theorem d_R_look_129 : decode b_R_look 129 = .ok (.iload_n 2, 1) := by decide +kernel
theorem d_R_look_130 : decode b_R_look 130 = .ok (.aload_n 0, 1) := by decide +kernel
theorem d_R_look_131 : decode b_R_look 131 = .ok (.getfield 32, 3) := by decide +kernel
theorem d_R_look_134 : decode b_R_look 134 = .ok (.iload_n 1, 1) := by decide +kernel
theorem d_R_look_135 : decode b_R_look 135 = .ok (.iaload, 1) := by decide +kernel
theorem d_R_look_136 : decode b_R_look 136 = .ok (.if_icmp .gt 67, 3) := by decide +kernel
theorem d_R_look_139 : decode b_R_look 139 = .ok (.iconst 0, 1) := by decide +kernel
theorem d_R_look_140 : decode b_R_look 140 = .ok (.istore_n 3, 1) := by decide +kernel
theorem d_R_look_141 : decode b_R_look 141 = .ok (.iload_n 3, 1) := by decide +kernel
theorem d_R_look_142 : decode b_R_look 142 = .ok (.aload_n 0, 1) := by decide +kernel
theorem d_R_look_143 : decode b_R_look 143 = .ok (.getfield 32, 3) := by decide +kernel
theorem d_R_look_146 : decode b_R_look 146 = .ok (.iload_n 1, 1) := by decide +kernel
theorem d_R_look_147 : decode b_R_look 147 = .ok (.iconst 1, 1) := by decide +kernel
theorem d_R_look_148 : decode b_R_look 148 = .ok (.iadd, 1) := by decide +kernel
theorem d_R_look_149 : decode b_R_look 149 = .ok (.iaload, 1) := by decide +kernel
theorem d_R_look_150 : decode b_R_look 150 = .ok (.if_icmp .gt 47, 3) := by decide +kernel
theorem d_R_look_153 : decode b_R_look 153 = .ok (.aload_n 0, 1) := by decide +kernel
theorem d_R_look_154 : decode b_R_look 154 = .ok (.iload_n 1, 1) := by decide +kernel
theorem d_R_look_155 : decode b_R_look 155 = .ok (.iload_n 2, 1) := by decide +kernel
theorem d_R_look_156 : decode b_R_look 156 = .ok (.iload_n 3, 1) := by decide +kernel
theorem d_R_look_157 : decode b_R_look 157 = .ok (.invokevirtual 119, 3) := by decide +kernel
theorem d_R_look_160 : decode b_R_look 160 = .ok (.ifCond .eq 31, 3) := by decide +kernel
theorem d_R_look_163 : decode b_R_look 163 = .ok (.aload_n 0, 1) := by decide +kernel
theorem d_R_look_164 : decode b_R_look 164 = .ok (.getfield 35, 3) := by decide +kernel
theorem d_R_look_167 : decode b_R_look 167 = .ok (.aload_n 0, 1) := by decide +kernel
theorem d_R_look_168 : decode b_R_look 168 = .ok (.bipush 21, 2) := by decide +kernel
theorem d_R_look_170 : decode b_R_look 170 = .ok (.iload_n 1, 1) := by decide +kernel
theorem d_R_look_171 : decode b_R_look 171 = .ok (.imul, 1) := by decide +kernel
theorem d_R_look_172 : decode b_R_look 172 = .ok (.iload_n 2, 1) := by decide +kernel
theorem d_R_look_173 : decode b_R_look 173 = .ok (.iadd, 1) := by decide +kernel
theorem d_R_look_174 : decode b_R_look 174 = .ok (.invokevirtual 122, 3) := by decide +kernel
theorem d_R_look_177 : decode b_R_look 177 = .ok (.aload_n 0, 1) := by decide +kernel
theorem d_R_look_178 : decode b_R_look 178 = .ok (.bipush 21, 2) := by decide +kernel
theorem d_R_look_180 : decode b_R_look 180 = .ok (.iload_n 1, 1) := by decide +kernel
theorem d_R_look_181 : decode b_R_look 181 = .ok (.imul, 1) := by decide +kernel
theorem d_R_look_182 : decode b_R_look 182 = .ok (.bipush 21, 2) := by decide +kernel
theorem d_R_look_184 : decode b_R_look 184 = .ok (.iadd, 1) := by decide +kernel
theorem d_R_look_185 : decode b_R_look 185 = .ok (.iload_n 3, 1) := by decide +kernel
theorem d_R_look_186 : decode b_R_look 186 = .ok (.iadd, 1) := by decide +kernel
theorem d_R_look_187 : decode b_R_look 187 = .ok (.invokevirtual 122, 3) := by decide +kernel
theorem d_R_look_190 : decode b_R_look 190 = .ok (.iastore, 1) := by decide +kernel
theorem d_R_look_191 : decode b_R_look 191 = .ok (.iinc 3 1, 3) := by decide +kernel
theorem d_R_look_194 : decode b_R_look 194 = .ok (.goto (-53), 3) := by decide +kernel
theorem d_R_look_197 : decode b_R_look 197 = .ok (.iinc 2 1, 3) := by decide +kernel
theorem d_R_look_200 : decode b_R_look 200 = .ok (.goto (-71), 3) := by decide +kernel
theorem d_R_look_203 : decode b_R_look 203 = .ok (.iinc 1 1, 3) := by decide +kernel
theorem d_R_look_206 : decode b_R_look 206 = .ok (.goto (-87), 3) := by decide +kernel
theorem d_R_look_209 : decode b_R_look 209 = .ok (.return_, 1) := by decide +kernel
theorem d_R_faces_0 : decode b_R_faces 0 = .ok (.aload_n 0, 1) := by decide +kernel
theorem d_R_faces_1 : decode b_R_faces 1 = .ok (.invokevirtual 125, 3) := by decide +kernel
theorem d_R_faces_4 : decode b_R_faces 4 = .ok (.iconst 0, 1) := by decide +kernel
theorem d_R_faces_5 : decode b_R_faces 5 = .ok (.istore_n 1, 1) := by decide +kernel
theorem d_R_faces_6 : decode b_R_faces 6 = .ok (.iconst 0, 1) := by decide +kernel
theorem d_R_faces_7 : decode b_R_faces 7 = .ok (.istore_n 2, 1) := by decide +kernel
theorem d_R_faces_8 : decode b_R_faces 8 = .ok (.iload_n 2, 1) := by decide +kernel
theorem d_R_faces_9 : decode b_R_faces 9 = .ok (.aload_n 0, 1) := by decide +kernel
theorem d_R_faces_10 : decode b_R_faces 10 = .ok (.getfield 86, 3) := by decide +kernel
theorem d_R_faces_13 : decode b_R_faces 13 = .ok (.if_icmp .gt 55, 3) := by decide +kernel
theorem d_R_faces_16 : decode b_R_faces 16 = .ok (.iconst 0, 1) := by decide +kernel
theorem d_R_faces_17 : decode b_R_faces 17 = .ok (.istore_n 3, 1) := by decide +kernel
theorem d_R_faces_18 : decode b_R_faces 18 = .ok (.iload_n 3, 1) := by decide +kernel
theorem d_R_faces_19 : decode b_R_faces 19 = .ok (.aload_n 0, 1) := by decide +kernel
theorem d_R_faces_20 : decode b_R_faces 20 = .ok (.getfield 32, 3) := by decide +kernel
theorem d_R_faces_23 : decode b_R_faces 23 = .ok (.iload_n 2, 1) := by decide +kernel
theorem d_R_faces_24 : decode b_R_faces 24 = .ok (.iaload, 1) := by decide +kernel
theorem d_R_faces_25 : decode b_R_faces 25 = .ok (.if_icmp .gt 37, 3) := by decide +kernel
theorem d_R_faces_28 : decode b_R_faces 28 = .ok (.aload_n 0, 1) := by decide +kernel
theorem d_R_faces_29 : decode b_R_faces 29 = .ok (.getfield 35, 3) := by decide +kernel
theorem d_R_faces_32 : decode b_R_faces 32 = .ok (.bipush 21, 2) := by decide +kernel
theorem d_R_faces_34 : decode b_R_faces 34 = .ok (.iload_n 2, 1) := by decide +kernel
theorem d_R_faces_35 : decode b_R_faces 35 = .ok (.imul, 1) := by decide +kernel
theorem d_R_faces_36 : decode b_R_faces 36 = .ok (.iload_n 3, 1) := by decide +kernel
theorem d_R_faces_37 : decode b_R_faces 37 = .ok (.iadd, 1) := by decide +kernel
theorem d_R_faces_38 : decode b_R_faces 38 = .ok (.iaload, 1) := by decide +kernel
theorem d_R_faces_39 : decode b_R_faces 39 = .ok (.bipush 21, 2) := by decide +kernel
theorem d_R_faces_41 : decode b_R_faces 41 = .ok (.iload_n 2, 1) := by decide +kernel
theorem d_R_faces_42 : decode b_R_faces 42 = .ok (.imul, 1) := by decide +kernel
theorem d_R_faces_43 : decode b_R_faces 43 = .ok (.iload_n 3, 1) := by decide +kernel
theorem d_R_faces_44 : decode b_R_faces 44 = .ok (.iadd, 1) := by decide +kernel
theorem d_R_faces_45 : decode b_R_faces 45 = .ok (.if_icmp .ne 9, 3) := by decide +kernel
theorem d_R_faces_48 : decode b_R_faces 48 = .ok (.iload_n 1, 1) := by decide +kernel
theorem d_R_faces_49 : decode b_R_faces 49 = .ok (.iconst 1, 1) := by decide +kernel
theorem d_R_faces_50 : decode b_R_faces 50 = .ok (.iadd, 1) := by decide +kernel
theorem d_R_faces_51 : decode b_R_faces 51 = .ok (.goto 4, 3) := by decide +kernel
theorem d_R_faces_54 : decode b_R_faces 54 = .ok (.iload_n 1, 1) := by decide +kernel
theorem d_R_faces_55 : decode b_R_faces 55 = .ok (.istore_n 1, 1) := by decide +kernel
theorem d_R_faces_56 : decode b_R_faces 56 = .ok (.iinc 3 1, 3) := by decide +kernel
theorem d_R_faces_59 : decode b_R_faces 59 = .ok (.goto (-41), 3) := by decide +kernel
theorem d_R_faces_62 : decode b_R_faces 62 = .ok (.iinc 2 1, 3) := by decide +kernel
theorem d_R_faces_65 : decode b_R_faces 65 = .ok (.goto (-57), 3) := by decide +kernel
theorem d_R_faces_68 : decode b_R_faces 68 = .ok (.iload_n 1, 1) := by decide +kernel
theorem d_R_faces_69 : decode b_R_faces 69 = .ok (.ireturn, 1) := by decide +kernel
theorem d_R_cellAt_0 : decode b_R_cellAt 0 = .ok (.iconst (-1), 1) := by decide +kernel
theorem d_R_cellAt_1 : decode b_R_cellAt 1 = .ok (.istore 4, 2) := by decide +kernel
theorem d_R_cellAt_3 : decode b_R_cellAt 3 = .ok (.iconst 0, 1) := by decide +kernel
theorem d_R_cellAt_4 : decode b_R_cellAt 4 = .ok (.istore 5, 2) := by decide +kernel
theorem d_R_cellAt_6 : decode b_R_cellAt 6 = .ok (.iload 5, 2) := by decide +kernel
theorem d_R_cellAt_8 : decode b_R_cellAt 8 = .ok (.aload_n 0, 1) := by decide +kernel
theorem d_R_cellAt_9 : decode b_R_cellAt 9 = .ok (.getfield 32, 3) := by decide +kernel
theorem d_R_cellAt_12 : decode b_R_cellAt 12 = .ok (.iload_n 1, 1) := by decide +kernel
theorem d_R_cellAt_13 : decode b_R_cellAt 13 = .ok (.iaload, 1) := by decide +kernel
theorem d_R_cellAt_14 : decode b_R_cellAt 14 = .ok (.if_icmp .gt 81, 3) := by decide +kernel
theorem d_R_cellAt_17 : decode b_R_cellAt 17 = .ok (.aload_n 0, 1) := by decide +kernel
theorem d_R_cellAt_18 : decode b_R_cellAt 18 = .ok (.iload_n 1, 1) := by decide +kernel
theorem d_R_cellAt_19 : decode b_R_cellAt 19 = .ok (.iload 5, 2) := by decide +kernel
theorem d_R_cellAt_21 : decode b_R_cellAt 21 = .ok (.iload_n 2, 1) := by decide +kernel
theorem d_R_cellAt_22 : decode b_R_cellAt 22 = .ok (.invokevirtual 97, 3) := by decide +kernel
theorem d_R_cellAt_25 : decode b_R_cellAt 25 = .ok (.aload_n 0, 1) := by decide +kernel
theorem d_R_cellAt_26 : decode b_R_cellAt 26 = .ok (.iload_n 1, 1) := by decide +kernel
theorem d_R_cellAt_27 : decode b_R_cellAt 27 = .ok (.iload 5, 2) := by decide +kernel
theorem d_R_cellAt_29 : decode b_R_cellAt 29 = .ok (.invokevirtual 100, 3) := by decide +kernel
theorem d_R_cellAt_32 : decode b_R_cellAt 32 = .ok (.iload_n 3, 1) := by decide +kernel
theorem d_R_cellAt_33 : decode b_R_cellAt 33 = .ok (.iconst 2, 1) := by decide +kernel
theorem d_R_cellAt_34 : decode b_R_cellAt 34 = .ok (.invokestatic 90, 3) := by decide +kernel
theorem d_R_cellAt_37 : decode b_R_cellAt 37 = .ok (.ifCond .eq 30, 3) := by decide +kernel
theorem d_R_cellAt_40 : decode b_R_cellAt 40 = .ok (.iload_n 3, 1) := by decide +kernel
theorem d_R_cellAt_41 : decode b_R_cellAt 41 = .ok (.iconst 2, 1) := by decide +kernel
theorem d_R_cellAt_42 : decode b_R_cellAt 42 = .ok (.aload_n 0, 1) := by decide +kernel
theorem d_R_cellAt_43 : decode b_R_cellAt 43 = .ok (.iload_n 1, 1) := by decide +kernel
theorem d_R_cellAt_44 : decode b_R_cellAt 44 = .ok (.iload 5, 2) := by decide +kernel
theorem d_R_cellAt_46 : decode b_R_cellAt 46 = .ok (.iload_n 2, 1) := by decide +kernel
theorem d_R_cellAt_47 : decode b_R_cellAt 47 = .ok (.invokevirtual 103, 3) := by decide +kernel
theorem d_R_cellAt_50 : decode b_R_cellAt 50 = .ok (.aload_n 0, 1) := by decide +kernel
theorem d_R_cellAt_51 : decode b_R_cellAt 51 = .ok (.iload_n 1, 1) := by decide +kernel
theorem d_R_cellAt_52 : decode b_R_cellAt 52 = .ok (.iload 5, 2) := by decide +kernel
theorem d_R_cellAt_54 : decode b_R_cellAt 54 = .ok (.invokevirtual 106, 3) := by decide +kernel
theorem d_R_cellAt_57 : decode b_R_cellAt 57 = .ok (.invokestatic 90, 3) := by decide +kernel
theorem d_R_cellAt_60 : decode b_R_cellAt 60 = .ok (.ifCond .eq 7, 3) := by decide +kernel
theorem d_R_cellAt_63 : decode b_R_cellAt 63 = .ok (.iconst 1, 1) := by decide +kernel
theorem d_R_cellAt_64 : decode b_R_cellAt 64 = .ok (.goto 4, 3) := by decide +kernel
theorem d_R_cellAt_67 : decode b_R_cellAt 67 = .ok (.iconst 0, 1) := by decide +kernel
theorem d_R_cellAt_68 : decode b_R_cellAt 68 = .ok (.istore 6, 2) := by decide +kernel
theorem d_R_cellAt_70 : decode b_R_cellAt 70 = .ok (.iload 6, 2) := by decide +kernel
theorem d_R_cellAt_72 : decode b_R_cellAt 72 = .ok (.ifCond .eq 13, 3) := by decide +kernel
theorem d_R_cellAt_75 : decode b_R_cellAt 75 = .ok (.bipush 21, 2) := by decide +kernel
theorem d_R_cellAt_77 : decode b_R_cellAt 77 = .ok (.iload_n 1, 1) := by decide +kernel
theorem d_R_cellAt_78 : decode b_R_cellAt 78 = .ok (.imul, 1) := by decide +kernel
theorem d_R_cellAt_79 : decode b_R_cellAt 79 = .ok (.iload 5, 2) := by decide +kernel
theorem d_R_cellAt_81 : decode b_R_cellAt 81 = .ok (.iadd, 1) := by decide +kernel
theorem d_R_cellAt_82 : decode b_R_cellAt 82 = .ok (.goto 5, 3) := by decide +kernel
theorem d_R_cellAt_85 : decode b_R_cellAt 85 = .ok (.iload 4, 2) := by decide +kernel
theorem d_R_cellAt_87 : decode b_R_cellAt 87 = .ok (.istore 4, 2) := by decide +kernel
theorem d_R_cellAt_89 : decode b_R_cellAt 89 = .ok (.iinc 5 1, 3) := by decide +kernel
theorem d_R_cellAt_92 : decode b_R_cellAt 92 = .ok (.goto (-86), 3) := by decide +kernel
theorem d_R_cellAt_95 : decode b_R_cellAt 95 = .ok (.iload 4, 2) := by decide +kernel
theorem d_R_cellAt_97 : decode b_R_cellAt 97 = .ok (.ireturn, 1) := by decide +kernel
theorem d_R_faceAt_0 : decode b_R_faceAt 0 = .ok (.aload_n 0, 1) := by decide +kernel
theorem d_R_faceAt_1 : decode b_R_faceAt 1 = .ok (.invokevirtual 125, 3) := by decide +kernel
theorem d_R_faceAt_4 : decode b_R_faceAt 4 = .ok (.iconst 0, 1) := by decide +kernel
theorem d_R_faceAt_5 : decode b_R_faceAt 5 = .ok (.istore_n 3, 1) := by decide +kernel
theorem d_R_faceAt_6 : decode b_R_faceAt 6 = .ok (.iload_n 3, 1) := by decide +kernel
theorem d_R_faceAt_7 : decode b_R_faceAt 7 = .ok (.aload_n 0, 1) := by decide +kernel
theorem d_R_faceAt_8 : decode b_R_faceAt 8 = .ok (.getfield 86, 3) := by decide +kernel
theorem d_R_faceAt_11 : decode b_R_faceAt 11 = .ok (.if_icmp .ge 19, 3) := by decide +kernel
theorem d_R_faceAt_14 : decode b_R_faceAt 14 = .ok (.aload_n 0, 1) := by decide +kernel
theorem d_R_faceAt_15 : decode b_R_faceAt 15 = .ok (.getfield 26, 3) := by decide +kernel
theorem d_R_faceAt_18 : decode b_R_faceAt 18 = .ok (.iload_n 3, 1) := by decide +kernel
theorem d_R_faceAt_19 : decode b_R_faceAt 19 = .ok (.iaload, 1) := by decide +kernel
theorem d_R_faceAt_20 : decode b_R_faceAt 20 = .ok (.iload_n 1, 1) := by decide +kernel
theorem d_R_faceAt_21 : decode b_R_faceAt 21 = .ok (.if_icmp .gt 9, 3) := by decide +kernel
theorem d_R_faceAt_24 : decode b_R_faceAt 24 = .ok (.iinc 3 1, 3) := by decide +kernel
theorem d_R_faceAt_27 : decode b_R_faceAt 27 = .ok (.goto (-21), 3) := by decide +kernel
theorem d_R_faceAt_30 : decode b_R_faceAt 30 = .ok (.aload_n 0, 1) := by decide +kernel
theorem d_R_faceAt_31 : decode b_R_faceAt 31 = .ok (.aload_n 0, 1) := by decide +kernel
theorem d_R_faceAt_32 : decode b_R_faceAt 32 = .ok (.iload_n 3, 1) := by decide +kernel
theorem d_R_faceAt_33 : decode b_R_faceAt 33 = .ok (.iload_n 1, 1) := by decide +kernel
theorem d_R_faceAt_34 : decode b_R_faceAt 34 = .ok (.iconst 2, 1) := by decide +kernel
theorem d_R_faceAt_35 : decode b_R_faceAt 35 = .ok (.iload_n 2, 1) := by decide +kernel
theorem d_R_faceAt_36 : decode b_R_faceAt 36 = .ok (.imul, 1) := by decide +kernel
theorem d_R_faceAt_37 : decode b_R_faceAt 37 = .ok (.invokevirtual 128, 3) := by decide +kernel
theorem d_R_faceAt_40 : decode b_R_faceAt 40 = .ok (.invokevirtual 122, 3) := by decide +kernel
theorem d_R_faceAt_43 : decode b_R_faceAt 43 = .ok (.ireturn, 1) := by decide +kernel
theorem d_R_faceBy_0 : decode b_R_faceBy 0 = .ok (.iconst 0, 1) := by decide +kernel
theorem d_R_faceBy_1 : decode b_R_faceBy 1 = .ok (.istore_n 3, 1) := by decide +kernel
theorem d_R_faceBy_2 : decode b_R_faceBy 2 = .ok (.aload_n 0, 1) := by decide +kernel
theorem d_R_faceBy_3 : decode b_R_faceBy 3 = .ok (.getfield 26, 3) := by decide +kernel
theorem d_R_faceBy_6 : decode b_R_faceBy 6 = .ok (.iload_n 3, 1) := by decide +kernel
theorem d_R_faceBy_7 : decode b_R_faceBy 7 = .ok (.iaload, 1) := by decide +kernel
theorem d_R_faceBy_8 : decode b_R_faceBy 8 = .ok (.aload_n 0, 1) := by decide +kernel
theorem d_R_faceBy_9 : decode b_R_faceBy 9 = .ok (.getfield 13, 3) := by decide +kernel
theorem d_R_faceBy_12 : decode b_R_faceBy 12 = .ok (.iload_n 1, 1) := by decide +kernel
theorem d_R_faceBy_13 : decode b_R_faceBy 13 = .ok (.iaload, 1) := by decide +kernel
theorem d_R_faceBy_14 : decode b_R_faceBy 14 = .ok (.if_icmp .eq 9, 3) := by decide +kernel
theorem d_R_faceBy_17 : decode b_R_faceBy 17 = .ok (.iinc 3 1, 3) := by decide +kernel
theorem d_R_faceBy_20 : decode b_R_faceBy 20 = .ok (.goto (-18), 3) := by decide +kernel
theorem d_R_faceBy_23 : decode b_R_faceBy 23 = .ok (.aload_n 0, 1) := by decide +kernel
theorem d_R_faceBy_24 : decode b_R_faceBy 24 = .ok (.iload_n 1, 1) := by decide +kernel
theorem d_R_faceBy_25 : decode b_R_faceBy 25 = .ok (.invokevirtual 109, 3) := by decide +kernel
theorem d_R_faceBy_28 : decode b_R_faceBy 28 = .ok (.ifCond .eq 43, 3) := by decide +kernel
theorem d_R_faceBy_31 : decode b_R_faceBy 31 = .ok (.aload_n 0, 1) := by decide +kernel
theorem d_R_faceBy_32 : decode b_R_faceBy 32 = .ok (.aload_n 0, 1) := by decide +kernel
theorem d_R_faceBy_33 : decode b_R_faceBy 33 = .ok (.iload_n 2, 1) := by decide +kernel
theorem d_R_faceBy_34 : decode b_R_faceBy 34 = .ok (.iconst 1, 1) := by decide +kernel
theorem d_R_faceBy_35 : decode b_R_faceBy 35 = .ok (.if_icmp .ne 7, 3) := by decide +kernel
theorem d_R_faceBy_38 : decode b_R_faceBy 38 = .ok (.iload_n 3, 1) := by decide +kernel
theorem d_R_faceBy_39 : decode b_R_faceBy 39 = .ok (.goto 6, 3) := by decide +kernel
theorem d_R_faceBy_42 : decode b_R_faceBy 42 = .ok (.iload_n 3, 1) := by decide +kernel
theorem d_R_faceBy_43 : decode b_R_faceBy 43 = .ok (.iconst 1, 1) := by decide +kernel
theorem d_R_faceBy_44 : decode b_R_faceBy 44 = .ok (.iadd, 1) := by decide +kernel
theorem d_R_faceBy_45 : decode b_R_faceBy 45 = .ok (.aload_n 0, 1) := by decide +kernel
theorem d_R_faceBy_46 : decode b_R_faceBy 46 = .ok (.getfield 13, 3) := by decide +kernel
theorem d_R_faceBy_49 : decode b_R_faceBy 49 = .ok (.iload_n 1, 1) := by decide +kernel
theorem d_R_faceBy_50 : decode b_R_faceBy 50 = .ok (.iaload, 1) := by decide +kernel
theorem d_R_faceBy_51 : decode b_R_faceBy 51 = .ok (.aload_n 0, 1) := by decide +kernel
theorem d_R_faceBy_52 : decode b_R_faceBy 52 = .ok (.getfield 17, 3) := by decide +kernel
theorem d_R_faceBy_55 : decode b_R_faceBy 55 = .ok (.iload_n 1, 1) := by decide +kernel
theorem d_R_faceBy_56 : decode b_R_faceBy 56 = .ok (.iaload, 1) := by decide +kernel
theorem d_R_faceBy_57 : decode b_R_faceBy 57 = .ok (.aload_n 0, 1) := by decide +kernel
theorem d_R_faceBy_58 : decode b_R_faceBy 58 = .ok (.getfield 23, 3) := by decide +kernel
theorem d_R_faceBy_61 : decode b_R_faceBy 61 = .ok (.iload_n 1, 1) := by decide +kernel
theorem d_R_faceBy_62 : decode b_R_faceBy 62 = .ok (.iaload, 1) := by decide +kernel
theorem d_R_faceBy_63 : decode b_R_faceBy 63 = .ok (.iadd, 1) := by decide +kernel
theorem d_R_faceBy_64 : decode b_R_faceBy 64 = .ok (.invokevirtual 128, 3) := by decide +kernel
theorem d_R_faceBy_67 : decode b_R_faceBy 67 = .ok (.invokevirtual 122, 3) := by decide +kernel
theorem d_R_faceBy_70 : decode b_R_faceBy 70 = .ok (.ireturn, 1) := by decide +kernel
theorem d_R_faceBy_71 : decode b_R_faceBy 71 = .ok (.iconst 0, 1) := by decide +kernel
theorem d_R_faceBy_72 : decode b_R_faceBy 72 = .ok (.istore 4, 2) := by decide +kernel
theorem d_R_faceBy_74 : decode b_R_faceBy 74 = .ok (.aload_n 0, 1) := by decide +kernel
theorem d_R_faceBy_75 : decode b_R_faceBy 75 = .ok (.getfield 29, 3) := by decide +kernel
theorem d_R_faceBy_78 : decode b_R_faceBy 78 = .ok (.bipush 20, 2) := by decide +kernel
theorem d_R_faceBy_80 : decode b_R_faceBy 80 = .ok (.iload_n 3, 1) := by decide +kernel
theorem d_R_faceBy_81 : decode b_R_faceBy 81 = .ok (.iconst 1, 1) := by decide +kernel
theorem d_R_faceBy_82 : decode b_R_faceBy 82 = .ok (.iadd, 1) := by decide +kernel
theorem d_R_faceBy_83 : decode b_R_faceBy 83 = .ok (.imul, 1) := by decide +kernel
theorem d_R_faceBy_84 : decode b_R_faceBy 84 = .ok (.iload 4, 2) := by decide +kernel
theorem d_R_faceBy_86 : decode b_R_faceBy 86 = .ok (.iadd, 1) := by decide +kernel
theorem d_R_faceBy_87 : decode b_R_faceBy 87 = .ok (.iaload, 1) := by decide +kernel
theorem d_R_faceBy_88 : decode b_R_faceBy 88 = .ok (.iload_n 1, 1) := by decide +kernel
theorem d_R_faceBy_89 : decode b_R_faceBy 89 = .ok (.if_icmp .eq 9, 3) := by decide +kernel
theorem d_R_faceBy_92 : decode b_R_faceBy 92 = .ok (.iinc 4 1, 3) := by decide +kernel
theorem d_R_faceBy_95 : decode b_R_faceBy 95 = .ok (.goto (-21), 3) := by decide +kernel
theorem d_R_faceBy_98 : decode b_R_faceBy 98 = .ok (.aload_n 0, 1) := by decide +kernel
theorem d_R_faceBy_99 : decode b_R_faceBy 99 = .ok (.bipush 21, 2) := by decide +kernel
theorem d_R_faceBy_101 : decode b_R_faceBy 101 = .ok (.iload_n 3, 1) := by decide +kernel
theorem d_R_faceBy_102 : decode b_R_faceBy 102 = .ok (.iconst 1, 1) := by decide +kernel
theorem d_R_faceBy_103 : decode b_R_faceBy 103 = .ok (.iadd, 1) := by decide +kernel
theorem d_R_faceBy_104 : decode b_R_faceBy 104 = .ok (.imul, 1) := by decide +kernel
theorem d_R_faceBy_105 : decode b_R_faceBy 105 = .ok (.iload_n 2, 1) := by decide +kernel
theorem d_R_faceBy_106 : decode b_R_faceBy 106 = .ok (.iconst 1, 1) := by decide +kernel
theorem d_R_faceBy_107 : decode b_R_faceBy 107 = .ok (.if_icmp .ne 10, 3) := by decide +kernel
theorem d_R_faceBy_110 : decode b_R_faceBy 110 = .ok (.iload 4, 2) := by decide +kernel
theorem d_R_faceBy_112 : decode b_R_faceBy 112 = .ok (.iconst 1, 1) := by decide +kernel
theorem d_R_faceBy_113 : decode b_R_faceBy 113 = .ok (.iadd, 1) := by decide +kernel
theorem d_R_faceBy_114 : decode b_R_faceBy 114 = .ok (.goto 5, 3) := by decide +kernel
theorem d_R_faceBy_117 : decode b_R_faceBy 117 = .ok (.iload 4, 2) := by decide +kernel
theorem d_R_faceBy_119 : decode b_R_faceBy 119 = .ok (.iadd, 1) := by decide +kernel
theorem d_R_faceBy_120 : decode b_R_faceBy 120 = .ok (.invokevirtual 122, 3) := by decide +kernel
theorem d_R_faceBy_123 : decode b_R_faceBy 123 = .ok (.ireturn, 1) := by decide +kernel
theorem d_R_isFree_0 : decode b_R_isFree 0 = .ok (.iconst 1, 1) := by decide +kernel
theorem d_R_isFree_1 : decode b_R_isFree 1 = .ok (.istore_n 3, 1) := by decide +kernel
theorem d_R_isFree_2 : decode b_R_isFree 2 = .ok (.iconst 0, 1) := by decide +kernel
theorem d_R_isFree_3 : decode b_R_isFree 3 = .ok (.istore 4, 2) := by decide +kernel
theorem d_R_isFree_5 : decode b_R_isFree 5 = .ok (.iload 4, 2) := by decide +kernel
theorem d_R_isFree_7 : decode b_R_isFree 7 = .ok (.bipush 20, 2) := by decide +kernel
theorem d_R_isFree_9 : decode b_R_isFree 9 = .ok (.if_icmp .ge 51, 3) := by decide +kernel
theorem d_R_isFree_12 : decode b_R_isFree 12 = .ok (.iload_n 3, 1) := by decide +kernel
theorem d_R_isFree_13 : decode b_R_isFree 13 = .ok (.ifCond .eq 39, 3) := by decide +kernel
theorem d_R_isFree_16 : decode b_R_isFree 16 = .ok (.aload_n 0, 1) := by decide +kernel
theorem d_R_isFree_17 : decode b_R_isFree 17 = .ok (.getfield 7, 3) := by decide +kernel
theorem d_R_isFree_20 : decode b_R_isFree 20 = .ok (.iload 4, 2) := by decide +kernel
theorem d_R_isFree_22 : decode b_R_isFree 22 = .ok (.baload, 1) := by decide +kernel
theorem d_R_isFree_23 : decode b_R_isFree 23 = .ok (.ifCond .eq 25, 3) := by decide +kernel
theorem d_R_isFree_26 : decode b_R_isFree 26 = .ok (.aload_n 0, 1) := by decide +kernel
theorem d_R_isFree_27 : decode b_R_isFree 27 = .ok (.iload 4, 2) := by decide +kernel
theorem d_R_isFree_29 : decode b_R_isFree 29 = .ok (.iload_n 1, 1) := by decide +kernel
theorem d_R_isFree_30 : decode b_R_isFree 30 = .ok (.iload_n 2, 1) := by decide +kernel
theorem d_R_isFree_31 : decode b_R_isFree 31 = .ok (.invokevirtual 46, 3) := by decide +kernel
theorem d_R_isFree_34 : decode b_R_isFree 34 = .ok (.ifCond .ne 18, 3) := by decide +kernel
theorem d_R_isFree_37 : decode b_R_isFree 37 = .ok (.aload_n 0, 1) := by decide +kernel
theorem d_R_isFree_38 : decode b_R_isFree 38 = .ok (.iload 4, 2) := by decide +kernel
theorem d_R_isFree_40 : decode b_R_isFree 40 = .ok (.iload_n 1, 1) := by decide +kernel
theorem d_R_isFree_41 : decode b_R_isFree 41 = .ok (.iload_n 2, 1) := by decide +kernel
theorem d_R_isFree_42 : decode b_R_isFree 42 = .ok (.invokevirtual 50, 3) := by decide +kernel
theorem d_R_isFree_45 : decode b_R_isFree 45 = .ok (.ifCond .ne 7, 3) := by decide +kernel
theorem d_R_isFree_48 : decode b_R_isFree 48 = .ok (.iconst 1, 1) := by decide +kernel
theorem d_R_isFree_49 : decode b_R_isFree 49 = .ok (.goto 4, 3) := by decide +kernel
theorem d_R_isFree_52 : decode b_R_isFree 52 = .ok (.iconst 0, 1) := by decide +kernel
theorem d_R_isFree_53 : decode b_R_isFree 53 = .ok (.istore_n 3, 1) := by decide +kernel
theorem d_R_isFree_54 : decode b_R_isFree 54 = .ok (.iinc 4 1, 3) := by decide +kernel
theorem d_R_isFree_57 : decode b_R_isFree 57 = .ok (.goto (-52), 3) := by decide +kernel
theorem d_R_isFree_60 : decode b_R_isFree 60 = .ok (.iload_n 3, 1) := by decide +kernel
theorem d_R_isFree_61 : decode b_R_isFree 61 = .ok (.ireturn, 1) := by decide +kernel
theorem d_R_find_0 : decode b_R_find 0 = .ok (.iload_n 1, 1) := by decide +kernel
theorem d_R_find_1 : decode b_R_find 1 = .ok (.invokestatic 53, 3) := by decide +kernel
theorem d_R_find_4 : decode b_R_find 4 = .ok (.ifCond .eq 10, 3) := by decide +kernel
theorem d_R_find_7 : decode b_R_find 7 = .ok (.iload_n 2, 1) := by decide +kernel
theorem d_R_find_8 : decode b_R_find 8 = .ok (.invokestatic 53, 3) := by decide +kernel
theorem d_R_find_11 : decode b_R_find 11 = .ok (.ifCond .ne 6, 3) := by decide +kernel
theorem d_R_find_14 : decode b_R_find 14 = .ok (.bipush (-2), 2) := by decide +kernel
theorem d_R_find_16 : decode b_R_find 16 = .ok (.ireturn, 1) := by decide +kernel
theorem d_R_find_17 : decode b_R_find 17 = .ok (.aload_n 0, 1) := by decide +kernel
theorem d_R_find_18 : decode b_R_find 18 = .ok (.iload_n 1, 1) := by decide +kernel
theorem d_R_find_19 : decode b_R_find 19 = .ok (.iload_n 2, 1) := by decide +kernel
theorem d_R_find_20 : decode b_R_find 20 = .ok (.invokevirtual 131, 3) := by decide +kernel
theorem d_R_find_23 : decode b_R_find 23 = .ok (.istore_n 3, 1) := by decide +kernel
theorem d_R_find_24 : decode b_R_find 24 = .ok (.iload_n 3, 1) := by decide +kernel
theorem d_R_find_25 : decode b_R_find 25 = .ok (.ifCond .le 9, 3) := by decide +kernel
theorem d_R_find_28 : decode b_R_find 28 = .ok (.sipush 200, 3) := by decide +kernel
theorem d_R_find_31 : decode b_R_find 31 = .ok (.iload_n 3, 1) := by decide +kernel
theorem d_R_find_32 : decode b_R_find 32 = .ok (.iadd, 1) := by decide +kernel
theorem d_R_find_33 : decode b_R_find 33 = .ok (.ireturn, 1) := by decide +kernel
theorem d_R_find_34 : decode b_R_find 34 = .ok (.iconst (-1), 1) := by decide +kernel
theorem d_R_find_35 : decode b_R_find 35 = .ok (.istore 4, 2) := by decide +kernel
theorem d_R_find_37 : decode b_R_find 37 = .ok (.ldc 85, 2) := by decide +kernel
theorem d_R_find_39 : decode b_R_find 39 = .ok (.istore 5, 2) := by decide +kernel
theorem d_R_find_41 : decode b_R_find 41 = .ok (.iconst 1, 1) := by decide +kernel
theorem d_R_find_42 : decode b_R_find 42 = .ok (.istore 6, 2) := by decide +kernel
theorem d_R_find_44 : decode b_R_find 44 = .ok (.iconst 0, 1) := by decide +kernel
theorem d_R_find_45 : decode b_R_find 45 = .ok (.istore 7, 2) := by decide +kernel
theorem d_R_find_47 : decode b_R_find 47 = .ok (.iload 7, 2) := by decide +kernel
theorem d_R_find_49 : decode b_R_find 49 = .ok (.bipush 20, 2) := by decide +kernel
theorem d_R_find_51 : decode b_R_find 51 = .ok (.if_icmp .ge 155, 3) := by decide +kernel
theorem d_R_find_54 : decode b_R_find 54 = .ok (.aload_n 0, 1) := by decide +kernel
theorem d_R_find_55 : decode b_R_find 55 = .ok (.getfield 7, 3) := by decide +kernel
theorem d_R_find_58 : decode b_R_find 58 = .ok (.iload 7, 2) := by decide +kernel
theorem d_R_find_60 : decode b_R_find 60 = .ok (.baload, 1) := by decide +kernel
theorem d_R_find_61 : decode b_R_find 61 = .ok (.ifCond .eq 20, 3) := by decide +kernel
theorem d_R_find_64 : decode b_R_find 64 = .ok (.aload_n 0, 1) := by decide +kernel
theorem d_R_find_65 : decode b_R_find 65 = .ok (.iload 7, 2) := by decide +kernel
theorem d_R_find_67 : decode b_R_find 67 = .ok (.iload_n 1, 1) := by decide +kernel
theorem d_R_find_68 : decode b_R_find 68 = .ok (.iload_n 2, 1) := by decide +kernel
theorem d_R_find_69 : decode b_R_find 69 = .ok (.invokevirtual 50, 3) := by decide +kernel
theorem d_R_find_72 : decode b_R_find 72 = .ok (.ifCond .eq 9, 3) := by decide +kernel
theorem d_R_find_75 : decode b_R_find 75 = .ok (.bipush 100, 2) := by decide +kernel
theorem d_R_find_77 : decode b_R_find 77 = .ok (.iload 7, 2) := by decide +kernel
theorem d_R_find_79 : decode b_R_find 79 = .ok (.iadd, 1) := by decide +kernel
theorem d_R_find_80 : decode b_R_find 80 = .ok (.ireturn, 1) := by decide +kernel
theorem d_R_find_81 : decode b_R_find 81 = .ok (.aload_n 0, 1) := by decide +kernel
theorem d_R_find_82 : decode b_R_find 82 = .ok (.getfield 7, 3) := by decide +kernel
theorem d_R_find_85 : decode b_R_find 85 = .ok (.iload 7, 2) := by decide +kernel
theorem d_R_find_87 : decode b_R_find 87 = .ok (.baload, 1) := by decide +kernel
theorem d_R_find_88 : decode b_R_find 88 = .ok (.ifCond .eq 112, 3) := by decide +kernel
theorem d_R_find_91 : decode b_R_find 91 = .ok (.aload_n 0, 1) := by decide +kernel
theorem d_R_find_92 : decode b_R_find 92 = .ok (.getfield 13, 3) := by decide +kernel
theorem d_R_find_95 : decode b_R_find 95 = .ok (.iload 7, 2) := by decide +kernel
theorem d_R_find_97 : decode b_R_find 97 = .ok (.iaload, 1) := by decide +kernel
theorem d_R_find_98 : decode b_R_find 98 = .ok (.iload_n 1, 1) := by decide +kernel
theorem d_R_find_99 : decode b_R_find 99 = .ok (.if_icmp .gt 101, 3) := by decide +kernel
theorem d_R_find_102 : decode b_R_find 102 = .ok (.iload_n 1, 1) := by decide +kernel
theorem d_R_find_103 : decode b_R_find 103 = .ok (.aload_n 0, 1) := by decide +kernel
theorem d_R_find_104 : decode b_R_find 104 = .ok (.getfield 20, 3) := by decide +kernel
theorem d_R_find_107 : decode b_R_find 107 = .ok (.iload 7, 2) := by decide +kernel
theorem d_R_find_109 : decode b_R_find 109 = .ok (.iaload, 1) := by decide +kernel
theorem d_R_find_110 : decode b_R_find 110 = .ok (.if_icmp .gt 90, 3) := by decide +kernel
theorem d_R_find_113 : decode b_R_find 113 = .ok (.aload_n 0, 1) := by decide +kernel
theorem d_R_find_114 : decode b_R_find 114 = .ok (.iload 7, 2) := by decide +kernel
theorem d_R_find_116 : decode b_R_find 116 = .ok (.invokevirtual 109, 3) := by decide +kernel
theorem d_R_find_119 : decode b_R_find 119 = .ok (.ifCond .eq 13, 3) := by decide +kernel
theorem d_R_find_122 : decode b_R_find 122 = .ok (.aload_n 0, 1) := by decide +kernel
theorem d_R_find_123 : decode b_R_find 123 = .ok (.getfield 17, 3) := by decide +kernel
theorem d_R_find_126 : decode b_R_find 126 = .ok (.iload 7, 2) := by decide +kernel
theorem d_R_find_128 : decode b_R_find 128 = .ok (.iaload, 1) := by decide +kernel
theorem d_R_find_129 : decode b_R_find 129 = .ok (.goto 10, 3) := by decide +kernel
theorem d_R_find_132 : decode b_R_find 132 = .ok (.aload_n 0, 1) := by decide +kernel
theorem d_R_find_133 : decode b_R_find 133 = .ok (.iload 7, 2) := by decide +kernel
theorem d_R_find_135 : decode b_R_find 135 = .ok (.iload_n 1, 1) := by decide +kernel
theorem d_R_find_136 : decode b_R_find 136 = .ok (.invokevirtual 79, 3) := by decide +kernel
theorem d_R_find_139 : decode b_R_find 139 = .ok (.istore 8, 2) := by decide +kernel
theorem d_R_find_141 : decode b_R_find 141 = .ok (.aload_n 0, 1) := by decide +kernel
theorem d_R_find_142 : decode b_R_find 142 = .ok (.iload 7, 2) := by decide +kernel
theorem d_R_find_144 : decode b_R_find 144 = .ok (.invokevirtual 109, 3) := by decide +kernel
theorem d_R_find_147 : decode b_R_find 147 = .ok (.ifCond .eq 7, 3) := by decide +kernel
theorem d_R_find_150 : decode b_R_find 150 = .ok (.iconst 1, 1) := by decide +kernel
theorem d_R_find_151 : decode b_R_find 151 = .ok (.goto 9, 3) := by decide +kernel
theorem d_R_find_154 : decode b_R_find 154 = .ok (.aload_n 0, 1) := by decide +kernel
theorem d_R_find_155 : decode b_R_find 155 = .ok (.iload 7, 2) := by decide +kernel
theorem d_R_find_157 : decode b_R_find 157 = .ok (.invokevirtual 82, 3) := by decide +kernel
theorem d_R_find_160 : decode b_R_find 160 = .ok (.istore 9, 2) := by decide +kernel
theorem d_R_find_162 : decode b_R_find 162 = .ok (.iload_n 2, 1) := by decide +kernel
theorem d_R_find_163 : decode b_R_find 163 = .ok (.iconst 1, 1) := by decide +kernel
theorem d_R_find_164 : decode b_R_find 164 = .ok (.iload 8, 2) := by decide +kernel
theorem d_R_find_166 : decode b_R_find 166 = .ok (.iload 9, 2) := by decide +kernel
theorem d_R_find_168 : decode b_R_find 168 = .ok (.invokestatic 90, 3) := by decide +kernel
theorem d_R_find_171 : decode b_R_find 171 = .ok (.ifCond .eq 29, 3) := by decide +kernel
theorem d_R_find_174 : decode b_R_find 174 = .ok (.iload 8, 2) := by decide +kernel
theorem d_R_find_176 : decode b_R_find 176 = .ok (.iload 9, 2) := by decide +kernel
theorem d_R_find_178 : decode b_R_find 178 = .ok (.iload 5, 2) := by decide +kernel
theorem d_R_find_180 : decode b_R_find 180 = .ok (.iload 6, 2) := by decide +kernel
theorem d_R_find_182 : decode b_R_find 182 = .ok (.invokestatic 90, 3) := by decide +kernel
theorem d_R_find_185 : decode b_R_find 185 = .ok (.ifCond .eq 15, 3) := by decide +kernel
theorem d_R_find_188 : decode b_R_find 188 = .ok (.iload 7, 2) := by decide +kernel
theorem d_R_find_190 : decode b_R_find 190 = .ok (.istore 4, 2) := by decide +kernel
theorem d_R_find_192 : decode b_R_find 192 = .ok (.iload 8, 2) := by decide +kernel
theorem d_R_find_194 : decode b_R_find 194 = .ok (.istore 5, 2) := by decide +kernel
theorem d_R_find_196 : decode b_R_find 196 = .ok (.iload 9, 2) := by decide +kernel
theorem d_R_find_198 : decode b_R_find 198 = .ok (.istore 6, 2) := by decide +kernel
theorem d_R_find_200 : decode b_R_find 200 = .ok (.iinc 7 1, 3) := by decide +kernel
theorem d_R_find_203 : decode b_R_find 203 = .ok (.goto (-156), 3) := by decide +kernel
theorem d_R_find_206 : decode b_R_find 206 = .ok (.iload 4, 2) := by decide +kernel
theorem d_R_find_208 : decode b_R_find 208 = .ok (.ireturn, 1) := by decide +kernel
theorem d_R_same_0 : decode b_R_same 0 = .ok (.iload_n 1, 1) := by decide +kernel
theorem d_R_same_1 : decode b_R_same 1 = .ok (.invokestatic 53, 3) := by decide +kernel
theorem d_R_same_4 : decode b_R_same 4 = .ok (.ifCond .eq 44, 3) := by decide +kernel
theorem d_R_same_7 : decode b_R_same 7 = .ok (.iload_n 2, 1) := by decide +kernel
theorem d_R_same_8 : decode b_R_same 8 = .ok (.invokestatic 53, 3) := by decide +kernel
theorem d_R_same_11 : decode b_R_same 11 = .ok (.ifCond .eq 37, 3) := by decide +kernel
theorem d_R_same_14 : decode b_R_same 14 = .ok (.iload_n 3, 1) := by decide +kernel
theorem d_R_same_15 : decode b_R_same 15 = .ok (.invokestatic 53, 3) := by decide +kernel
theorem d_R_same_18 : decode b_R_same 18 = .ok (.ifCond .eq 30, 3) := by decide +kernel
theorem d_R_same_21 : decode b_R_same 21 = .ok (.iload 4, 2) := by decide +kernel
theorem d_R_same_23 : decode b_R_same 23 = .ok (.invokestatic 53, 3) := by decide +kernel
theorem d_R_same_26 : decode b_R_same 26 = .ok (.ifCond .eq 22, 3) := by decide +kernel
theorem d_R_same_29 : decode b_R_same 29 = .ok (.aload_n 0, 1) := by decide +kernel
theorem d_R_same_30 : decode b_R_same 30 = .ok (.iload_n 1, 1) := by decide +kernel
theorem d_R_same_31 : decode b_R_same 31 = .ok (.iload_n 2, 1) := by decide +kernel
theorem d_R_same_32 : decode b_R_same 32 = .ok (.invokevirtual 134, 3) := by decide +kernel
theorem d_R_same_35 : decode b_R_same 35 = .ok (.ifCond .eq 13, 3) := by decide +kernel
theorem d_R_same_38 : decode b_R_same 38 = .ok (.aload_n 0, 1) := by decide +kernel
theorem d_R_same_39 : decode b_R_same 39 = .ok (.iload_n 3, 1) := by decide +kernel
theorem d_R_same_40 : decode b_R_same 40 = .ok (.iload 4, 2) := by decide +kernel
theorem d_R_same_42 : decode b_R_same 42 = .ok (.invokevirtual 134, 3) := by decide +kernel
theorem d_R_same_45 : decode b_R_same 45 = .ok (.ifCond .ne 5, 3) := by decide +kernel
theorem d_R_same_48 : decode b_R_same 48 = .ok (.iconst 0, 1) := by decide +kernel
theorem d_R_same_49 : decode b_R_same 49 = .ok (.ireturn, 1) := by decide +kernel
theorem d_R_same_50 : decode b_R_same 50 = .ok (.aload_n 0, 1) := by decide +kernel
theorem d_R_same_51 : decode b_R_same 51 = .ok (.iload_n 1, 1) := by decide +kernel
theorem d_R_same_52 : decode b_R_same 52 = .ok (.iload_n 2, 1) := by decide +kernel
theorem d_R_same_53 : decode b_R_same 53 = .ok (.invokevirtual 137, 3) := by decide +kernel
theorem d_R_same_56 : decode b_R_same 56 = .ok (.aload_n 0, 1) := by decide +kernel
theorem d_R_same_57 : decode b_R_same 57 = .ok (.iload_n 3, 1) := by decide +kernel
theorem d_R_same_58 : decode b_R_same 58 = .ok (.iload 4, 2) := by decide +kernel
theorem d_R_same_60 : decode b_R_same 60 = .ok (.invokevirtual 137, 3) := by decide +kernel
theorem d_R_same_63 : decode b_R_same 63 = .ok (.if_icmp .ne 7, 3) := by decide +kernel
theorem d_R_same_66 : decode b_R_same 66 = .ok (.iconst 1, 1) := by decide +kernel
theorem d_R_same_67 : decode b_R_same 67 = .ok (.goto 4, 3) := by decide +kernel
theorem d_R_same_70 : decode b_R_same 70 = .ok (.iconst 0, 1) := by decide +kernel
theorem d_R_same_71 : decode b_R_same 71 = .ok (.ireturn, 1) := by decide +kernel
theorem d_R_refusal_0 : decode b_R_refusal 0 = .ok (.iload_n 1, 1) := by decide +kernel
theorem d_R_refusal_1 : decode b_R_refusal 1 = .ok (.invokestatic 53, 3) := by decide +kernel
theorem d_R_refusal_4 : decode b_R_refusal 4 = .ok (.ifCond .eq 10, 3) := by decide +kernel
theorem d_R_refusal_7 : decode b_R_refusal 7 = .ok (.iload_n 2, 1) := by decide +kernel
theorem d_R_refusal_8 : decode b_R_refusal 8 = .ok (.invokestatic 53, 3) := by decide +kernel
theorem d_R_refusal_11 : decode b_R_refusal 11 = .ok (.ifCond .ne 8, 3) := by decide +kernel
theorem d_R_refusal_14 : decode b_R_refusal 14 = .ok (.bipush (-2), 2) := by decide +kernel
theorem d_R_refusal_16 : decode b_R_refusal 16 = .ok (.goto 17, 3) := by decide +kernel
theorem d_R_refusal_19 : decode b_R_refusal 19 = .ok (.aload_n 0, 1) := by decide +kernel
theorem d_R_refusal_20 : decode b_R_refusal 20 = .ok (.iload_n 1, 1) := by decide +kernel
theorem d_R_refusal_21 : decode b_R_refusal 21 = .ok (.iload_n 2, 1) := by decide +kernel
theorem d_R_refusal_22 : decode b_R_refusal 22 = .ok (.invokevirtual 134, 3) := by decide +kernel
theorem d_R_refusal_25 : decode b_R_refusal 25 = .ok (.ifCond .eq 7, 3) := by decide +kernel
theorem d_R_refusal_28 : decode b_R_refusal 28 = .ok (.iconst 0, 1) := by decide +kernel
theorem d_R_refusal_29 : decode b_R_refusal 29 = .ok (.goto 4, 3) := by decide +kernel
theorem d_R_refusal_32 : decode b_R_refusal 32 = .ok (.iconst (-1), 1) := by decide +kernel
theorem d_R_refusal_33 : decode b_R_refusal 33 = .ok (.ireturn, 1) := by decide +kernel
theorem d_R_area_0 : decode b_R_area 0 = .ok (.aload_n 0, 1) := by decide +kernel
theorem d_R_area_1 : decode b_R_area 1 = .ok (.iload_n 1, 1) := by decide +kernel
theorem d_R_area_2 : decode b_R_area 2 = .ok (.iload_n 2, 1) := by decide +kernel
theorem d_R_area_3 : decode b_R_area 3 = .ok (.invokevirtual 140, 3) := by decide +kernel
theorem d_R_area_6 : decode b_R_area 6 = .ok (.ifCond .ge 10, 3) := by decide +kernel
theorem d_R_area_9 : decode b_R_area 9 = .ok (.aload_n 0, 1) := by decide +kernel
theorem d_R_area_10 : decode b_R_area 10 = .ok (.iload_n 1, 1) := by decide +kernel
theorem d_R_area_11 : decode b_R_area 11 = .ok (.iload_n 2, 1) := by decide +kernel
theorem d_R_area_12 : decode b_R_area 12 = .ok (.invokevirtual 140, 3) := by decide +kernel
theorem d_R_area_15 : decode b_R_area 15 = .ok (.ireturn, 1) := by decide +kernel
theorem d_R_area_16 : decode b_R_area 16 = .ok (.aload_n 0, 1) := by decide +kernel
theorem d_R_area_17 : decode b_R_area 17 = .ok (.iload_n 1, 1) := by decide +kernel
theorem d_R_area_18 : decode b_R_area 18 = .ok (.iload_n 2, 1) := by decide +kernel
theorem d_R_area_19 : decode b_R_area 19 = .ok (.invokevirtual 137, 3) := by decide +kernel
theorem d_R_area_22 : decode b_R_area 22 = .ok (.istore_n 3, 1) := by decide +kernel
theorem d_R_area_23 : decode b_R_area 23 = .ok (.iload_n 3, 1) := by decide +kernel
theorem d_R_area_24 : decode b_R_area 24 = .ok (.aload_n 0, 1) := by decide +kernel
theorem d_R_area_25 : decode b_R_area 25 = .ok (.iconst 0, 1) := by decide +kernel
theorem d_R_area_26 : decode b_R_area 26 = .ok (.invokevirtual 122, 3) := by decide +kernel
theorem d_R_area_29 : decode b_R_area 29 = .ok (.if_icmp .ne 5, 3) := by decide +kernel
theorem d_R_area_32 : decode b_R_area 32 = .ok (.iconst 0, 1) := by decide +kernel
theorem d_R_area_33 : decode b_R_area 33 = .ok (.ireturn, 1) := by decide +kernel
theorem d_R_area_34 : decode b_R_area 34 = .ok (.iconst 0, 1) := by decide +kernel
theorem d_R_area_35 : decode b_R_area 35 = .ok (.istore 4, 2) := by decide +kernel
theorem d_R_area_37 : decode b_R_area 37 = .ok (.iconst 0, 1) := by decide +kernel
theorem d_R_area_38 : decode b_R_area 38 = .ok (.istore 5, 2) := by decide +kernel
theorem d_R_area_40 : decode b_R_area 40 = .ok (.iload 5, 2) := by decide +kernel
theorem d_R_area_42 : decode b_R_area 42 = .ok (.bipush 20, 2) := by decide +kernel
theorem d_R_area_44 : decode b_R_area 44 = .ok (.if_icmp .ge 105, 3) := by decide +kernel
theorem d_R_area_47 : decode b_R_area 47 = .ok (.aload_n 0, 1) := by decide +kernel
theorem d_R_area_48 : decode b_R_area 48 = .ok (.getfield 7, 3) := by decide +kernel
theorem d_R_area_51 : decode b_R_area 51 = .ok (.iload 5, 2) := by decide +kernel
theorem d_R_area_53 : decode b_R_area 53 = .ok (.baload, 1) := by decide +kernel
theorem d_R_area_54 : decode b_R_area 54 = .ok (.ifCond .eq 89, 3) := by decide +kernel
theorem d_R_area_57 : decode b_R_area 57 = .ok (.aload_n 0, 1) := by decide +kernel
theorem d_R_area_58 : decode b_R_area 58 = .ok (.iload 5, 2) := by decide +kernel
theorem d_R_area_60 : decode b_R_area 60 = .ok (.invokevirtual 109, 3) := by decide +kernel
theorem d_R_area_63 : decode b_R_area 63 = .ok (.ifCond .ne 80, 3) := by decide +kernel
theorem d_R_area_66 : decode b_R_area 66 = .ok (.aload_n 0, 1) := by decide +kernel
theorem d_R_area_67 : decode b_R_area 67 = .ok (.getfield 20, 3) := by decide +kernel
theorem d_R_area_70 : decode b_R_area 70 = .ok (.iload 5, 2) := by decide +kernel
theorem d_R_area_72 : decode b_R_area 72 = .ok (.iaload, 1) := by decide +kernel
theorem d_R_area_73 : decode b_R_area 73 = .ok (.aload_n 0, 1) := by decide +kernel
theorem d_R_area_74 : decode b_R_area 74 = .ok (.getfield 13, 3) := by decide +kernel
theorem d_R_area_77 : decode b_R_area 77 = .ok (.iload 5, 2) := by decide +kernel
theorem d_R_area_79 : decode b_R_area 79 = .ok (.iaload, 1) := by decide +kernel
theorem d_R_area_80 : decode b_R_area 80 = .ok (.isub, 1) := by decide +kernel
theorem d_R_area_81 : decode b_R_area 81 = .ok (.aload_n 0, 1) := by decide +kernel
theorem d_R_area_82 : decode b_R_area 82 = .ok (.getfield 17, 3) := by decide +kernel
theorem d_R_area_85 : decode b_R_area 85 = .ok (.iload 5, 2) := by decide +kernel
theorem d_R_area_87 : decode b_R_area 87 = .ok (.iaload, 1) := by decide +kernel
theorem d_R_area_88 : decode b_R_area 88 = .ok (.aload_n 0, 1) := by decide +kernel
theorem d_R_area_89 : decode b_R_area 89 = .ok (.getfield 23, 3) := by decide +kernel
theorem d_R_area_92 : decode b_R_area 92 = .ok (.iload 5, 2) := by decide +kernel
theorem d_R_area_94 : decode b_R_area 94 = .ok (.iaload, 1) := by decide +kernel
theorem d_R_area_95 : decode b_R_area 95 = .ok (.iadd, 1) := by decide +kernel
theorem d_R_area_96 : decode b_R_area 96 = .ok (.imul, 1) := by decide +kernel
theorem d_R_area_97 : decode b_R_area 97 = .ok (.istore 6, 2) := by decide +kernel
theorem d_R_area_99 : decode b_R_area 99 = .ok (.iload 4, 2) := by decide +kernel
theorem d_R_area_101 : decode b_R_area 101 = .ok (.aload_n 0, 1) := by decide +kernel
theorem d_R_area_102 : decode b_R_area 102 = .ok (.iload 5, 2) := by decide +kernel
theorem d_R_area_104 : decode b_R_area 104 = .ok (.iconst 2, 1) := by decide +kernel
theorem d_R_area_105 : decode b_R_area 105 = .ok (.invokevirtual 143, 3) := by decide +kernel
theorem d_R_area_108 : decode b_R_area 108 = .ok (.iload_n 3, 1) := by decide +kernel
theorem d_R_area_109 : decode b_R_area 109 = .ok (.if_icmp .ne 8, 3) := by decide +kernel
theorem d_R_area_112 : decode b_R_area 112 = .ok (.iload 6, 2) := by decide +kernel
theorem d_R_area_114 : decode b_R_area 114 = .ok (.goto 4, 3) := by decide +kernel
theorem d_R_area_117 : decode b_R_area 117 = .ok (.iconst 0, 1) := by decide +kernel
theorem d_R_area_118 : decode b_R_area 118 = .ok (.iadd, 1) := by decide +kernel
theorem d_R_area_119 : decode b_R_area 119 = .ok (.istore 4, 2) := by decide +kernel
theorem d_R_area_121 : decode b_R_area 121 = .ok (.iload 4, 2) := by decide +kernel
theorem d_R_area_123 : decode b_R_area 123 = .ok (.aload_n 0, 1) := by decide +kernel
theorem d_R_area_124 : decode b_R_area 124 = .ok (.iload 5, 2) := by decide +kernel
theorem d_R_area_126 : decode b_R_area 126 = .ok (.iconst 1, 1) := by decide +kernel
theorem d_R_area_127 : decode b_R_area 127 = .ok (.invokevirtual 143, 3) := by decide +kernel
theorem d_R_area_130 : decode b_R_area 130 = .ok (.iload_n 3, 1) := by decide +kernel
theorem d_R_area_131 : decode b_R_area 131 = .ok (.if_icmp .ne 8, 3) := by decide +kernel
theorem d_R_area_134 : decode b_R_area 134 = .ok (.iload 6, 2) := by decide +kernel
theorem d_R_area_136 : decode b_R_area 136 = .ok (.goto 4, 3) := by decide +kernel
theorem d_R_area_139 : decode b_R_area 139 = .ok (.iconst 0, 1) := by decide +kernel
theorem d_R_area_140 : decode b_R_area 140 = .ok (.isub, 1) := by decide +kernel
theorem d_R_area_141 : decode b_R_area 141 = .ok (.istore 4, 2) := by decide +kernel
theorem d_R_area_143 : decode b_R_area 143 = .ok (.iinc 5 1, 3) := by decide +kernel
theorem d_R_area_146 : decode b_R_area 146 = .ok (.goto (-106), 3) := by decide +kernel
theorem d_R_area_149 : decode b_R_area 149 = .ok (.iload 4, 2) := by decide +kernel
theorem d_R_area_151 : decode b_R_area 151 = .ok (.ireturn, 1) := by decide +kernel
theorem d_R_sides_0 : decode b_R_sides 0 = .ok (.aload_n 0, 1) := by decide +kernel
theorem d_R_sides_1 : decode b_R_sides 1 = .ok (.iload_n 1, 1) := by decide +kernel
theorem d_R_sides_2 : decode b_R_sides 2 = .ok (.iconst 1, 1) := by decide +kernel
theorem d_R_sides_3 : decode b_R_sides 3 = .ok (.invokevirtual 143, 3) := by decide +kernel
theorem d_R_sides_6 : decode b_R_sides 6 = .ok (.iload_n 2, 1) := by decide +kernel
theorem d_R_sides_7 : decode b_R_sides 7 = .ok (.if_icmp .ne 7, 3) := by decide +kernel
theorem d_R_sides_10 : decode b_R_sides 10 = .ok (.iconst 1, 1) := by decide +kernel
theorem d_R_sides_11 : decode b_R_sides 11 = .ok (.goto 4, 3) := by decide +kernel
theorem d_R_sides_14 : decode b_R_sides 14 = .ok (.iconst 0, 1) := by decide +kernel
theorem d_R_sides_15 : decode b_R_sides 15 = .ok (.aload_n 0, 1) := by decide +kernel
theorem d_R_sides_16 : decode b_R_sides 16 = .ok (.iload_n 1, 1) := by decide +kernel
theorem d_R_sides_17 : decode b_R_sides 17 = .ok (.iconst 2, 1) := by decide +kernel
theorem d_R_sides_18 : decode b_R_sides 18 = .ok (.invokevirtual 143, 3) := by decide +kernel
theorem d_R_sides_21 : decode b_R_sides 21 = .ok (.iload_n 2, 1) := by decide +kernel
theorem d_R_sides_22 : decode b_R_sides 22 = .ok (.if_icmp .ne 7, 3) := by decide +kernel
theorem d_R_sides_25 : decode b_R_sides 25 = .ok (.iconst 2, 1) := by decide +kernel
theorem d_R_sides_26 : decode b_R_sides 26 = .ok (.goto 4, 3) := by decide +kernel
theorem d_R_sides_29 : decode b_R_sides 29 = .ok (.iconst 0, 1) := by decide +kernel
theorem d_R_sides_30 : decode b_R_sides 30 = .ok (.iadd, 1) := by decide +kernel
theorem d_R_sides_31 : decode b_R_sides 31 = .ok (.ireturn, 1) := by decide +kernel
theorem d_R_border_0 : decode b_R_border 0 = .ok (.aload_n 0, 1) := by decide +kernel
theorem d_R_border_1 : decode b_R_border 1 = .ok (.iload_n 1, 1) := by decide +kernel
theorem d_R_border_2 : decode b_R_border 2 = .ok (.iload_n 2, 1) := by decide +kernel
theorem d_R_border_3 : decode b_R_border 3 = .ok (.invokevirtual 140, 3) := by decide +kernel
theorem d_R_border_6 : decode b_R_border 6 = .ok (.ifCond .ge 10, 3) := by decide +kernel
theorem d_R_border_9 : decode b_R_border 9 = .ok (.aload_n 0, 1) := by decide +kernel
theorem d_R_border_10 : decode b_R_border 10 = .ok (.iload_n 1, 1) := by decide +kernel
theorem d_R_border_11 : decode b_R_border 11 = .ok (.iload_n 2, 1) := by decide +kernel
theorem d_R_border_12 : decode b_R_border 12 = .ok (.invokevirtual 140, 3) := by decide +kernel
theorem d_R_border_15 : decode b_R_border 15 = .ok (.ireturn, 1) := by decide +kernel
theorem d_R_border_16 : decode b_R_border 16 = .ok (.aload_n 0, 1) := by decide +kernel
theorem d_R_border_17 : decode b_R_border 17 = .ok (.iload_n 1, 1) := by decide +kernel
theorem d_R_border_18 : decode b_R_border 18 = .ok (.iload_n 2, 1) := by decide +kernel
theorem d_R_border_19 : decode b_R_border 19 = .ok (.invokevirtual 137, 3) := by decide +kernel
theorem d_R_border_22 : decode b_R_border 22 = .ok (.istore_n 3, 1) := by decide +kernel
theorem d_R_border_23 : decode b_R_border 23 = .ok (.iconst 0, 1) := by decide +kernel
theorem d_R_border_24 : decode b_R_border 24 = .ok (.istore 4, 2) := by decide +kernel
theorem d_R_border_26 : decode b_R_border 26 = .ok (.iconst 0, 1) := by decide +kernel
theorem d_R_border_27 : decode b_R_border 27 = .ok (.istore 5, 2) := by decide +kernel
theorem d_R_border_29 : decode b_R_border 29 = .ok (.iload 5, 2) := by decide +kernel
theorem d_R_border_31 : decode b_R_border 31 = .ok (.bipush 20, 2) := by decide +kernel
theorem d_R_border_33 : decode b_R_border 33 = .ok (.if_icmp .ge 57, 3) := by decide +kernel
theorem d_R_border_36 : decode b_R_border 36 = .ok (.aload_n 0, 1) := by decide +kernel
theorem d_R_border_37 : decode b_R_border 37 = .ok (.getfield 7, 3) := by decide +kernel
theorem d_R_border_40 : decode b_R_border 40 = .ok (.iload 5, 2) := by decide +kernel
theorem d_R_border_42 : decode b_R_border 42 = .ok (.baload, 1) := by decide +kernel
theorem d_R_border_43 : decode b_R_border 43 = .ok (.ifCond .eq 13, 3) := by decide +kernel
theorem d_R_border_46 : decode b_R_border 46 = .ok (.aload_n 0, 1) := by decide +kernel
theorem d_R_border_47 : decode b_R_border 47 = .ok (.iload 5, 2) := by decide +kernel
theorem d_R_border_49 : decode b_R_border 49 = .ok (.iload_n 3, 1) := by decide +kernel
theorem d_R_border_50 : decode b_R_border 50 = .ok (.invokevirtual 146, 3) := by decide +kernel
theorem d_R_border_53 : decode b_R_border 53 = .ok (.goto 4, 3) := by decide +kernel
theorem d_R_border_56 : decode b_R_border 56 = .ok (.iconst 0, 1) := by decide +kernel
theorem d_R_border_57 : decode b_R_border 57 = .ok (.istore 6, 2) := by decide +kernel
theorem d_R_border_59 : decode b_R_border 59 = .ok (.iload 4, 2) := by decide +kernel
theorem d_R_border_61 : decode b_R_border 61 = .ok (.iload 6, 2) := by decide +kernel
theorem d_R_border_63 : decode b_R_border 63 = .ok (.iconst 3, 1) := by decide +kernel
theorem d_R_border_64 : decode b_R_border 64 = .ok (.if_icmp .ne 7, 3) := by decide +kernel
theorem d_R_border_67 : decode b_R_border 67 = .ok (.iconst 2, 1) := by decide +kernel
theorem d_R_border_68 : decode b_R_border 68 = .ok (.goto 13, 3) := by decide +kernel
theorem d_R_border_71 : decode b_R_border 71 = .ok (.iload 6, 2) := by decide +kernel
theorem d_R_border_73 : decode b_R_border 73 = .ok (.ifCond .le 7, 3) := by decide +kernel
theorem d_R_border_76 : decode b_R_border 76 = .ok (.iconst 1, 1) := by decide +kernel
theorem d_R_border_77 : decode b_R_border 77 = .ok (.goto 4, 3) := by decide +kernel
theorem d_R_border_80 : decode b_R_border 80 = .ok (.iconst 0, 1) := by decide +kernel
theorem d_R_border_81 : decode b_R_border 81 = .ok (.iadd, 1) := by decide +kernel
theorem d_R_border_82 : decode b_R_border 82 = .ok (.istore 4, 2) := by decide +kernel
theorem d_R_border_84 : decode b_R_border 84 = .ok (.iinc 5 1, 3) := by decide +kernel
theorem d_R_border_87 : decode b_R_border 87 = .ok (.goto (-58), 3) := by decide +kernel
theorem d_R_border_90 : decode b_R_border 90 = .ok (.iload 4, 2) := by decide +kernel
theorem d_R_border_92 : decode b_R_border 92 = .ok (.ireturn, 1) := by decide +kernel
theorem d_R_touches_0 : decode b_R_touches 0 = .ok (.aload_n 0, 1) := by decide +kernel
theorem d_R_touches_1 : decode b_R_touches 1 = .ok (.iload_n 1, 1) := by decide +kernel
theorem d_R_touches_2 : decode b_R_touches 2 = .ok (.iload_n 2, 1) := by decide +kernel
theorem d_R_touches_3 : decode b_R_touches 3 = .ok (.invokevirtual 140, 3) := by decide +kernel
theorem d_R_touches_6 : decode b_R_touches 6 = .ok (.ifCond .ge 10, 3) := by decide +kernel
theorem d_R_touches_9 : decode b_R_touches 9 = .ok (.aload_n 0, 1) := by decide +kernel
theorem d_R_touches_10 : decode b_R_touches 10 = .ok (.iload_n 1, 1) := by decide +kernel
theorem d_R_touches_11 : decode b_R_touches 11 = .ok (.iload_n 2, 1) := by decide +kernel
theorem d_R_touches_12 : decode b_R_touches 12 = .ok (.invokevirtual 140, 3) := by decide +kernel
theorem d_R_touches_15 : decode b_R_touches 15 = .ok (.ireturn, 1) := by decide +kernel
theorem d_R_touches_16 : decode b_R_touches 16 = .ok (.aload_n 0, 1) := by decide +kernel
theorem d_R_touches_17 : decode b_R_touches 17 = .ok (.iload_n 3, 1) := by decide +kernel
theorem d_R_touches_18 : decode b_R_touches 18 = .ok (.invokevirtual 65, 3) := by decide +kernel
theorem d_R_touches_21 : decode b_R_touches 21 = .ok (.ifCond .eq 17, 3) := by decide +kernel
theorem d_R_touches_24 : decode b_R_touches 24 = .ok (.aload_n 0, 1) := by decide +kernel
theorem d_R_touches_25 : decode b_R_touches 25 = .ok (.iload_n 3, 1) := by decide +kernel
theorem d_R_touches_26 : decode b_R_touches 26 = .ok (.aload_n 0, 1) := by decide +kernel
theorem d_R_touches_27 : decode b_R_touches 27 = .ok (.iload_n 1, 1) := by decide +kernel
theorem d_R_touches_28 : decode b_R_touches 28 = .ok (.iload_n 2, 1) := by decide +kernel
theorem d_R_touches_29 : decode b_R_touches 29 = .ok (.invokevirtual 137, 3) := by decide +kernel
theorem d_R_touches_32 : decode b_R_touches 32 = .ok (.invokevirtual 146, 3) := by decide +kernel
theorem d_R_touches_35 : decode b_R_touches 35 = .ok (.goto 4, 3) := by decide +kernel
theorem d_R_touches_38 : decode b_R_touches 38 = .ok (.iconst (-1), 1) := by decide +kernel
theorem d_R_touches_39 : decode b_R_touches 39 = .ok (.ireturn, 1) := by decide +kernel
