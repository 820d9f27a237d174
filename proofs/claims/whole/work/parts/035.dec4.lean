theorem dX11_tell_49 : decode cX11_tell 49 = .ok (.aload_n 0, 1) := by decide +kernel
theorem dX11_tell_50 : decode cX11_tell 50 = .ok (.dup, 1) := by decide +kernel
theorem dX11_tell_51 : decode cX11_tell 51 = .ok (.getfield 219, 3) := by decide +kernel
theorem dX11_tell_54 : decode cX11_tell 54 = .ok (.iconst 1, 1) := by decide +kernel
theorem dX11_tell_55 : decode cX11_tell 55 = .ok (.iadd, 1) := by decide +kernel
theorem dX11_tell_56 : decode cX11_tell 56 = .ok (.putfield 219, 3) := by decide +kernel
theorem dX11_tell_59 : decode cX11_tell 59 = .ok (.return_, 1) := by decide +kernel
theorem dX11_ask_0 : decode cX11_ask 0 = .ok (.aload_n 0, 1) := by decide +kernel
theorem dX11_ask_1 : decode cX11_ask 1 = .ok (.iconst 0, 1) := by decide +kernel
theorem dX11_ask_2 : decode cX11_ask 2 = .ok (.putfield 103, 3) := by decide +kernel
theorem dX11_ask_5 : decode cX11_ask 5 = .ok (.iload_n 1, 1) := by decide +kernel
theorem dX11_ask_6 : decode cX11_ask 6 = .ok (.ifCond .lt 11, 3) := by decide +kernel
theorem dX11_ask_9 : decode cX11_ask 9 = .ok (.iload_n 1, 1) := by decide +kernel
theorem dX11_ask_10 : decode cX11_ask 10 = .ok (.aload_n 0, 1) := by decide +kernel
theorem dX11_ask_11 : decode cX11_ask 11 = .ok (.getfield 159, 3) := by decide +kernel
theorem dX11_ask_14 : decode cX11_ask 14 = .ok (.if_icmp .lt 5, 3) := by decide +kernel
theorem dX11_ask_17 : decode cX11_ask 17 = .ok (.iconst (-1), 1) := by decide +kernel
theorem dX11_ask_18 : decode cX11_ask 18 = .ok (.ireturn, 1) := by decide +kernel
theorem dX11_ask_19 : decode cX11_ask 19 = .ok (.aload_n 0, 1) := by decide +kernel
theorem dX11_ask_20 : decode cX11_ask 20 = .ok (.getfield 106, 3) := by decide +kernel
theorem dX11_ask_23 : decode cX11_ask 23 = .ok (.istore_n 2, 1) := by decide +kernel
theorem dX11_ask_24 : decode cX11_ask 24 = .ok (.iconst 0, 1) := by decide +kernel
theorem dX11_ask_25 : decode cX11_ask 25 = .ok (.istore_n 3, 1) := by decide +kernel
theorem dX11_ask_26 : decode cX11_ask 26 = .ok (.iload_n 3, 1) := by decide +kernel
theorem dX11_ask_27 : decode cX11_ask 27 = .ok (.iload_n 2, 1) := by decide +kernel
theorem dX11_ask_28 : decode cX11_ask 28 = .ok (.if_icmp .ge 21, 3) := by decide +kernel
theorem dX11_ask_31 : decode cX11_ask 31 = .ok (.aload_n 0, 1) := by decide +kernel
theorem dX11_ask_32 : decode cX11_ask 32 = .ok (.getfield 94, 3) := by decide +kernel
theorem dX11_ask_35 : decode cX11_ask 35 = .ok (.iload_n 3, 1) := by decide +kernel
theorem dX11_ask_36 : decode cX11_ask 36 = .ok (.aload_n 0, 1) := by decide +kernel
theorem dX11_ask_37 : decode cX11_ask 37 = .ok (.getfield 7, 3) := by decide +kernel
theorem dX11_ask_40 : decode cX11_ask 40 = .ok (.iload_n 3, 1) := by decide +kernel
theorem dX11_ask_41 : decode cX11_ask 41 = .ok (.baload, 1) := by decide +kernel
theorem dX11_ask_42 : decode cX11_ask 42 = .ok (.bastore, 1) := by decide +kernel
theorem dX11_ask_43 : decode cX11_ask 43 = .ok (.iinc 3 1, 3) := by decide +kernel
theorem dX11_ask_46 : decode cX11_ask 46 = .ok (.goto (-20), 3) := by decide +kernel
theorem dX11_ask_49 : decode cX11_ask 49 = .ok (.aload_n 0, 1) := by decide +kernel
theorem dX11_ask_50 : decode cX11_ask 50 = .ok (.iload_n 1, 1) := by decide +kernel
theorem dX11_ask_51 : decode cX11_ask 51 = .ok (.invokevirtual 222, 3) := by decide +kernel
theorem dX11_ask_54 : decode cX11_ask 54 = .ok (.istore_n 3, 1) := by decide +kernel
theorem dX11_ask_55 : decode cX11_ask 55 = .ok (.aload_n 0, 1) := by decide +kernel
theorem dX11_ask_56 : decode cX11_ask 56 = .ok (.iload_n 2, 1) := by decide +kernel
theorem dX11_ask_57 : decode cX11_ask 57 = .ok (.putfield 106, 3) := by decide +kernel
theorem dX11_ask_60 : decode cX11_ask 60 = .ok (.iconst 0, 1) := by decide +kernel
theorem dX11_ask_61 : decode cX11_ask 61 = .ok (.istore 4, 2) := by decide +kernel
theorem dX11_ask_63 : decode cX11_ask 63 = .ok (.iload 4, 2) := by decide +kernel
theorem dX11_ask_65 : decode cX11_ask 65 = .ok (.iload_n 2, 1) := by decide +kernel
theorem dX11_ask_66 : decode cX11_ask 66 = .ok (.if_icmp .ge 23, 3) := by decide +kernel
theorem dX11_ask_69 : decode cX11_ask 69 = .ok (.aload_n 0, 1) := by decide +kernel
theorem dX11_ask_70 : decode cX11_ask 70 = .ok (.getfield 7, 3) := by decide +kernel
theorem dX11_ask_73 : decode cX11_ask 73 = .ok (.iload 4, 2) := by decide +kernel
theorem dX11_ask_75 : decode cX11_ask 75 = .ok (.aload_n 0, 1) := by decide +kernel
theorem dX11_ask_76 : decode cX11_ask 76 = .ok (.getfield 94, 3) := by decide +kernel
theorem dX11_ask_79 : decode cX11_ask 79 = .ok (.iload 4, 2) := by decide +kernel
theorem dX11_ask_81 : decode cX11_ask 81 = .ok (.baload, 1) := by decide +kernel
theorem dX11_ask_82 : decode cX11_ask 82 = .ok (.bastore, 1) := by decide +kernel
theorem dX11_ask_83 : decode cX11_ask 83 = .ok (.iinc 4 1, 3) := by decide +kernel
theorem dX11_ask_86 : decode cX11_ask 86 = .ok (.goto (-23), 3) := by decide +kernel
theorem dX11_ask_89 : decode cX11_ask 89 = .ok (.aload_n 0, 1) := by decide +kernel
theorem dX11_ask_90 : decode cX11_ask 90 = .ok (.iconst 0, 1) := by decide +kernel
theorem dX11_ask_91 : decode cX11_ask 91 = .ok (.putfield 219, 3) := by decide +kernel
theorem dX11_ask_94 : decode cX11_ask 94 = .ok (.aload_n 0, 1) := by decide +kernel
theorem dX11_ask_95 : decode cX11_ask 95 = .ok (.iconst 0, 1) := by decide +kernel
theorem dX11_ask_96 : decode cX11_ask 96 = .ok (.putfield 225, 3) := by decide +kernel
theorem dX11_ask_99 : decode cX11_ask 99 = .ok (.iconst 0, 1) := by decide +kernel
theorem dX11_ask_100 : decode cX11_ask 100 = .ok (.istore 4, 2) := by decide +kernel
theorem dX11_ask_102 : decode cX11_ask 102 = .ok (.iload 4, 2) := by decide +kernel
theorem dX11_ask_104 : decode cX11_ask 104 = .ok (.bipush 60, 2) := by decide +kernel
theorem dX11_ask_106 : decode cX11_ask 106 = .ok (.if_icmp .gt 17, 3) := by decide +kernel
theorem dX11_ask_109 : decode cX11_ask 109 = .ok (.aload_n 0, 1) := by decide +kernel
theorem dX11_ask_110 : decode cX11_ask 110 = .ok (.getfield 97, 3) := by decide +kernel
theorem dX11_ask_113 : decode cX11_ask 113 = .ok (.iload 4, 2) := by decide +kernel
theorem dX11_ask_115 : decode cX11_ask 115 = .ok (.iconst 0, 1) := by decide +kernel
theorem dX11_ask_116 : decode cX11_ask 116 = .ok (.iastore, 1) := by decide +kernel
theorem dX11_ask_117 : decode cX11_ask 117 = .ok (.iinc 4 1, 3) := by decide +kernel
theorem dX11_ask_120 : decode cX11_ask 120 = .ok (.goto (-18), 3) := by decide +kernel
theorem dX11_ask_123 : decode cX11_ask 123 = .ok (.iload_n 3, 1) := by decide +kernel
theorem dX11_ask_124 : decode cX11_ask 124 = .ok (.iconst (-1), 1) := by decide +kernel
theorem dX11_ask_125 : decode cX11_ask 125 = .ok (.if_icmp .eq 9, 3) := by decide +kernel
theorem dX11_ask_128 : decode cX11_ask 128 = .ok (.aload_n 0, 1) := by decide +kernel
theorem dX11_ask_129 : decode cX11_ask 129 = .ok (.iload_n 1, 1) := by decide +kernel
theorem dX11_ask_130 : decode cX11_ask 130 = .ok (.iload_n 3, 1) := by decide +kernel
theorem dX11_ask_131 : decode cX11_ask 131 = .ok (.invokevirtual 228, 3) := by decide +kernel
theorem dX11_ask_134 : decode cX11_ask 134 = .ok (.iconst 0, 1) := by decide +kernel
theorem dX11_ask_135 : decode cX11_ask 135 = .ok (.istore 4, 2) := by decide +kernel
theorem dX11_ask_137 : decode cX11_ask 137 = .ok (.iload 4, 2) := by decide +kernel
theorem dX11_ask_139 : decode cX11_ask 139 = .ok (.bipush 60, 2) := by decide +kernel
theorem dX11_ask_141 : decode cX11_ask 141 = .ok (.if_icmp .gt 28, 3) := by decide +kernel
theorem dX11_ask_144 : decode cX11_ask 144 = .ok (.aload_n 0, 1) := by decide +kernel
theorem dX11_ask_145 : decode cX11_ask 145 = .ok (.getfield 66, 3) := by decide +kernel
theorem dX11_ask_148 : decode cX11_ask 148 = .ok (.bipush 61, 2) := by decide +kernel
theorem dX11_ask_150 : decode cX11_ask 150 = .ok (.iload_n 1, 1) := by decide +kernel
theorem dX11_ask_151 : decode cX11_ask 151 = .ok (.imul, 1) := by decide +kernel
theorem dX11_ask_152 : decode cX11_ask 152 = .ok (.iload 4, 2) := by decide +kernel
theorem dX11_ask_154 : decode cX11_ask 154 = .ok (.iadd, 1) := by decide +kernel
theorem dX11_ask_155 : decode cX11_ask 155 = .ok (.aload_n 0, 1) := by decide +kernel
theorem dX11_ask_156 : decode cX11_ask 156 = .ok (.getfield 97, 3) := by decide +kernel
theorem dX11_ask_159 : decode cX11_ask 159 = .ok (.iload 4, 2) := by decide +kernel
theorem dX11_ask_161 : decode cX11_ask 161 = .ok (.iaload, 1) := by decide +kernel
theorem dX11_ask_162 : decode cX11_ask 162 = .ok (.iastore, 1) := by decide +kernel
theorem dX11_ask_163 : decode cX11_ask 163 = .ok (.iinc 4 1, 3) := by decide +kernel
theorem dX11_ask_166 : decode cX11_ask 166 = .ok (.goto (-29), 3) := by decide +kernel
theorem dX11_ask_169 : decode cX11_ask 169 = .ok (.aload_n 0, 1) := by decide +kernel
theorem dX11_ask_170 : decode cX11_ask 170 = .ok (.getfield 51, 3) := by decide +kernel
theorem dX11_ask_173 : decode cX11_ask 173 = .ok (.iload_n 1, 1) := by decide +kernel
theorem dX11_ask_174 : decode cX11_ask 174 = .ok (.aload_n 0, 1) := by decide +kernel
theorem dX11_ask_175 : decode cX11_ask 175 = .ok (.getfield 127, 3) := by decide +kernel
theorem dX11_ask_178 : decode cX11_ask 178 = .ok (.iastore, 1) := by decide +kernel
theorem dX11_ask_179 : decode cX11_ask 179 = .ok (.aload_n 0, 1) := by decide +kernel
theorem dX11_ask_180 : decode cX11_ask 180 = .ok (.getfield 63, 3) := by decide +kernel
theorem dX11_ask_183 : decode cX11_ask 183 = .ok (.iload_n 1, 1) := by decide +kernel
theorem dX11_ask_184 : decode cX11_ask 184 = .ok (.iconst 0, 1) := by decide +kernel
theorem dX11_ask_185 : decode cX11_ask 185 = .ok (.bastore, 1) := by decide +kernel
theorem dX11_ask_186 : decode cX11_ask 186 = .ok (.aload_n 0, 1) := by decide +kernel
theorem dX11_ask_187 : decode cX11_ask 187 = .ok (.getfield 219, 3) := by decide +kernel
theorem dX11_ask_190 : decode cX11_ask 190 = .ok (.ireturn, 1) := by decide +kernel
theorem dX11_look_0 : decode cX11_look 0 = .ok (.aload_n 0, 1) := by decide +kernel
theorem dX11_look_1 : decode cX11_look 1 = .ok (.getfield 79, 3) := by decide +kernel
theorem dX11_look_4 : decode cX11_look 4 = .ok (.aload_n 0, 1) := by decide +kernel
theorem dX11_look_5 : decode cX11_look 5 = .ok (.getfield 198, 3) := by decide +kernel
theorem dX11_look_8 : decode cX11_look 8 = .ok (.iaload, 1) := by decide +kernel
theorem dX11_look_9 : decode cX11_look 9 = .ok (.istore_n 2, 1) := by decide +kernel
theorem dX11_look_10 : decode cX11_look 10 = .ok (.aload_n 0, 1) := by decide +kernel
theorem dX11_look_11 : decode cX11_look 11 = .ok (.iload_n 1, 1) := by decide +kernel
theorem dX11_look_12 : decode cX11_look 12 = .ok (.invokevirtual 232, 3) := by decide +kernel
theorem dX11_look_15 : decode cX11_look 15 = .ok (.ifCond .eq 38, 3) := by decide +kernel
theorem dX11_look_18 : decode cX11_look 18 = .ok (.aload_n 0, 1) := by decide +kernel
theorem dX11_look_19 : decode cX11_look 19 = .ok (.dup, 1) := by decide +kernel
theorem dX11_look_20 : decode cX11_look 20 = .ok (.getfield 225, 3) := by decide +kernel
theorem dX11_look_23 : decode cX11_look 23 = .ok (.aload_n 0, 1) := by decide +kernel
theorem dX11_look_24 : decode cX11_look 24 = .ok (.iload_n 1, 1) := by decide +kernel
theorem dX11_look_25 : decode cX11_look 25 = .ok (.iload_n 2, 1) := by decide +kernel
theorem dX11_look_26 : decode cX11_look 26 = .ok (.invokevirtual 235, 3) := by decide +kernel
theorem dX11_look_29 : decode cX11_look 29 = .ok (.ifCond .eq 7, 3) := by decide +kernel
theorem dX11_look_32 : decode cX11_look 32 = .ok (.iconst 1, 1) := by decide +kernel
theorem dX11_look_33 : decode cX11_look 33 = .ok (.goto 4, 3) := by decide +kernel
theorem dX11_look_36 : decode cX11_look 36 = .ok (.iconst 0, 1) := by decide +kernel
theorem dX11_look_37 : decode cX11_look 37 = .ok (.iadd, 1) := by decide +kernel
theorem dX11_look_38 : decode cX11_look 38 = .ok (.putfield 225, 3) := by decide +kernel
theorem dX11_look_41 : decode cX11_look 41 = .ok (.aload_n 0, 1) := by decide +kernel
theorem dX11_look_42 : decode cX11_look 42 = .ok (.getfield 97, 3) := by decide +kernel
theorem dX11_look_45 : decode cX11_look 45 = .ok (.iload_n 2, 1) := by decide +kernel
theorem dX11_look_46 : decode cX11_look 46 = .ok (.aload_n 0, 1) := by decide +kernel
theorem dX11_look_47 : decode cX11_look 47 = .ok (.getfield 32, 3) := by decide +kernel
theorem dX11_look_50 : decode cX11_look 50 = .ok (.iload_n 2, 1) := by decide +kernel
theorem dX11_look_51 : decode cX11_look 51 = .ok (.iaload, 1) := by decide +kernel
theorem dX11_look_52 : decode cX11_look 52 = .ok (.iastore, 1) := by decide +kernel
theorem dX11_look_53 : decode cX11_look 53 = .ok (.return_, 1) := by decide +kernel
theorem dX11_walk_0 : decode cX11_walk 0 = .ok (.aload_n 0, 1) := by decide +kernel
theorem dX11_walk_1 : decode cX11_walk 1 = .ok (.iconst (-1), 1) := by decide +kernel
theorem dX11_walk_2 : decode cX11_walk 2 = .ok (.putfield 198, 3) := by decide +kernel
theorem dX11_walk_5 : decode cX11_walk 5 = .ok (.aload_n 0, 1) := by decide +kernel
theorem dX11_walk_6 : decode cX11_walk 6 = .ok (.iload_n 2, 1) := by decide +kernel
theorem dX11_walk_7 : decode cX11_walk 7 = .ok (.iconst 0, 1) := by decide +kernel
theorem dX11_walk_8 : decode cX11_walk 8 = .ok (.invokevirtual 238, 3) := by decide +kernel
theorem dX11_walk_11 : decode cX11_walk 11 = .ok (.aload_n 0, 1) := by decide +kernel
theorem dX11_walk_12 : decode cX11_walk 12 = .ok (.iload_n 1, 1) := by decide +kernel
theorem dX11_walk_13 : decode cX11_walk 13 = .ok (.invokevirtual 241, 3) := by decide +kernel
theorem dX11_walk_16 : decode cX11_walk 16 = .ok (.aload_n 0, 1) := by decide +kernel
theorem dX11_walk_17 : decode cX11_walk 17 = .ok (.getfield 198, 3) := by decide +kernel
theorem dX11_walk_20 : decode cX11_walk 20 = .ok (.ifCond .lt 114, 3) := by decide +kernel
theorem dX11_walk_23 : decode cX11_walk 23 = .ok (.aload_n 0, 1) := by decide +kernel
theorem dX11_walk_24 : decode cX11_walk 24 = .ok (.invokevirtual 244, 3) := by decide +kernel
theorem dX11_walk_27 : decode cX11_walk 27 = .ok (.istore_n 3, 1) := by decide +kernel
theorem dX11_walk_28 : decode cX11_walk 28 = .ok (.iload_n 3, 1) := by decide +kernel
theorem dX11_walk_29 : decode cX11_walk 29 = .ok (.iconst (-1), 1) := by decide +kernel
theorem dX11_walk_30 : decode cX11_walk 30 = .ok (.if_icmp .ne 16, 3) := by decide +kernel
theorem dX11_walk_33 : decode cX11_walk 33 = .ok (.aload_n 0, 1) := by decide +kernel
theorem dX11_walk_34 : decode cX11_walk 34 = .ok (.dup, 1) := by decide +kernel
theorem dX11_walk_35 : decode cX11_walk 35 = .ok (.getfield 198, 3) := by decide +kernel
theorem dX11_walk_38 : decode cX11_walk 38 = .ok (.iconst 1, 1) := by decide +kernel
theorem dX11_walk_39 : decode cX11_walk 39 = .ok (.isub, 1) := by decide +kernel
theorem dX11_walk_40 : decode cX11_walk 40 = .ok (.putfield 198, 3) := by decide +kernel
theorem dX11_walk_43 : decode cX11_walk 43 = .ok (.goto 88, 3) := by decide +kernel
theorem dX11_walk_46 : decode cX11_walk 46 = .ok (.aload_n 0, 1) := by decide +kernel
theorem dX11_walk_47 : decode cX11_walk 47 = .ok (.getfield 82, 3) := by decide +kernel
theorem dX11_walk_50 : decode cX11_walk 50 = .ok (.aload_n 0, 1) := by decide +kernel
theorem dX11_walk_51 : decode cX11_walk 51 = .ok (.getfield 198, 3) := by decide +kernel
theorem dX11_walk_54 : decode cX11_walk 54 = .ok (.iload_n 3, 1) := by decide +kernel
theorem dX11_walk_55 : decode cX11_walk 55 = .ok (.iastore, 1) := by decide +kernel
theorem dX11_walk_56 : decode cX11_walk 56 = .ok (.aload_n 0, 1) := by decide +kernel
theorem dX11_walk_57 : decode cX11_walk 57 = .ok (.getfield 20, 3) := by decide +kernel
theorem dX11_walk_60 : decode cX11_walk 60 = .ok (.iload_n 3, 1) := by decide +kernel
theorem dX11_walk_61 : decode cX11_walk 61 = .ok (.iaload, 1) := by decide +kernel
theorem dX11_walk_62 : decode cX11_walk 62 = .ok (.iconst 2, 1) := by decide +kernel
theorem dX11_walk_63 : decode cX11_walk 63 = .ok (.if_icmp .ne 16, 3) := by decide +kernel
theorem dX11_walk_66 : decode cX11_walk 66 = .ok (.aload_n 0, 1) := by decide +kernel
theorem dX11_walk_67 : decode cX11_walk 67 = .ok (.getfield 35, 3) := by decide +kernel
theorem dX11_walk_70 : decode cX11_walk 70 = .ok (.iload_n 3, 1) := by decide +kernel
theorem dX11_walk_71 : decode cX11_walk 71 = .ok (.baload, 1) := by decide +kernel
theorem dX11_walk_72 : decode cX11_walk 72 = .ok (.ifCond .eq 7, 3) := by decide +kernel
theorem dX11_walk_75 : decode cX11_walk 75 = .ok (.iconst 1, 1) := by decide +kernel
theorem dX11_walk_76 : decode cX11_walk 76 = .ok (.goto 4, 3) := by decide +kernel
theorem dX11_walk_79 : decode cX11_walk 79 = .ok (.iconst 0, 1) := by decide +kernel
theorem dX11_walk_80 : decode cX11_walk 80 = .ok (.istore 4, 2) := by decide +kernel
theorem dX11_walk_82 : decode cX11_walk 82 = .ok (.iload 4, 2) := by decide +kernel
theorem dX11_walk_84 : decode cX11_walk 84 = .ok (.ifCond .ne 17, 3) := by decide +kernel
theorem dX11_walk_87 : decode cX11_walk 87 = .ok (.aload_n 0, 1) := by decide +kernel
theorem dX11_walk_88 : decode cX11_walk 88 = .ok (.iload_n 1, 1) := by decide +kernel
theorem dX11_walk_89 : decode cX11_walk 89 = .ok (.iload_n 3, 1) := by decide +kernel
theorem dX11_walk_90 : decode cX11_walk 90 = .ok (.invokevirtual 247, 3) := by decide +kernel
theorem dX11_walk_93 : decode cX11_walk 93 = .ok (.ifCond .eq 8, 3) := by decide +kernel
theorem dX11_walk_96 : decode cX11_walk 96 = .ok (.aload_n 0, 1) := by decide +kernel
theorem dX11_walk_97 : decode cX11_walk 97 = .ok (.iload_n 3, 1) := by decide +kernel
theorem dX11_walk_98 : decode cX11_walk 98 = .ok (.invokevirtual 250, 3) := by decide +kernel
theorem dX11_walk_101 : decode cX11_walk 101 = .ok (.iload 4, 2) := by decide +kernel
theorem dX11_walk_103 : decode cX11_walk 103 = .ok (.ifCond .ne 28, 3) := by decide +kernel
theorem dX11_walk_106 : decode cX11_walk 106 = .ok (.aload_n 0, 1) := by decide +kernel
theorem dX11_walk_107 : decode cX11_walk 107 = .ok (.getfield 20, 3) := by decide +kernel
theorem dX11_walk_110 : decode cX11_walk 110 = .ok (.iload_n 3, 1) := by decide +kernel
theorem dX11_walk_111 : decode cX11_walk 111 = .ok (.iaload, 1) := by decide +kernel
theorem dX11_walk_112 : decode cX11_walk 112 = .ok (.iconst 2, 1) := by decide +kernel
theorem dX11_walk_113 : decode cX11_walk 113 = .ok (.if_icmp .ne 18, 3) := by decide +kernel
theorem dX11_walk_116 : decode cX11_walk 116 = .ok (.aload_n 0, 1) := by decide +kernel
theorem dX11_walk_117 : decode cX11_walk 117 = .ok (.iload_n 3, 1) := by decide +kernel
theorem dX11_walk_118 : decode cX11_walk 118 = .ok (.aload_n 0, 1) := by decide +kernel
theorem dX11_walk_119 : decode cX11_walk 119 = .ok (.iload_n 3, 1) := by decide +kernel
theorem dX11_walk_120 : decode cX11_walk 120 = .ok (.invokevirtual 216, 3) := by decide +kernel
theorem dX11_walk_123 : decode cX11_walk 123 = .ok (.invokevirtual 238, 3) := by decide +kernel
theorem dX11_walk_126 : decode cX11_walk 126 = .ok (.aload_n 0, 1) := by decide +kernel
theorem dX11_walk_127 : decode cX11_walk 127 = .ok (.iload_n 1, 1) := by decide +kernel
theorem dX11_walk_128 : decode cX11_walk 128 = .ok (.invokevirtual 241, 3) := by decide +kernel
theorem dX11_walk_131 : decode cX11_walk 131 = .ok (.goto (-115), 3) := by decide +kernel
theorem dX11_walk_134 : decode cX11_walk 134 = .ok (.return_, 1) := by decide +kernel
theorem dX11_looked_0 : decode cX11_looked 0 = .ok (.aload_n 0, 1) := by decide +kernel
theorem dX11_looked_1 : decode cX11_looked 1 = .ok (.iconst 0, 1) := by decide +kernel
theorem dX11_looked_2 : decode cX11_looked 2 = .ok (.putfield 103, 3) := by decide +kernel
theorem dX11_looked_5 : decode cX11_looked 5 = .ok (.aload_n 0, 1) := by decide +kernel
theorem dX11_looked_6 : decode cX11_looked 6 = .ok (.getfield 225, 3) := by decide +kernel
theorem dX11_looked_9 : decode cX11_looked 9 = .ok (.ireturn, 1) := by decide +kernel
theorem dX11_answer_0 : decode cX11_answer 0 = .ok (.aload_n 0, 1) := by decide +kernel
theorem dX11_answer_1 : decode cX11_answer 1 = .ok (.iconst 0, 1) := by decide +kernel
theorem dX11_answer_2 : decode cX11_answer 2 = .ok (.putfield 103, 3) := by decide +kernel
theorem dX11_answer_5 : decode cX11_answer 5 = .ok (.iload_n 1, 1) := by decide +kernel
theorem dX11_answer_6 : decode cX11_answer 6 = .ok (.ifCond .lt 39, 3) := by decide +kernel
theorem dX11_answer_9 : decode cX11_answer 9 = .ok (.iload_n 1, 1) := by decide +kernel
theorem dX11_answer_10 : decode cX11_answer 10 = .ok (.aload_n 0, 1) := by decide +kernel
theorem dX11_answer_11 : decode cX11_answer 11 = .ok (.getfield 219, 3) := by decide +kernel
theorem dX11_answer_14 : decode cX11_answer 14 = .ok (.if_icmp .ge 31, 3) := by decide +kernel
theorem dX11_answer_17 : decode cX11_answer 17 = .ok (.iload_n 2, 1) := by decide +kernel
theorem dX11_answer_18 : decode cX11_answer 18 = .ok (.ifCond .lt 27, 3) := by decide +kernel
theorem dX11_answer_21 : decode cX11_answer 21 = .ok (.iload_n 2, 1) := by decide +kernel
theorem dX11_answer_22 : decode cX11_answer 22 = .ok (.aload_n 0, 1) := by decide +kernel
theorem dX11_answer_23 : decode cX11_answer 23 = .ok (.getfield 73, 3) := by decide +kernel
theorem dX11_answer_26 : decode cX11_answer 26 = .ok (.iload_n 1, 1) := by decide +kernel
theorem dX11_answer_27 : decode cX11_answer 27 = .ok (.iaload, 1) := by decide +kernel
theorem dX11_answer_28 : decode cX11_answer 28 = .ok (.if_icmp .ge 17, 3) := by decide +kernel
theorem dX11_answer_31 : decode cX11_answer 31 = .ok (.aload_n 0, 1) := by decide +kernel
theorem dX11_answer_32 : decode cX11_answer 32 = .ok (.getfield 76, 3) := by decide +kernel
theorem dX11_answer_35 : decode cX11_answer 35 = .ok (.bipush 54, 2) := by decide +kernel
theorem dX11_answer_37 : decode cX11_answer 37 = .ok (.iload_n 1, 1) := by decide +kernel
theorem dX11_answer_38 : decode cX11_answer 38 = .ok (.imul, 1) := by decide +kernel
theorem dX11_answer_39 : decode cX11_answer 39 = .ok (.iload_n 2, 1) := by decide +kernel
theorem dX11_answer_40 : decode cX11_answer 40 = .ok (.iadd, 1) := by decide +kernel
theorem dX11_answer_41 : decode cX11_answer 41 = .ok (.baload, 1) := by decide +kernel
theorem dX11_answer_42 : decode cX11_answer 42 = .ok (.goto 4, 3) := by decide +kernel
theorem dX11_answer_45 : decode cX11_answer 45 = .ok (.iconst 0, 1) := by decide +kernel
theorem dX11_answer_46 : decode cX11_answer 46 = .ok (.ireturn, 1) := by decide +kernel
theorem dJ5_init_d00df_0 : decode cJ5_init_d00df 0 = .ok (.aload_n 0, 1) := by decide +kernel
theorem dJ5_init_d00df_1 : decode cJ5_init_d00df 1 = .ok (.invokespecial 3, 3) := by decide +kernel
theorem dJ5_init_d00df_4 : decode cJ5_init_d00df 4 = .ok (.getstatic 18, 3) := by decide +kernel
theorem dJ5_init_d00df_7 : decode cJ5_init_d00df 7 = .ok (.ifCond .eq 18, 3) := by decide +kernel
theorem dJ5_init_d00df_10 : decode cJ5_init_d00df 10 = .ok (.aload_n 0, 1) := by decide +kernel
theorem dJ5_init_d00df_11 : decode cJ5_init_d00df 11 = .ok (.iload_n 1, 1) := by decide +kernel
theorem dJ5_init_d00df_12 : decode cJ5_init_d00df 12 = .ok (.newarray .byte, 2) := by decide +kernel
theorem dJ5_init_d00df_14 : decode cJ5_init_d00df 14 = .ok (.putfield 15, 3) := by decide +kernel
theorem dJ5_init_d00df_17 : decode cJ5_init_d00df 17 = .ok (.aload_n 0, 1) := by decide +kernel
theorem dJ5_init_d00df_18 : decode cJ5_init_d00df 18 = .ok (.iconst 0, 1) := by decide +kernel
theorem dJ5_init_d00df_19 : decode cJ5_init_d00df 19 = .ok (.putfield 22, 3) := by decide +kernel
theorem dJ5_init_d00df_22 : decode cJ5_init_d00df 22 = .ok (.goto 16, 3) := by decide +kernel
theorem dJ5_init_d00df_25 : decode cJ5_init_d00df 25 = .ok (.aload_n 0, 1) := by decide +kernel
theorem dJ5_init_d00df_26 : decode cJ5_init_d00df 26 = .ok (.iload_n 1, 1) := by decide +kernel
theorem dJ5_init_d00df_27 : decode cJ5_init_d00df 27 = .ok (.invokestatic 26, 3) := by decide +kernel
theorem dJ5_init_d00df_30 : decode cJ5_init_d00df 30 = .ok (.putfield 15, 3) := by decide +kernel
theorem dJ5_init_d00df_33 : decode cJ5_init_d00df 33 = .ok (.aload_n 0, 1) := by decide +kernel
theorem dJ5_init_d00df_34 : decode cJ5_init_d00df 34 = .ok (.iconst 1, 1) := by decide +kernel
theorem dJ5_init_d00df_35 : decode cJ5_init_d00df 35 = .ok (.putfield 22, 3) := by decide +kernel
theorem dJ5_init_d00df_38 : decode cJ5_init_d00df 38 = .ok (.return_, 1) := by decide +kernel
theorem dJ5_length_8abf5_0 : decode cJ5_length_8abf5 0 = .ok (.aload_n 0, 1) := by decide +kernel
theorem dJ5_length_8abf5_1 : decode cJ5_length_8abf5 1 = .ok (.getfield 79, 3) := by decide +kernel
theorem dJ5_length_8abf5_4 : decode cJ5_length_8abf5 4 = .ok (.ireturn, 1) := by decide +kernel
theorem dJ5_ensureCapacityInternal_d00df_0 : decode cJ5_ensureCapacityInternal_d00df 0 = .ok (.aload_n 0, 1) := by decide +kernel
theorem dJ5_ensureCapacityInternal_d00df_1 : decode cJ5_ensureCapacityInternal_d00df 1 = .ok (.getfield 15, 3) := by decide +kernel
theorem dJ5_ensureCapacityInternal_d00df_4 : decode cJ5_ensureCapacityInternal_d00df 4 = .ok (.arraylength, 1) := by decide +kernel
theorem dJ5_ensureCapacityInternal_d00df_5 : decode cJ5_ensureCapacityInternal_d00df 5 = .ok (.aload_n 0, 1) := by decide +kernel
theorem dJ5_ensureCapacityInternal_d00df_6 : decode cJ5_ensureCapacityInternal_d00df 6 = .ok (.getfield 22, 3) := by decide +kernel
theorem dJ5_ensureCapacityInternal_d00df_9 : decode cJ5_ensureCapacityInternal_d00df 9 = .ok (.ishr, 1) := by decide +kernel
theorem dJ5_ensureCapacityInternal_d00df_10 : decode cJ5_ensureCapacityInternal_d00df 10 = .ok (.istore_n 2, 1) := by decide +kernel
theorem dJ5_ensureCapacityInternal_d00df_11 : decode cJ5_ensureCapacityInternal_d00df 11 = .ok (.iload_n 1, 1) := by decide +kernel
theorem dJ5_ensureCapacityInternal_d00df_12 : decode cJ5_ensureCapacityInternal_d00df 12 = .ok (.iload_n 2, 1) := by decide +kernel
theorem dJ5_ensureCapacityInternal_d00df_13 : decode cJ5_ensureCapacityInternal_d00df 13 = .ok (.isub, 1) := by decide +kernel
theorem dJ5_ensureCapacityInternal_d00df_14 : decode cJ5_ensureCapacityInternal_d00df 14 = .ok (.ifCond .le 24, 3) := by decide +kernel
theorem dJ5_ensureCapacityInternal_d00df_17 : decode cJ5_ensureCapacityInternal_d00df 17 = .ok (.aload_n 0, 1) := by decide +kernel
theorem dJ5_ensureCapacityInternal_d00df_18 : decode cJ5_ensureCapacityInternal_d00df 18 = .ok (.aload_n 0, 1) := by decide +kernel
theorem dJ5_ensureCapacityInternal_d00df_19 : decode cJ5_ensureCapacityInternal_d00df 19 = .ok (.getfield 15, 3) := by decide +kernel
theorem dJ5_ensureCapacityInternal_d00df_22 : decode cJ5_ensureCapacityInternal_d00df 22 = .ok (.aload_n 0, 1) := by decide +kernel
theorem dJ5_ensureCapacityInternal_d00df_23 : decode cJ5_ensureCapacityInternal_d00df 23 = .ok (.iload_n 1, 1) := by decide +kernel
theorem dJ5_ensureCapacityInternal_d00df_24 : decode cJ5_ensureCapacityInternal_d00df 24 = .ok (.invokevirtual 104, 3) := by decide +kernel
theorem dJ5_ensureCapacityInternal_d00df_27 : decode cJ5_ensureCapacityInternal_d00df 27 = .ok (.aload_n 0, 1) := by decide +kernel
theorem dJ5_ensureCapacityInternal_d00df_28 : decode cJ5_ensureCapacityInternal_d00df 28 = .ok (.getfield 22, 3) := by decide +kernel
theorem dJ5_ensureCapacityInternal_d00df_31 : decode cJ5_ensureCapacityInternal_d00df 31 = .ok (.ishl, 1) := by decide +kernel
theorem dJ5_ensureCapacityInternal_d00df_32 : decode cJ5_ensureCapacityInternal_d00df 32 = .ok (.invokestatic 108, 3) := by decide +kernel
theorem dJ5_ensureCapacityInternal_d00df_35 : decode cJ5_ensureCapacityInternal_d00df 35 = .ok (.putfield 15, 3) := by decide +kernel
theorem dJ5_ensureCapacityInternal_d00df_38 : decode cJ5_ensureCapacityInternal_d00df 38 = .ok (.return_, 1) := by decide +kernel
theorem dJ5_newCapacity_0f7a4_0 : decode cJ5_newCapacity_0f7a4 0 = .ok (.aload_n 0, 1) := by decide +kernel
theorem dJ5_newCapacity_0f7a4_1 : decode cJ5_newCapacity_0f7a4 1 = .ok (.getfield 15, 3) := by decide +kernel
theorem dJ5_newCapacity_0f7a4_4 : decode cJ5_newCapacity_0f7a4 4 = .ok (.arraylength, 1) := by decide +kernel
theorem dJ5_newCapacity_0f7a4_5 : decode cJ5_newCapacity_0f7a4 5 = .ok (.istore_n 2, 1) := by decide +kernel
theorem dJ5_newCapacity_0f7a4_6 : decode cJ5_newCapacity_0f7a4 6 = .ok (.iload_n 1, 1) := by decide +kernel
theorem dJ5_newCapacity_0f7a4_7 : decode cJ5_newCapacity_0f7a4 7 = .ok (.aload_n 0, 1) := by decide +kernel
theorem dJ5_newCapacity_0f7a4_8 : decode cJ5_newCapacity_0f7a4 8 = .ok (.getfield 22, 3) := by decide +kernel
theorem dJ5_newCapacity_0f7a4_11 : decode cJ5_newCapacity_0f7a4 11 = .ok (.ishl, 1) := by decide +kernel
theorem dJ5_newCapacity_0f7a4_12 : decode cJ5_newCapacity_0f7a4 12 = .ok (.istore_n 3, 1) := by decide +kernel
theorem dJ5_newCapacity_0f7a4_13 : decode cJ5_newCapacity_0f7a4 13 = .ok (.iload_n 3, 1) := by decide +kernel
theorem dJ5_newCapacity_0f7a4_14 : decode cJ5_newCapacity_0f7a4 14 = .ok (.iload_n 2, 1) := by decide +kernel
theorem dJ5_newCapacity_0f7a4_15 : decode cJ5_newCapacity_0f7a4 15 = .ok (.isub, 1) := by decide +kernel
theorem dJ5_newCapacity_0f7a4_16 : decode cJ5_newCapacity_0f7a4 16 = .ok (.istore 4, 2) := by decide +kernel
theorem dJ5_newCapacity_0f7a4_18 : decode cJ5_newCapacity_0f7a4 18 = .ok (.iload_n 2, 1) := by decide +kernel
theorem dJ5_newCapacity_0f7a4_19 : decode cJ5_newCapacity_0f7a4 19 = .ok (.iload 4, 2) := by decide +kernel
theorem dJ5_newCapacity_0f7a4_21 : decode cJ5_newCapacity_0f7a4 21 = .ok (.iload_n 2, 1) := by decide +kernel
theorem dJ5_newCapacity_0f7a4_22 : decode cJ5_newCapacity_0f7a4 22 = .ok (.iconst 2, 1) := by decide +kernel
theorem dJ5_newCapacity_0f7a4_23 : decode cJ5_newCapacity_0f7a4 23 = .ok (.aload_n 0, 1) := by decide +kernel
theorem dJ5_newCapacity_0f7a4_24 : decode cJ5_newCapacity_0f7a4 24 = .ok (.getfield 22, 3) := by decide +kernel
theorem dJ5_newCapacity_0f7a4_27 : decode cJ5_newCapacity_0f7a4 27 = .ok (.ishl, 1) := by decide +kernel
theorem dJ5_newCapacity_0f7a4_28 : decode cJ5_newCapacity_0f7a4 28 = .ok (.iadd, 1) := by decide +kernel
theorem dJ5_newCapacity_0f7a4_29 : decode cJ5_newCapacity_0f7a4 29 = .ok (.invokestatic 114, 3) := by decide +kernel
theorem dJ5_newCapacity_0f7a4_32 : decode cJ5_newCapacity_0f7a4 32 = .ok (.istore 5, 2) := by decide +kernel
theorem dJ5_newCapacity_0f7a4_34 : decode cJ5_newCapacity_0f7a4 34 = .ok (.iload 5, 2) := by decide +kernel
theorem dJ5_newCapacity_0f7a4_36 : decode cJ5_newCapacity_0f7a4 36 = .ok (.ldc 39, 2) := by decide +kernel
theorem dJ5_newCapacity_0f7a4_38 : decode cJ5_newCapacity_0f7a4 38 = .ok (.if_icmp .ne 13, 3) := by decide +kernel
theorem dJ5_newCapacity_0f7a4_41 : decode cJ5_newCapacity_0f7a4 41 = .ok (.new 120, 3) := by decide +kernel
theorem dJ5_newCapacity_0f7a4_44 : decode cJ5_newCapacity_0f7a4 44 = .ok (.dup, 1) := by decide +kernel
theorem dJ5_newCapacity_0f7a4_45 : decode cJ5_newCapacity_0f7a4 45 = .ok (.ldc 122, 2) := by decide +kernel
theorem dJ5_newCapacity_0f7a4_47 : decode cJ5_newCapacity_0f7a4 47 = .ok (.invokespecial 124, 3) := by decide +kernel
theorem dJ5_newCapacity_0f7a4_50 : decode cJ5_newCapacity_0f7a4 50 = .ok (.athrow, 1) := by decide +kernel
theorem dJ5_newCapacity_0f7a4_51 : decode cJ5_newCapacity_0f7a4 51 = .ok (.iload 5, 2) := by decide +kernel
theorem dJ5_newCapacity_0f7a4_53 : decode cJ5_newCapacity_0f7a4 53 = .ok (.aload_n 0, 1) := by decide +kernel
theorem dJ5_newCapacity_0f7a4_54 : decode cJ5_newCapacity_0f7a4 54 = .ok (.getfield 22, 3) := by decide +kernel
theorem dJ5_newCapacity_0f7a4_57 : decode cJ5_newCapacity_0f7a4 57 = .ok (.ishr, 1) := by decide +kernel
theorem dJ5_newCapacity_0f7a4_58 : decode cJ5_newCapacity_0f7a4 58 = .ok (.ireturn, 1) := by decide +kernel
theorem dJ5_inflate_da8c8_0 : decode cJ5_inflate_da8c8 0 = .ok (.aload_n 0, 1) := by decide +kernel
theorem dJ5_inflate_da8c8_1 : decode cJ5_inflate_da8c8 1 = .ok (.invokevirtual 83, 3) := by decide +kernel
theorem dJ5_inflate_da8c8_4 : decode cJ5_inflate_da8c8 4 = .ok (.ifCond .ne 4, 3) := by decide +kernel
theorem dJ5_inflate_da8c8_7 : decode cJ5_inflate_da8c8 7 = .ok (.return_, 1) := by decide +kernel
theorem dJ5_inflate_da8c8_8 : decode cJ5_inflate_da8c8 8 = .ok (.aload_n 0, 1) := by decide +kernel
theorem dJ5_inflate_da8c8_9 : decode cJ5_inflate_da8c8 9 = .ok (.getfield 15, 3) := by decide +kernel
theorem dJ5_inflate_da8c8_12 : decode cJ5_inflate_da8c8 12 = .ok (.arraylength, 1) := by decide +kernel
theorem dJ5_inflate_da8c8_13 : decode cJ5_inflate_da8c8 13 = .ok (.invokestatic 26, 3) := by decide +kernel
theorem dJ5_inflate_da8c8_16 : decode cJ5_inflate_da8c8 16 = .ok (.astore_n 1, 1) := by decide +kernel
theorem dJ5_inflate_da8c8_17 : decode cJ5_inflate_da8c8 17 = .ok (.aload_n 0, 1) := by decide +kernel
theorem dJ5_inflate_da8c8_18 : decode cJ5_inflate_da8c8 18 = .ok (.getfield 15, 3) := by decide +kernel
theorem dJ5_inflate_da8c8_21 : decode cJ5_inflate_da8c8 21 = .ok (.iconst 0, 1) := by decide +kernel
theorem dJ5_inflate_da8c8_22 : decode cJ5_inflate_da8c8 22 = .ok (.aload_n 1, 1) := by decide +kernel
theorem dJ5_inflate_da8c8_23 : decode cJ5_inflate_da8c8 23 = .ok (.iconst 0, 1) := by decide +kernel
theorem dJ5_inflate_da8c8_24 : decode cJ5_inflate_da8c8 24 = .ok (.aload_n 0, 1) := by decide +kernel
theorem dJ5_inflate_da8c8_25 : decode cJ5_inflate_da8c8 25 = .ok (.getfield 79, 3) := by decide +kernel
theorem dJ5_inflate_da8c8_28 : decode cJ5_inflate_da8c8 28 = .ok (.invokestatic 125, 3) := by decide +kernel
theorem dJ5_inflate_da8c8_31 : decode cJ5_inflate_da8c8 31 = .ok (.aload_n 0, 1) := by decide +kernel
theorem dJ5_inflate_da8c8_32 : decode cJ5_inflate_da8c8 32 = .ok (.aload_n 1, 1) := by decide +kernel
theorem dJ5_inflate_da8c8_33 : decode cJ5_inflate_da8c8 33 = .ok (.putfield 15, 3) := by decide +kernel
theorem dJ5_inflate_da8c8_36 : decode cJ5_inflate_da8c8 36 = .ok (.aload_n 0, 1) := by decide +kernel
theorem dJ5_inflate_da8c8_37 : decode cJ5_inflate_da8c8 37 = .ok (.iconst 1, 1) := by decide +kernel
theorem dJ5_inflate_da8c8_38 : decode cJ5_inflate_da8c8 38 = .ok (.putfield 22, 3) := by decide +kernel
theorem dJ5_inflate_da8c8_41 : decode cJ5_inflate_da8c8 41 = .ok (.return_, 1) := by decide +kernel
theorem dJ5_setLength_d00df_0 : decode cJ5_setLength_d00df 0 = .ok (.iload_n 1, 1) := by decide +kernel
theorem dJ5_setLength_d00df_1 : decode cJ5_setLength_d00df 1 = .ok (.ifCond .ge 12, 3) := by decide +kernel
theorem dJ5_setLength_d00df_4 : decode cJ5_setLength_d00df 4 = .ok (.new 129, 3) := by decide +kernel
theorem dJ5_setLength_d00df_7 : decode cJ5_setLength_d00df 7 = .ok (.dup, 1) := by decide +kernel
theorem dJ5_setLength_d00df_8 : decode cJ5_setLength_d00df 8 = .ok (.iload_n 1, 1) := by decide +kernel
theorem dJ5_setLength_d00df_9 : decode cJ5_setLength_d00df 9 = .ok (.invokespecial 131, 3) := by decide +kernel
theorem dJ5_setLength_d00df_12 : decode cJ5_setLength_d00df 12 = .ok (.athrow, 1) := by decide +kernel
theorem dJ5_setLength_d00df_13 : decode cJ5_setLength_d00df 13 = .ok (.aload_n 0, 1) := by decide +kernel
theorem dJ5_setLength_d00df_14 : decode cJ5_setLength_d00df 14 = .ok (.iload_n 1, 1) := by decide +kernel
theorem dJ5_setLength_d00df_15 : decode cJ5_setLength_d00df 15 = .ok (.invokevirtual 100, 3) := by decide +kernel
theorem dJ5_setLength_d00df_18 : decode cJ5_setLength_d00df 18 = .ok (.aload_n 0, 1) := by decide +kernel
theorem dJ5_setLength_d00df_19 : decode cJ5_setLength_d00df 19 = .ok (.getfield 79, 3) := by decide +kernel
theorem dJ5_setLength_d00df_22 : decode cJ5_setLength_d00df 22 = .ok (.iload_n 1, 1) := by decide +kernel
theorem dJ5_setLength_d00df_23 : decode cJ5_setLength_d00df 23 = .ok (.if_icmp .ge 40, 3) := by decide +kernel
theorem dJ5_setLength_d00df_26 : decode cJ5_setLength_d00df 26 = .ok (.aload_n 0, 1) := by decide +kernel
theorem dJ5_setLength_d00df_27 : decode cJ5_setLength_d00df 27 = .ok (.invokevirtual 83, 3) := by decide +kernel
theorem dJ5_setLength_d00df_30 : decode cJ5_setLength_d00df 30 = .ok (.ifCond .eq 18, 3) := by decide +kernel
theorem dJ5_setLength_d00df_33 : decode cJ5_setLength_d00df 33 = .ok (.aload_n 0, 1) := by decide +kernel
theorem dJ5_setLength_d00df_34 : decode cJ5_setLength_d00df 34 = .ok (.getfield 15, 3) := by decide +kernel
theorem dJ5_setLength_d00df_37 : decode cJ5_setLength_d00df 37 = .ok (.aload_n 0, 1) := by decide +kernel
theorem dJ5_setLength_d00df_38 : decode cJ5_setLength_d00df 38 = .ok (.getfield 79, 3) := by decide +kernel
theorem dJ5_setLength_d00df_41 : decode cJ5_setLength_d00df 41 = .ok (.iload_n 1, 1) := by decide +kernel
theorem dJ5_setLength_d00df_42 : decode cJ5_setLength_d00df 42 = .ok (.invokestatic 133, 3) := by decide +kernel
theorem dJ5_setLength_d00df_45 : decode cJ5_setLength_d00df 45 = .ok (.goto 31, 3) := by decide +kernel
theorem dJ5_setLength_d00df_48 : decode cJ5_setLength_d00df 48 = .ok (.aload_n 0, 1) := by decide +kernel
theorem dJ5_setLength_d00df_49 : decode cJ5_setLength_d00df 49 = .ok (.getfield 15, 3) := by decide +kernel
theorem dJ5_setLength_d00df_52 : decode cJ5_setLength_d00df 52 = .ok (.aload_n 0, 1) := by decide +kernel
theorem dJ5_setLength_d00df_53 : decode cJ5_setLength_d00df 53 = .ok (.getfield 79, 3) := by decide +kernel
theorem dJ5_setLength_d00df_56 : decode cJ5_setLength_d00df 56 = .ok (.iload_n 1, 1) := by decide +kernel
theorem dJ5_setLength_d00df_57 : decode cJ5_setLength_d00df 57 = .ok (.invokestatic 137, 3) := by decide +kernel
theorem dJ5_setLength_d00df_60 : decode cJ5_setLength_d00df 60 = .ok (.goto 16, 3) := by decide +kernel
theorem dJ5_setLength_d00df_63 : decode cJ5_setLength_d00df 63 = .ok (.aload_n 0, 1) := by decide +kernel
theorem dJ5_setLength_d00df_64 : decode cJ5_setLength_d00df 64 = .ok (.getfield 79, 3) := by decide +kernel
theorem dJ5_setLength_d00df_67 : decode cJ5_setLength_d00df 67 = .ok (.iload_n 1, 1) := by decide +kernel
theorem dJ5_setLength_d00df_68 : decode cJ5_setLength_d00df 68 = .ok (.if_icmp .le 8, 3) := by decide +kernel
theorem dJ5_setLength_d00df_71 : decode cJ5_setLength_d00df 71 = .ok (.aload_n 0, 1) := by decide +kernel
theorem dJ5_setLength_d00df_72 : decode cJ5_setLength_d00df 72 = .ok (.iconst 1, 1) := by decide +kernel
theorem dJ5_setLength_d00df_73 : decode cJ5_setLength_d00df 73 = .ok (.putfield 73, 3) := by decide +kernel
theorem dJ5_setLength_d00df_76 : decode cJ5_setLength_d00df 76 = .ok (.aload_n 0, 1) := by decide +kernel
theorem dJ5_setLength_d00df_77 : decode cJ5_setLength_d00df 77 = .ok (.iload_n 1, 1) := by decide +kernel
theorem dJ5_setLength_d00df_78 : decode cJ5_setLength_d00df 78 = .ok (.putfield 79, 3) := by decide +kernel
theorem dJ5_setLength_d00df_81 : decode cJ5_setLength_d00df 81 = .ok (.return_, 1) := by decide +kernel
theorem dJ5_charAt_5068e_0 : decode cJ5_charAt_5068e 0 = .ok (.aload_n 0, 1) := by decide +kernel
theorem dJ5_charAt_5068e_1 : decode cJ5_charAt_5068e 1 = .ok (.getfield 22, 3) := by decide +kernel
theorem dJ5_charAt_5068e_4 : decode cJ5_charAt_5068e 4 = .ok (.istore_n 2, 1) := by decide +kernel
theorem dJ5_charAt_5068e_5 : decode cJ5_charAt_5068e 5 = .ok (.aload_n 0, 1) := by decide +kernel
theorem dJ5_charAt_5068e_6 : decode cJ5_charAt_5068e 6 = .ok (.getfield 15, 3) := by decide +kernel
theorem dJ5_charAt_5068e_9 : decode cJ5_charAt_5068e 9 = .ok (.astore_n 3, 1) := by decide +kernel
theorem dJ5_charAt_5068e_10 : decode cJ5_charAt_5068e 10 = .ok (.aload_n 0, 1) := by decide +kernel
theorem dJ5_charAt_5068e_11 : decode cJ5_charAt_5068e 11 = .ok (.getfield 79, 3) := by decide +kernel
theorem dJ5_charAt_5068e_14 : decode cJ5_charAt_5068e 14 = .ok (.aload_n 3, 1) := by decide +kernel
theorem dJ5_charAt_5068e_15 : decode cJ5_charAt_5068e 15 = .ok (.arraylength, 1) := by decide +kernel
theorem dJ5_charAt_5068e_16 : decode cJ5_charAt_5068e 16 = .ok (.iload_n 2, 1) := by decide +kernel
theorem dJ5_charAt_5068e_17 : decode cJ5_charAt_5068e 17 = .ok (.ishr, 1) := by decide +kernel
theorem dJ5_charAt_5068e_18 : decode cJ5_charAt_5068e 18 = .ok (.invokestatic 138, 3) := by decide +kernel
theorem dJ5_charAt_5068e_21 : decode cJ5_charAt_5068e 21 = .ok (.istore 4, 2) := by decide +kernel
theorem dJ5_charAt_5068e_23 : decode cJ5_charAt_5068e 23 = .ok (.iload_n 1, 1) := by decide +kernel
theorem dJ5_charAt_5068e_24 : decode cJ5_charAt_5068e 24 = .ok (.iload 4, 2) := by decide +kernel
theorem dJ5_charAt_5068e_26 : decode cJ5_charAt_5068e 26 = .ok (.invokestatic 144, 3) := by decide +kernel
theorem dJ5_charAt_5068e_29 : decode cJ5_charAt_5068e 29 = .ok (.iload_n 2, 1) := by decide +kernel
theorem dJ5_charAt_5068e_30 : decode cJ5_charAt_5068e 30 = .ok (.ifCond .ne 12, 3) := by decide +kernel
theorem dJ5_charAt_5068e_33 : decode cJ5_charAt_5068e 33 = .ok (.aload_n 3, 1) := by decide +kernel
theorem dJ5_charAt_5068e_34 : decode cJ5_charAt_5068e 34 = .ok (.iload_n 1, 1) := by decide +kernel
theorem dJ5_charAt_5068e_35 : decode cJ5_charAt_5068e 35 = .ok (.baload, 1) := by decide +kernel
theorem dJ5_charAt_5068e_36 : decode cJ5_charAt_5068e 36 = .ok (.sipush 255, 3) := by decide +kernel
theorem dJ5_charAt_5068e_39 : decode cJ5_charAt_5068e 39 = .ok (.iand, 1) := by decide +kernel
theorem dJ5_charAt_5068e_40 : decode cJ5_charAt_5068e 40 = .ok (.i2c, 1) := by decide +kernel
theorem dJ5_charAt_5068e_41 : decode cJ5_charAt_5068e 41 = .ok (.ireturn, 1) := by decide +kernel
theorem dJ5_charAt_5068e_42 : decode cJ5_charAt_5068e 42 = .ok (.aload_n 3, 1) := by decide +kernel
theorem dJ5_charAt_5068e_43 : decode cJ5_charAt_5068e 43 = .ok (.iload_n 1, 1) := by decide +kernel
theorem dJ5_charAt_5068e_44 : decode cJ5_charAt_5068e 44 = .ok (.invokestatic 148, 3) := by decide +kernel
theorem dJ5_charAt_5068e_47 : decode cJ5_charAt_5068e 47 = .ok (.ireturn, 1) := by decide +kernel
theorem dJ5_append_cf1ce_0 : decode cJ5_append_cf1ce 0 = .ok (.aload_n 1, 1) := by decide +kernel
theorem dJ5_append_cf1ce_1 : decode cJ5_append_cf1ce 1 = .ok (.ifnonnull 8, 3) := by decide +kernel
theorem dJ5_append_cf1ce_4 : decode cJ5_append_cf1ce 4 = .ok (.aload_n 0, 1) := by decide +kernel
theorem dJ5_append_cf1ce_5 : decode cJ5_append_cf1ce 5 = .ok (.invokevirtual 204, 3) := by decide +kernel
theorem dJ5_append_cf1ce_8 : decode cJ5_append_cf1ce 8 = .ok (.areturn, 1) := by decide +kernel
theorem dJ5_append_cf1ce_9 : decode cJ5_append_cf1ce 9 = .ok (.aload_n 1, 1) := by decide +kernel
theorem dJ5_append_cf1ce_10 : decode cJ5_append_cf1ce 10 = .ok (.invokevirtual 32, 3) := by decide +kernel
theorem dJ5_append_cf1ce_13 : decode cJ5_append_cf1ce 13 = .ok (.istore_n 2, 1) := by decide +kernel
theorem dJ5_append_cf1ce_14 : decode cJ5_append_cf1ce 14 = .ok (.aload_n 0, 1) := by decide +kernel
theorem dJ5_append_cf1ce_15 : decode cJ5_append_cf1ce 15 = .ok (.aload_n 0, 1) := by decide +kernel
theorem dJ5_append_cf1ce_16 : decode cJ5_append_cf1ce 16 = .ok (.getfield 79, 3) := by decide +kernel
theorem dJ5_append_cf1ce_19 : decode cJ5_append_cf1ce 19 = .ok (.iload_n 2, 1) := by decide +kernel
theorem dJ5_append_cf1ce_20 : decode cJ5_append_cf1ce 20 = .ok (.iadd, 1) := by decide +kernel
theorem dJ5_append_cf1ce_21 : decode cJ5_append_cf1ce 21 = .ok (.invokevirtual 100, 3) := by decide +kernel
theorem dJ5_append_cf1ce_24 : decode cJ5_append_cf1ce 24 = .ok (.aload_n 0, 1) := by decide +kernel
theorem dJ5_append_cf1ce_25 : decode cJ5_append_cf1ce 25 = .ok (.aload_n 0, 1) := by decide +kernel
theorem dJ5_append_cf1ce_26 : decode cJ5_append_cf1ce 26 = .ok (.getfield 79, 3) := by decide +kernel
theorem dJ5_append_cf1ce_29 : decode cJ5_append_cf1ce 29 = .ok (.aload_n 1, 1) := by decide +kernel
theorem dJ5_append_cf1ce_30 : decode cJ5_append_cf1ce 30 = .ok (.invokevirtual 208, 3) := by decide +kernel
theorem dJ5_append_cf1ce_33 : decode cJ5_append_cf1ce 33 = .ok (.aload_n 0, 1) := by decide +kernel
theorem dJ5_append_cf1ce_34 : decode cJ5_append_cf1ce 34 = .ok (.dup, 1) := by decide +kernel
theorem dJ5_append_cf1ce_35 : decode cJ5_append_cf1ce 35 = .ok (.getfield 79, 3) := by decide +kernel
theorem dJ5_append_cf1ce_38 : decode cJ5_append_cf1ce 38 = .ok (.iload_n 2, 1) := by decide +kernel
theorem dJ5_append_cf1ce_39 : decode cJ5_append_cf1ce 39 = .ok (.iadd, 1) := by decide +kernel
theorem dJ5_append_cf1ce_40 : decode cJ5_append_cf1ce 40 = .ok (.putfield 79, 3) := by decide +kernel
theorem dJ5_append_cf1ce_43 : decode cJ5_append_cf1ce 43 = .ok (.aload_n 0, 1) := by decide +kernel
theorem dJ5_append_cf1ce_44 : decode cJ5_append_cf1ce 44 = .ok (.areturn, 1) := by decide +kernel
theorem dJ5_appendNull_278bc_0 : decode cJ5_appendNull_278bc 0 = .ok (.aload_n 0, 1) := by decide +kernel
theorem dJ5_appendNull_278bc_1 : decode cJ5_appendNull_278bc 1 = .ok (.aload_n 0, 1) := by decide +kernel
theorem dJ5_appendNull_278bc_2 : decode cJ5_appendNull_278bc 2 = .ok (.getfield 79, 3) := by decide +kernel
theorem dJ5_appendNull_278bc_5 : decode cJ5_appendNull_278bc 5 = .ok (.iconst 4, 1) := by decide +kernel
theorem dJ5_appendNull_278bc_6 : decode cJ5_appendNull_278bc 6 = .ok (.iadd, 1) := by decide +kernel
theorem dJ5_appendNull_278bc_7 : decode cJ5_appendNull_278bc 7 = .ok (.invokevirtual 100, 3) := by decide +kernel
theorem dJ5_appendNull_278bc_10 : decode cJ5_appendNull_278bc 10 = .ok (.aload_n 0, 1) := by decide +kernel
theorem dJ5_appendNull_278bc_11 : decode cJ5_appendNull_278bc 11 = .ok (.getfield 79, 3) := by decide +kernel
theorem dJ5_appendNull_278bc_14 : decode cJ5_appendNull_278bc 14 = .ok (.istore_n 1, 1) := by decide +kernel
theorem dJ5_appendNull_278bc_15 : decode cJ5_appendNull_278bc 15 = .ok (.aload_n 0, 1) := by decide +kernel
theorem dJ5_appendNull_278bc_16 : decode cJ5_appendNull_278bc 16 = .ok (.getfield 15, 3) := by decide +kernel
theorem dJ5_appendNull_278bc_19 : decode cJ5_appendNull_278bc 19 = .ok (.astore_n 2, 1) := by decide +kernel
theorem dJ5_appendNull_278bc_20 : decode cJ5_appendNull_278bc 20 = .ok (.aload_n 0, 1) := by decide +kernel
theorem dJ5_appendNull_278bc_21 : decode cJ5_appendNull_278bc 21 = .ok (.invokevirtual 83, 3) := by decide +kernel
theorem dJ5_appendNull_278bc_24 : decode cJ5_appendNull_278bc 24 = .ok (.ifCond .eq 38, 3) := by decide +kernel
theorem dJ5_appendNull_278bc_27 : decode cJ5_appendNull_278bc 27 = .ok (.aload_n 2, 1) := by decide +kernel
theorem dJ5_appendNull_278bc_28 : decode cJ5_appendNull_278bc 28 = .ok (.iload_n 1, 1) := by decide +kernel
theorem dJ5_appendNull_278bc_29 : decode cJ5_appendNull_278bc 29 = .ok (.iinc 1 1, 3) := by decide +kernel
theorem dJ5_appendNull_278bc_32 : decode cJ5_appendNull_278bc 32 = .ok (.bipush 110, 2) := by decide +kernel
theorem dJ5_appendNull_278bc_34 : decode cJ5_appendNull_278bc 34 = .ok (.bastore, 1) := by decide +kernel
theorem dJ5_appendNull_278bc_35 : decode cJ5_appendNull_278bc 35 = .ok (.aload_n 2, 1) := by decide +kernel
theorem dJ5_appendNull_278bc_36 : decode cJ5_appendNull_278bc 36 = .ok (.iload_n 1, 1) := by decide +kernel
theorem dJ5_appendNull_278bc_37 : decode cJ5_appendNull_278bc 37 = .ok (.iinc 1 1, 3) := by decide +kernel
theorem dJ5_appendNull_278bc_40 : decode cJ5_appendNull_278bc 40 = .ok (.bipush 117, 2) := by decide +kernel
theorem dJ5_appendNull_278bc_42 : decode cJ5_appendNull_278bc 42 = .ok (.bastore, 1) := by decide +kernel
theorem dJ5_appendNull_278bc_43 : decode cJ5_appendNull_278bc 43 = .ok (.aload_n 2, 1) := by decide +kernel
theorem dJ5_appendNull_278bc_44 : decode cJ5_appendNull_278bc 44 = .ok (.iload_n 1, 1) := by decide +kernel
theorem dJ5_appendNull_278bc_45 : decode cJ5_appendNull_278bc 45 = .ok (.iinc 1 1, 3) := by decide +kernel
theorem dJ5_appendNull_278bc_48 : decode cJ5_appendNull_278bc 48 = .ok (.bipush 108, 2) := by decide +kernel
theorem dJ5_appendNull_278bc_50 : decode cJ5_appendNull_278bc 50 = .ok (.bastore, 1) := by decide +kernel
theorem dJ5_appendNull_278bc_51 : decode cJ5_appendNull_278bc 51 = .ok (.aload_n 2, 1) := by decide +kernel
theorem dJ5_appendNull_278bc_52 : decode cJ5_appendNull_278bc 52 = .ok (.iload_n 1, 1) := by decide +kernel
theorem dJ5_appendNull_278bc_53 : decode cJ5_appendNull_278bc 53 = .ok (.iinc 1 1, 3) := by decide +kernel
theorem dJ5_appendNull_278bc_56 : decode cJ5_appendNull_278bc 56 = .ok (.bipush 108, 2) := by decide +kernel
theorem dJ5_appendNull_278bc_58 : decode cJ5_appendNull_278bc 58 = .ok (.bastore, 1) := by decide +kernel
theorem dJ5_appendNull_278bc_59 : decode cJ5_appendNull_278bc 59 = .ok (.goto 17, 3) := by decide +kernel
theorem dJ5_appendNull_278bc_62 : decode cJ5_appendNull_278bc 62 = .ok (.aload_n 2, 1) := by decide +kernel
theorem dJ5_appendNull_278bc_63 : decode cJ5_appendNull_278bc 63 = .ok (.iload_n 1, 1) := by decide +kernel
theorem dJ5_appendNull_278bc_64 : decode cJ5_appendNull_278bc 64 = .ok (.bipush 110, 2) := by decide +kernel
theorem dJ5_appendNull_278bc_66 : decode cJ5_appendNull_278bc 66 = .ok (.bipush 117, 2) := by decide +kernel
theorem dJ5_appendNull_278bc_68 : decode cJ5_appendNull_278bc 68 = .ok (.bipush 108, 2) := by decide +kernel
theorem dJ5_appendNull_278bc_70 : decode cJ5_appendNull_278bc 70 = .ok (.bipush 108, 2) := by decide +kernel
theorem dJ5_appendNull_278bc_72 : decode cJ5_appendNull_278bc 72 = .ok (.invokestatic 226, 3) := by decide +kernel
theorem dJ5_appendNull_278bc_75 : decode cJ5_appendNull_278bc 75 = .ok (.istore_n 1, 1) := by decide +kernel
theorem dJ5_appendNull_278bc_76 : decode cJ5_appendNull_278bc 76 = .ok (.aload_n 0, 1) := by decide +kernel
theorem dJ5_appendNull_278bc_77 : decode cJ5_appendNull_278bc 77 = .ok (.iload_n 1, 1) := by decide +kernel
theorem dJ5_appendNull_278bc_78 : decode cJ5_appendNull_278bc 78 = .ok (.putfield 79, 3) := by decide +kernel
theorem dJ5_appendNull_278bc_81 : decode cJ5_appendNull_278bc 81 = .ok (.aload_n 0, 1) := by decide +kernel
theorem dJ5_appendNull_278bc_82 : decode cJ5_appendNull_278bc 82 = .ok (.areturn, 1) := by decide +kernel
theorem dJ5_append_3fe6f_0 : decode cJ5_append_3fe6f 0 = .ok (.aload_n 0, 1) := by decide +kernel
theorem dJ5_append_3fe6f_1 : decode cJ5_append_3fe6f 1 = .ok (.aload_n 0, 1) := by decide +kernel
theorem dJ5_append_3fe6f_2 : decode cJ5_append_3fe6f 2 = .ok (.getfield 79, 3) := by decide +kernel
theorem dJ5_append_3fe6f_5 : decode cJ5_append_3fe6f 5 = .ok (.iconst 1, 1) := by decide +kernel
theorem dJ5_append_3fe6f_6 : decode cJ5_append_3fe6f 6 = .ok (.iadd, 1) := by decide +kernel
theorem dJ5_append_3fe6f_7 : decode cJ5_append_3fe6f 7 = .ok (.invokevirtual 100, 3) := by decide +kernel
theorem dJ5_append_3fe6f_10 : decode cJ5_append_3fe6f 10 = .ok (.aload_n 0, 1) := by decide +kernel
theorem dJ5_append_3fe6f_11 : decode cJ5_append_3fe6f 11 = .ok (.invokevirtual 83, 3) := by decide +kernel
theorem dJ5_append_3fe6f_14 : decode cJ5_append_3fe6f 14 = .ok (.ifCond .eq 31, 3) := by decide +kernel
theorem dJ5_append_3fe6f_17 : decode cJ5_append_3fe6f 17 = .ok (.iload_n 1, 1) := by decide +kernel
theorem dJ5_append_3fe6f_18 : decode cJ5_append_3fe6f 18 = .ok (.invokestatic 191, 3) := by decide +kernel
theorem dJ5_append_3fe6f_21 : decode cJ5_append_3fe6f 21 = .ok (.ifCond .eq 24, 3) := by decide +kernel
theorem dJ5_append_3fe6f_24 : decode cJ5_append_3fe6f 24 = .ok (.aload_n 0, 1) := by decide +kernel
theorem dJ5_append_3fe6f_25 : decode cJ5_append_3fe6f 25 = .ok (.getfield 15, 3) := by decide +kernel
theorem dJ5_append_3fe6f_28 : decode cJ5_append_3fe6f 28 = .ok (.aload_n 0, 1) := by decide +kernel
theorem dJ5_append_3fe6f_29 : decode cJ5_append_3fe6f 29 = .ok (.dup, 1) := by decide +kernel
theorem dJ5_append_3fe6f_30 : decode cJ5_append_3fe6f 30 = .ok (.getfield 79, 3) := by decide +kernel
theorem dJ5_append_3fe6f_33 : decode cJ5_append_3fe6f 33 = .ok (.dup_x1, 1) := by decide +kernel
theorem dJ5_append_3fe6f_34 : decode cJ5_append_3fe6f 34 = .ok (.iconst 1, 1) := by decide +kernel
theorem dJ5_append_3fe6f_35 : decode cJ5_append_3fe6f 35 = .ok (.iadd, 1) := by decide +kernel
theorem dJ5_append_3fe6f_36 : decode cJ5_append_3fe6f 36 = .ok (.putfield 79, 3) := by decide +kernel
theorem dJ5_append_3fe6f_39 : decode cJ5_append_3fe6f 39 = .ok (.iload_n 1, 1) := by decide +kernel
theorem dJ5_append_3fe6f_40 : decode cJ5_append_3fe6f 40 = .ok (.i2b, 1) := by decide +kernel
theorem dJ5_append_3fe6f_41 : decode cJ5_append_3fe6f 41 = .ok (.bastore, 1) := by decide +kernel
theorem dJ5_append_3fe6f_42 : decode cJ5_append_3fe6f 42 = .ok (.goto 33, 3) := by decide +kernel
theorem dJ5_append_3fe6f_45 : decode cJ5_append_3fe6f 45 = .ok (.aload_n 0, 1) := by decide +kernel
theorem dJ5_append_3fe6f_46 : decode cJ5_append_3fe6f 46 = .ok (.invokevirtual 83, 3) := by decide +kernel
theorem dJ5_append_3fe6f_49 : decode cJ5_append_3fe6f 49 = .ok (.ifCond .eq 7, 3) := by decide +kernel
theorem dJ5_append_3fe6f_52 : decode cJ5_append_3fe6f 52 = .ok (.aload_n 0, 1) := by decide +kernel
theorem dJ5_append_3fe6f_53 : decode cJ5_append_3fe6f 53 = .ok (.invokevirtual 195, 3) := by decide +kernel
theorem dJ5_append_3fe6f_56 : decode cJ5_append_3fe6f 56 = .ok (.aload_n 0, 1) := by decide +kernel
theorem dJ5_append_3fe6f_57 : decode cJ5_append_3fe6f 57 = .ok (.getfield 15, 3) := by decide +kernel
theorem dJ5_append_3fe6f_60 : decode cJ5_append_3fe6f 60 = .ok (.aload_n 0, 1) := by decide +kernel
theorem dJ5_append_3fe6f_61 : decode cJ5_append_3fe6f 61 = .ok (.dup, 1) := by decide +kernel
theorem dJ5_append_3fe6f_62 : decode cJ5_append_3fe6f 62 = .ok (.getfield 79, 3) := by decide +kernel
theorem dJ5_append_3fe6f_65 : decode cJ5_append_3fe6f 65 = .ok (.dup_x1, 1) := by decide +kernel
theorem dJ5_append_3fe6f_66 : decode cJ5_append_3fe6f 66 = .ok (.iconst 1, 1) := by decide +kernel
theorem dJ5_append_3fe6f_67 : decode cJ5_append_3fe6f 67 = .ok (.iadd, 1) := by decide +kernel
theorem dJ5_append_3fe6f_68 : decode cJ5_append_3fe6f 68 = .ok (.putfield 79, 3) := by decide +kernel
theorem dJ5_append_3fe6f_71 : decode cJ5_append_3fe6f 71 = .ok (.iload_n 1, 1) := by decide +kernel
theorem dJ5_append_3fe6f_72 : decode cJ5_append_3fe6f 72 = .ok (.invokestatic 197, 3) := by decide +kernel
theorem dJ5_append_3fe6f_75 : decode cJ5_append_3fe6f 75 = .ok (.aload_n 0, 1) := by decide +kernel
theorem dJ5_append_3fe6f_76 : decode cJ5_append_3fe6f 76 = .ok (.areturn, 1) := by decide +kernel
theorem dJ5_append_c97b9_0 : decode cJ5_append_c97b9 0 = .ok (.aload_n 0, 1) := by decide +kernel
theorem dJ5_append_c97b9_1 : decode cJ5_append_c97b9 1 = .ok (.getfield 79, 3) := by decide +kernel
theorem dJ5_append_c97b9_4 : decode cJ5_append_c97b9 4 = .ok (.istore_n 2, 1) := by decide +kernel
theorem dJ5_append_c97b9_5 : decode cJ5_append_c97b9 5 = .ok (.iload_n 2, 1) := by decide +kernel
theorem dJ5_append_c97b9_6 : decode cJ5_append_c97b9 6 = .ok (.iload_n 1, 1) := by decide +kernel
theorem dJ5_append_c97b9_7 : decode cJ5_append_c97b9 7 = .ok (.invokestatic 245, 3) := by decide +kernel
theorem dJ5_append_c97b9_10 : decode cJ5_append_c97b9 10 = .ok (.iadd, 1) := by decide +kernel
theorem dJ5_append_c97b9_11 : decode cJ5_append_c97b9 11 = .ok (.istore_n 3, 1) := by decide +kernel
theorem dJ5_append_c97b9_12 : decode cJ5_append_c97b9 12 = .ok (.aload_n 0, 1) := by decide +kernel
theorem dJ5_append_c97b9_13 : decode cJ5_append_c97b9 13 = .ok (.iload_n 3, 1) := by decide +kernel
theorem dJ5_append_c97b9_14 : decode cJ5_append_c97b9 14 = .ok (.invokevirtual 100, 3) := by decide +kernel
theorem dJ5_append_c97b9_17 : decode cJ5_append_c97b9 17 = .ok (.aload_n 0, 1) := by decide +kernel
theorem dJ5_append_c97b9_18 : decode cJ5_append_c97b9 18 = .ok (.invokevirtual 83, 3) := by decide +kernel
theorem dJ5_append_c97b9_21 : decode cJ5_append_c97b9 21 = .ok (.ifCond .eq 16, 3) := by decide +kernel
theorem dJ5_append_c97b9_24 : decode cJ5_append_c97b9 24 = .ok (.iload_n 1, 1) := by decide +kernel
theorem dJ5_append_c97b9_25 : decode cJ5_append_c97b9 25 = .ok (.iload_n 3, 1) := by decide +kernel
theorem dJ5_append_c97b9_26 : decode cJ5_append_c97b9 26 = .ok (.aload_n 0, 1) := by decide +kernel
theorem dJ5_append_c97b9_27 : decode cJ5_append_c97b9 27 = .ok (.getfield 15, 3) := by decide +kernel
theorem dJ5_append_c97b9_30 : decode cJ5_append_c97b9 30 = .ok (.invokestatic 248, 3) := by decide +kernel
theorem dJ5_append_c97b9_33 : decode cJ5_append_c97b9 33 = .ok (.pop, 1) := by decide +kernel
theorem dJ5_append_c97b9_34 : decode cJ5_append_c97b9 34 = .ok (.goto 14, 3) := by decide +kernel
theorem dJ5_append_c97b9_37 : decode cJ5_append_c97b9 37 = .ok (.iload_n 1, 1) := by decide +kernel
theorem dJ5_append_c97b9_38 : decode cJ5_append_c97b9 38 = .ok (.iload_n 2, 1) := by decide +kernel
theorem dJ5_append_c97b9_39 : decode cJ5_append_c97b9 39 = .ok (.iload_n 3, 1) := by decide +kernel
theorem dJ5_append_c97b9_40 : decode cJ5_append_c97b9 40 = .ok (.aload_n 0, 1) := by decide +kernel
theorem dJ5_append_c97b9_41 : decode cJ5_append_c97b9 41 = .ok (.getfield 15, 3) := by decide +kernel
theorem dJ5_append_c97b9_44 : decode cJ5_append_c97b9 44 = .ok (.invokestatic 251, 3) := by decide +kernel
theorem dJ5_append_c97b9_47 : decode cJ5_append_c97b9 47 = .ok (.pop, 1) := by decide +kernel
theorem dJ5_append_c97b9_48 : decode cJ5_append_c97b9 48 = .ok (.aload_n 0, 1) := by decide +kernel
theorem dJ5_append_c97b9_49 : decode cJ5_append_c97b9 49 = .ok (.iload_n 3, 1) := by decide +kernel
theorem dJ5_append_c97b9_50 : decode cJ5_append_c97b9 50 = .ok (.putfield 79, 3) := by decide +kernel
theorem dJ5_append_c97b9_53 : decode cJ5_append_c97b9 53 = .ok (.aload_n 0, 1) := by decide +kernel
theorem dJ5_append_c97b9_54 : decode cJ5_append_c97b9 54 = .ok (.areturn, 1) := by decide +kernel
theorem dJ5_getValue_6d5f1_0 : decode cJ5_getValue_6d5f1 0 = .ok (.aload_n 0, 1) := by decide +kernel
theorem dJ5_getValue_6d5f1_1 : decode cJ5_getValue_6d5f1 1 = .ok (.getfield 15, 3) := by decide +kernel
theorem dJ5_getValue_6d5f1_4 : decode cJ5_getValue_6d5f1 4 = .ok (.areturn, 1) := by decide +kernel
theorem dJ5_isLatin1_aae02_0 : decode cJ5_isLatin1_aae02 0 = .ok (.getstatic 18, 3) := by decide +kernel
theorem dJ5_isLatin1_aae02_3 : decode cJ5_isLatin1_aae02 3 = .ok (.ifCond .eq 14, 3) := by decide +kernel
theorem dJ5_isLatin1_aae02_6 : decode cJ5_isLatin1_aae02 6 = .ok (.aload_n 0, 1) := by decide +kernel
theorem dJ5_isLatin1_aae02_7 : decode cJ5_isLatin1_aae02 7 = .ok (.getfield 22, 3) := by decide +kernel
theorem dJ5_isLatin1_aae02_10 : decode cJ5_isLatin1_aae02 10 = .ok (.ifCond .ne 7, 3) := by decide +kernel
theorem dJ5_isLatin1_aae02_13 : decode cJ5_isLatin1_aae02 13 = .ok (.iconst 1, 1) := by decide +kernel
theorem dJ5_isLatin1_aae02_14 : decode cJ5_isLatin1_aae02 14 = .ok (.goto 4, 3) := by decide +kernel
theorem dJ5_isLatin1_aae02_17 : decode cJ5_isLatin1_aae02 17 = .ok (.iconst 0, 1) := by decide +kernel
theorem dJ5_isLatin1_aae02_18 : decode cJ5_isLatin1_aae02 18 = .ok (.ireturn, 1) := by decide +kernel
theorem dJ5_inflateIfNeededFor_a7421_0 : decode cJ5_inflateIfNeededFor_a7421 0 = .ok (.getstatic 18, 3) := by decide +kernel
theorem dJ5_inflateIfNeededFor_a7421_3 : decode cJ5_inflateIfNeededFor_a7421 3 = .ok (.ifCond .eq 18, 3) := by decide +kernel
theorem dJ5_inflateIfNeededFor_a7421_6 : decode cJ5_inflateIfNeededFor_a7421 6 = .ok (.aload_n 0, 1) := by decide +kernel
theorem dJ5_inflateIfNeededFor_a7421_7 : decode cJ5_inflateIfNeededFor_a7421 7 = .ok (.getfield 22, 3) := by decide +kernel
theorem dJ5_inflateIfNeededFor_a7421_10 : decode cJ5_inflateIfNeededFor_a7421 10 = .ok (.aload_n 1, 1) := by decide +kernel
theorem dJ5_inflateIfNeededFor_a7421_11 : decode cJ5_inflateIfNeededFor_a7421 11 = .ok (.invokevirtual 40, 3) := by decide +kernel
theorem dJ5_inflateIfNeededFor_a7421_14 : decode cJ5_inflateIfNeededFor_a7421 14 = .ok (.if_icmp .eq 7, 3) := by decide +kernel
theorem dJ5_inflateIfNeededFor_a7421_17 : decode cJ5_inflateIfNeededFor_a7421 17 = .ok (.aload_n 0, 1) := by decide +kernel
theorem dJ5_inflateIfNeededFor_a7421_18 : decode cJ5_inflateIfNeededFor_a7421 18 = .ok (.invokevirtual 195, 3) := by decide +kernel
theorem dJ5_inflateIfNeededFor_a7421_21 : decode cJ5_inflateIfNeededFor_a7421 21 = .ok (.return_, 1) := by decide +kernel
theorem dJ5_putStringAt_47b60_0 : decode cJ5_putStringAt_47b60 0 = .ok (.aload_n 0, 1) := by decide +kernel
theorem dJ5_putStringAt_47b60_1 : decode cJ5_putStringAt_47b60 1 = .ok (.aload_n 2, 1) := by decide +kernel
theorem dJ5_putStringAt_47b60_2 : decode cJ5_putStringAt_47b60 2 = .ok (.invokevirtual 397, 3) := by decide +kernel
theorem dJ5_putStringAt_47b60_5 : decode cJ5_putStringAt_47b60 5 = .ok (.aload_n 2, 1) := by decide +kernel
theorem dJ5_putStringAt_47b60_6 : decode cJ5_putStringAt_47b60 6 = .ok (.aload_n 0, 1) := by decide +kernel
theorem dJ5_putStringAt_47b60_7 : decode cJ5_putStringAt_47b60 7 = .ok (.getfield 15, 3) := by decide +kernel
theorem dJ5_putStringAt_47b60_10 : decode cJ5_putStringAt_47b60 10 = .ok (.iload_n 1, 1) := by decide +kernel
theorem dJ5_putStringAt_47b60_11 : decode cJ5_putStringAt_47b60 11 = .ok (.aload_n 0, 1) := by decide +kernel
theorem dJ5_putStringAt_47b60_12 : decode cJ5_putStringAt_47b60 12 = .ok (.getfield 22, 3) := by decide +kernel
theorem dJ5_putStringAt_47b60_15 : decode cJ5_putStringAt_47b60 15 = .ok (.invokevirtual 399, 3) := by decide +kernel
theorem dJ5_putStringAt_47b60_18 : decode cJ5_putStringAt_47b60 18 = .ok (.return_, 1) := by decide +kernel
theorem dJ11_isValidCodePoint_9a6ad_0 : decode cJ11_isValidCodePoint_9a6ad 0 = .ok (.iload_n 0, 1) := by decide +kernel
theorem dJ11_isValidCodePoint_9a6ad_1 : decode cJ11_isValidCodePoint_9a6ad 1 = .ok (.bipush 16, 2) := by decide +kernel
theorem dJ11_isValidCodePoint_9a6ad_3 : decode cJ11_isValidCodePoint_9a6ad 3 = .ok (.iushr, 1) := by decide +kernel
theorem dJ11_isValidCodePoint_9a6ad_4 : decode cJ11_isValidCodePoint_9a6ad 4 = .ok (.istore_n 1, 1) := by decide +kernel
theorem dJ11_isValidCodePoint_9a6ad_5 : decode cJ11_isValidCodePoint_9a6ad 5 = .ok (.iload_n 1, 1) := by decide +kernel
theorem dJ11_isValidCodePoint_9a6ad_6 : decode cJ11_isValidCodePoint_9a6ad 6 = .ok (.bipush 17, 2) := by decide +kernel
theorem dJ11_isValidCodePoint_9a6ad_8 : decode cJ11_isValidCodePoint_9a6ad 8 = .ok (.if_icmp .ge 7, 3) := by decide +kernel
theorem dJ11_isValidCodePoint_9a6ad_11 : decode cJ11_isValidCodePoint_9a6ad 11 = .ok (.iconst 1, 1) := by decide +kernel
theorem dJ11_isValidCodePoint_9a6ad_12 : decode cJ11_isValidCodePoint_9a6ad 12 = .ok (.goto 4, 3) := by decide +kernel
theorem dJ11_isValidCodePoint_9a6ad_15 : decode cJ11_isValidCodePoint_9a6ad 15 = .ok (.iconst 0, 1) := by decide +kernel
theorem dJ11_isValidCodePoint_9a6ad_16 : decode cJ11_isValidCodePoint_9a6ad 16 = .ok (.ireturn, 1) := by decide +kernel
theorem dJ11_highSurrogate_5068e_0 : decode cJ11_highSurrogate_5068e 0 = .ok (.iload_n 0, 1) := by decide +kernel
theorem dJ11_highSurrogate_5068e_1 : decode cJ11_highSurrogate_5068e 1 = .ok (.bipush 10, 2) := by decide +kernel
theorem dJ11_highSurrogate_5068e_3 : decode cJ11_highSurrogate_5068e 3 = .ok (.iushr, 1) := by decide +kernel
theorem dJ11_highSurrogate_5068e_4 : decode cJ11_highSurrogate_5068e 4 = .ok (.ldc 110, 2) := by decide +kernel
theorem dJ11_highSurrogate_5068e_6 : decode cJ11_highSurrogate_5068e 6 = .ok (.iadd, 1) := by decide +kernel
theorem dJ11_highSurrogate_5068e_7 : decode cJ11_highSurrogate_5068e 7 = .ok (.i2c, 1) := by decide +kernel
theorem dJ11_highSurrogate_5068e_8 : decode cJ11_highSurrogate_5068e 8 = .ok (.ireturn, 1) := by decide +kernel
theorem dJ11_lowSurrogate_5068e_0 : decode cJ11_lowSurrogate_5068e 0 = .ok (.iload_n 0, 1) := by decide +kernel
theorem dJ11_lowSurrogate_5068e_1 : decode cJ11_lowSurrogate_5068e 1 = .ok (.sipush 1023, 3) := by decide +kernel
theorem dJ11_lowSurrogate_5068e_4 : decode cJ11_lowSurrogate_5068e 4 = .ok (.iand, 1) := by decide +kernel
theorem dJ11_lowSurrogate_5068e_5 : decode cJ11_lowSurrogate_5068e 5 = .ok (.ldc 76, 2) := by decide +kernel
theorem dJ11_lowSurrogate_5068e_7 : decode cJ11_lowSurrogate_5068e 7 = .ok (.iadd, 1) := by decide +kernel
theorem dJ11_lowSurrogate_5068e_8 : decode cJ11_lowSurrogate_5068e 8 = .ok (.i2c, 1) := by decide +kernel
theorem dJ11_lowSurrogate_5068e_9 : decode cJ11_lowSurrogate_5068e 9 = .ok (.ireturn, 1) := by decide +kernel
theorem dJ6_getChars_ba4f3_0 : decode cJ6_getChars_ba4f3 0 = .ok (.iload_n 1, 1) := by decide +kernel
theorem dJ6_getChars_ba4f3_1 : decode cJ6_getChars_ba4f3 1 = .ok (.istore 5, 2) := by decide +kernel
theorem dJ6_getChars_ba4f3_3 : decode cJ6_getChars_ba4f3 3 = .ok (.iload_n 0, 1) := by decide +kernel
theorem dJ6_getChars_ba4f3_4 : decode cJ6_getChars_ba4f3 4 = .ok (.ifCond .ge 7, 3) := by decide +kernel
theorem dJ6_getChars_ba4f3_7 : decode cJ6_getChars_ba4f3 7 = .ok (.iconst 1, 1) := by decide +kernel
theorem dJ6_getChars_ba4f3_8 : decode cJ6_getChars_ba4f3 8 = .ok (.goto 4, 3) := by decide +kernel
theorem dJ6_getChars_ba4f3_11 : decode cJ6_getChars_ba4f3 11 = .ok (.iconst 0, 1) := by decide +kernel
theorem dJ6_getChars_ba4f3_12 : decode cJ6_getChars_ba4f3 12 = .ok (.istore 6, 2) := by decide +kernel
theorem dJ6_getChars_ba4f3_14 : decode cJ6_getChars_ba4f3 14 = .ok (.iload 6, 2) := by decide +kernel
theorem dJ6_getChars_ba4f3_16 : decode cJ6_getChars_ba4f3 16 = .ok (.ifCond .ne 6, 3) := by decide +kernel
theorem dJ6_getChars_ba4f3_19 : decode cJ6_getChars_ba4f3 19 = .ok (.iload_n 0, 1) := by decide +kernel
theorem dJ6_getChars_ba4f3_20 : decode cJ6_getChars_ba4f3 20 = .ok (.ineg, 1) := by decide +kernel
theorem dJ6_getChars_ba4f3_21 : decode cJ6_getChars_ba4f3 21 = .ok (.istore_n 0, 1) := by decide +kernel
theorem dJ6_getChars_ba4f3_22 : decode cJ6_getChars_ba4f3 22 = .ok (.iload_n 0, 1) := by decide +kernel
theorem dJ6_getChars_ba4f3_23 : decode cJ6_getChars_ba4f3 23 = .ok (.bipush (-100), 2) := by decide +kernel
theorem dJ6_getChars_ba4f3_25 : decode cJ6_getChars_ba4f3 25 = .ok (.if_icmp .gt 47, 3) := by decide +kernel
theorem dJ6_getChars_ba4f3_28 : decode cJ6_getChars_ba4f3 28 = .ok (.iload_n 0, 1) := by decide +kernel
theorem dJ6_getChars_ba4f3_29 : decode cJ6_getChars_ba4f3 29 = .ok (.bipush 100, 2) := by decide +kernel
theorem dJ6_getChars_ba4f3_31 : decode cJ6_getChars_ba4f3 31 = .ok (.idiv, 1) := by decide +kernel
theorem dJ6_getChars_ba4f3_32 : decode cJ6_getChars_ba4f3 32 = .ok (.istore_n 3, 1) := by decide +kernel
theorem dJ6_getChars_ba4f3_33 : decode cJ6_getChars_ba4f3 33 = .ok (.iload_n 3, 1) := by decide +kernel
theorem dJ6_getChars_ba4f3_34 : decode cJ6_getChars_ba4f3 34 = .ok (.bipush 100, 2) := by decide +kernel
theorem dJ6_getChars_ba4f3_36 : decode cJ6_getChars_ba4f3 36 = .ok (.imul, 1) := by decide +kernel
theorem dJ6_getChars_ba4f3_37 : decode cJ6_getChars_ba4f3 37 = .ok (.iload_n 0, 1) := by decide +kernel
theorem dJ6_getChars_ba4f3_38 : decode cJ6_getChars_ba4f3 38 = .ok (.isub, 1) := by decide +kernel
theorem dJ6_getChars_ba4f3_39 : decode cJ6_getChars_ba4f3 39 = .ok (.istore 4, 2) := by decide +kernel
theorem dJ6_getChars_ba4f3_41 : decode cJ6_getChars_ba4f3 41 = .ok (.iload_n 3, 1) := by decide +kernel
theorem dJ6_getChars_ba4f3_42 : decode cJ6_getChars_ba4f3 42 = .ok (.istore_n 0, 1) := by decide +kernel
theorem dJ6_getChars_ba4f3_43 : decode cJ6_getChars_ba4f3 43 = .ok (.aload_n 2, 1) := by decide +kernel
theorem dJ6_getChars_ba4f3_44 : decode cJ6_getChars_ba4f3 44 = .ok (.iinc 5 (-1), 3) := by decide +kernel
theorem dJ6_getChars_ba4f3_47 : decode cJ6_getChars_ba4f3 47 = .ok (.iload 5, 2) := by decide +kernel
theorem dJ6_getChars_ba4f3_49 : decode cJ6_getChars_ba4f3 49 = .ok (.getstatic 83, 3) := by decide +kernel
theorem dJ6_getChars_ba4f3_52 : decode cJ6_getChars_ba4f3 52 = .ok (.iload 4, 2) := by decide +kernel
theorem dJ6_getChars_ba4f3_54 : decode cJ6_getChars_ba4f3 54 = .ok (.baload, 1) := by decide +kernel
theorem dJ6_getChars_ba4f3_55 : decode cJ6_getChars_ba4f3 55 = .ok (.bastore, 1) := by decide +kernel
theorem dJ6_getChars_ba4f3_56 : decode cJ6_getChars_ba4f3 56 = .ok (.aload_n 2, 1) := by decide +kernel
theorem dJ6_getChars_ba4f3_57 : decode cJ6_getChars_ba4f3 57 = .ok (.iinc 5 (-1), 3) := by decide +kernel
theorem dJ6_getChars_ba4f3_60 : decode cJ6_getChars_ba4f3 60 = .ok (.iload 5, 2) := by decide +kernel
theorem dJ6_getChars_ba4f3_62 : decode cJ6_getChars_ba4f3 62 = .ok (.getstatic 87, 3) := by decide +kernel
theorem dJ6_getChars_ba4f3_65 : decode cJ6_getChars_ba4f3 65 = .ok (.iload 4, 2) := by decide +kernel
theorem dJ6_getChars_ba4f3_67 : decode cJ6_getChars_ba4f3 67 = .ok (.baload, 1) := by decide +kernel
theorem dJ6_getChars_ba4f3_68 : decode cJ6_getChars_ba4f3 68 = .ok (.bastore, 1) := by decide +kernel
theorem dJ6_getChars_ba4f3_69 : decode cJ6_getChars_ba4f3 69 = .ok (.goto (-47), 3) := by decide +kernel
theorem dJ6_getChars_ba4f3_72 : decode cJ6_getChars_ba4f3 72 = .ok (.aload_n 2, 1) := by decide +kernel
theorem dJ6_getChars_ba4f3_73 : decode cJ6_getChars_ba4f3 73 = .ok (.iinc 5 (-1), 3) := by decide +kernel
theorem dJ6_getChars_ba4f3_76 : decode cJ6_getChars_ba4f3 76 = .ok (.iload 5, 2) := by decide +kernel
theorem dJ6_getChars_ba4f3_78 : decode cJ6_getChars_ba4f3 78 = .ok (.getstatic 83, 3) := by decide +kernel
theorem dJ6_getChars_ba4f3_81 : decode cJ6_getChars_ba4f3 81 = .ok (.iload_n 0, 1) := by decide +kernel
theorem dJ6_getChars_ba4f3_82 : decode cJ6_getChars_ba4f3 82 = .ok (.ineg, 1) := by decide +kernel
theorem dJ6_getChars_ba4f3_83 : decode cJ6_getChars_ba4f3 83 = .ok (.baload, 1) := by decide +kernel
theorem dJ6_getChars_ba4f3_84 : decode cJ6_getChars_ba4f3 84 = .ok (.bastore, 1) := by decide +kernel
theorem dJ6_getChars_ba4f3_85 : decode cJ6_getChars_ba4f3 85 = .ok (.iload_n 0, 1) := by decide +kernel
theorem dJ6_getChars_ba4f3_86 : decode cJ6_getChars_ba4f3 86 = .ok (.bipush (-9), 2) := by decide +kernel
theorem dJ6_getChars_ba4f3_88 : decode cJ6_getChars_ba4f3 88 = .ok (.if_icmp .ge 16, 3) := by decide +kernel
theorem dJ6_getChars_ba4f3_91 : decode cJ6_getChars_ba4f3 91 = .ok (.aload_n 2, 1) := by decide +kernel
theorem dJ6_getChars_ba4f3_92 : decode cJ6_getChars_ba4f3 92 = .ok (.iinc 5 (-1), 3) := by decide +kernel
theorem dJ6_getChars_ba4f3_95 : decode cJ6_getChars_ba4f3 95 = .ok (.iload 5, 2) := by decide +kernel
theorem dJ6_getChars_ba4f3_97 : decode cJ6_getChars_ba4f3 97 = .ok (.getstatic 87, 3) := by decide +kernel
theorem dJ6_getChars_ba4f3_100 : decode cJ6_getChars_ba4f3 100 = .ok (.iload_n 0, 1) := by decide +kernel
theorem dJ6_getChars_ba4f3_101 : decode cJ6_getChars_ba4f3 101 = .ok (.ineg, 1) := by decide +kernel
theorem dJ6_getChars_ba4f3_102 : decode cJ6_getChars_ba4f3 102 = .ok (.baload, 1) := by decide +kernel
theorem dJ6_getChars_ba4f3_103 : decode cJ6_getChars_ba4f3 103 = .ok (.bastore, 1) := by decide +kernel
theorem dJ6_getChars_ba4f3_104 : decode cJ6_getChars_ba4f3 104 = .ok (.iload 6, 2) := by decide +kernel
theorem dJ6_getChars_ba4f3_106 : decode cJ6_getChars_ba4f3 106 = .ok (.ifCond .eq 12, 3) := by decide +kernel
theorem dJ6_getChars_ba4f3_109 : decode cJ6_getChars_ba4f3 109 = .ok (.aload_n 2, 1) := by decide +kernel
theorem dJ6_getChars_ba4f3_110 : decode cJ6_getChars_ba4f3 110 = .ok (.iinc 5 (-1), 3) := by decide +kernel
theorem dJ6_getChars_ba4f3_113 : decode cJ6_getChars_ba4f3 113 = .ok (.iload 5, 2) := by decide +kernel
theorem dJ6_getChars_ba4f3_115 : decode cJ6_getChars_ba4f3 115 = .ok (.bipush 45, 2) := by decide +kernel
theorem dJ6_getChars_ba4f3_117 : decode cJ6_getChars_ba4f3 117 = .ok (.bastore, 1) := by decide +kernel
theorem dJ6_getChars_ba4f3_118 : decode cJ6_getChars_ba4f3 118 = .ok (.iload 5, 2) := by decide +kernel
theorem dJ6_getChars_ba4f3_120 : decode cJ6_getChars_ba4f3 120 = .ok (.ireturn, 1) := by decide +kernel
theorem dJ6_stringSize_0f7a4_0 : decode cJ6_stringSize_0f7a4 0 = .ok (.iconst 1, 1) := by decide +kernel
theorem dJ6_stringSize_0f7a4_1 : decode cJ6_stringSize_0f7a4 1 = .ok (.istore_n 1, 1) := by decide +kernel
theorem dJ6_stringSize_0f7a4_2 : decode cJ6_stringSize_0f7a4 2 = .ok (.iload_n 0, 1) := by decide +kernel
theorem dJ6_stringSize_0f7a4_3 : decode cJ6_stringSize_0f7a4 3 = .ok (.ifCond .lt 8, 3) := by decide +kernel
theorem dJ6_stringSize_0f7a4_6 : decode cJ6_stringSize_0f7a4 6 = .ok (.iconst 0, 1) := by decide +kernel
theorem dJ6_stringSize_0f7a4_7 : decode cJ6_stringSize_0f7a4 7 = .ok (.istore_n 1, 1) := by decide +kernel
theorem dJ6_stringSize_0f7a4_8 : decode cJ6_stringSize_0f7a4 8 = .ok (.iload_n 0, 1) := by decide +kernel
theorem dJ6_stringSize_0f7a4_9 : decode cJ6_stringSize_0f7a4 9 = .ok (.ineg, 1) := by decide +kernel
theorem dJ6_stringSize_0f7a4_10 : decode cJ6_stringSize_0f7a4 10 = .ok (.istore_n 0, 1) := by decide +kernel
theorem dJ6_stringSize_0f7a4_11 : decode cJ6_stringSize_0f7a4 11 = .ok (.bipush (-10), 2) := by decide +kernel
theorem dJ6_stringSize_0f7a4_13 : decode cJ6_stringSize_0f7a4 13 = .ok (.istore_n 2, 1) := by decide +kernel
theorem dJ6_stringSize_0f7a4_14 : decode cJ6_stringSize_0f7a4 14 = .ok (.iconst 1, 1) := by decide +kernel
theorem dJ6_stringSize_0f7a4_15 : decode cJ6_stringSize_0f7a4 15 = .ok (.istore_n 3, 1) := by decide +kernel
theorem dJ6_stringSize_0f7a4_16 : decode cJ6_stringSize_0f7a4 16 = .ok (.iload_n 3, 1) := by decide +kernel
theorem dJ6_stringSize_0f7a4_17 : decode cJ6_stringSize_0f7a4 17 = .ok (.bipush 10, 2) := by decide +kernel
theorem dJ6_stringSize_0f7a4_19 : decode cJ6_stringSize_0f7a4 19 = .ok (.if_icmp .ge 23, 3) := by decide +kernel
theorem dJ6_stringSize_0f7a4_22 : decode cJ6_stringSize_0f7a4 22 = .ok (.iload_n 0, 1) := by decide +kernel
theorem dJ6_stringSize_0f7a4_23 : decode cJ6_stringSize_0f7a4 23 = .ok (.iload_n 2, 1) := by decide +kernel
theorem dJ6_stringSize_0f7a4_24 : decode cJ6_stringSize_0f7a4 24 = .ok (.if_icmp .le 7, 3) := by decide +kernel
theorem dJ6_stringSize_0f7a4_27 : decode cJ6_stringSize_0f7a4 27 = .ok (.iload_n 3, 1) := by decide +kernel
theorem dJ6_stringSize_0f7a4_28 : decode cJ6_stringSize_0f7a4 28 = .ok (.iload_n 1, 1) := by decide +kernel
theorem dJ6_stringSize_0f7a4_29 : decode cJ6_stringSize_0f7a4 29 = .ok (.iadd, 1) := by decide +kernel
theorem dJ6_stringSize_0f7a4_30 : decode cJ6_stringSize_0f7a4 30 = .ok (.ireturn, 1) := by decide +kernel
theorem dJ6_stringSize_0f7a4_31 : decode cJ6_stringSize_0f7a4 31 = .ok (.bipush 10, 2) := by decide +kernel
theorem dJ6_stringSize_0f7a4_33 : decode cJ6_stringSize_0f7a4 33 = .ok (.iload_n 2, 1) := by decide +kernel
theorem dJ6_stringSize_0f7a4_34 : decode cJ6_stringSize_0f7a4 34 = .ok (.imul, 1) := by decide +kernel
theorem dJ6_stringSize_0f7a4_35 : decode cJ6_stringSize_0f7a4 35 = .ok (.istore_n 2, 1) := by decide +kernel
theorem dJ6_stringSize_0f7a4_36 : decode cJ6_stringSize_0f7a4 36 = .ok (.iinc 3 1, 3) := by decide +kernel
theorem dJ6_stringSize_0f7a4_39 : decode cJ6_stringSize_0f7a4 39 = .ok (.goto (-23), 3) := by decide +kernel
theorem dJ6_stringSize_0f7a4_42 : decode cJ6_stringSize_0f7a4 42 = .ok (.bipush 10, 2) := by decide +kernel
theorem dJ6_stringSize_0f7a4_44 : decode cJ6_stringSize_0f7a4 44 = .ok (.iload_n 1, 1) := by decide +kernel
theorem dJ6_stringSize_0f7a4_45 : decode cJ6_stringSize_0f7a4 45 = .ok (.iadd, 1) := by decide +kernel
theorem dJ6_stringSize_0f7a4_46 : decode cJ6_stringSize_0f7a4 46 = .ok (.ireturn, 1) := by decide +kernel
theorem dJ9_max_7cf53_0 : decode cJ9_max_7cf53 0 = .ok (.iload_n 0, 1) := by decide +kernel
theorem dJ9_max_7cf53_1 : decode cJ9_max_7cf53 1 = .ok (.iload_n 1, 1) := by decide +kernel
theorem dJ9_max_7cf53_2 : decode cJ9_max_7cf53 2 = .ok (.if_icmp .lt 7, 3) := by decide +kernel
theorem dJ9_max_7cf53_5 : decode cJ9_max_7cf53 5 = .ok (.iload_n 0, 1) := by decide +kernel
theorem dJ9_max_7cf53_6 : decode cJ9_max_7cf53 6 = .ok (.goto 4, 3) := by decide +kernel
theorem dJ9_max_7cf53_9 : decode cJ9_max_7cf53 9 = .ok (.iload_n 1, 1) := by decide +kernel
theorem dJ9_max_7cf53_10 : decode cJ9_max_7cf53 10 = .ok (.ireturn, 1) := by decide +kernel
theorem dJ9_min_7cf53_0 : decode cJ9_min_7cf53 0 = .ok (.iload_n 0, 1) := by decide +kernel
theorem dJ9_min_7cf53_1 : decode cJ9_min_7cf53 1 = .ok (.iload_n 1, 1) := by decide +kernel
theorem dJ9_min_7cf53_2 : decode cJ9_min_7cf53 2 = .ok (.if_icmp .gt 7, 3) := by decide +kernel
theorem dJ9_min_7cf53_5 : decode cJ9_min_7cf53 5 = .ok (.iload_n 0, 1) := by decide +kernel
theorem dJ9_min_7cf53_6 : decode cJ9_min_7cf53 6 = .ok (.goto 4, 3) := by decide +kernel
theorem dJ9_min_7cf53_9 : decode cJ9_min_7cf53 9 = .ok (.iload_n 1, 1) := by decide +kernel
theorem dJ9_min_7cf53_10 : decode cJ9_min_7cf53 10 = .ok (.ireturn, 1) := by decide +kernel
theorem dJ0_init_81219_0 : decode cJ0_init_81219 0 = .ok (.aload_n 0, 1) := by decide +kernel
theorem dJ0_init_81219_1 : decode cJ0_init_81219 1 = .ok (.aload_n 1, 1) := by decide +kernel
theorem dJ0_init_81219_2 : decode cJ0_init_81219 2 = .ok (.aconst_null, 1) := by decide +kernel
theorem dJ0_init_81219_3 : decode cJ0_init_81219 3 = .ok (.invokespecial 489, 3) := by decide +kernel
theorem dJ0_init_81219_6 : decode cJ0_init_81219 6 = .ok (.return_, 1) := by decide +kernel
theorem dJ0_length_8abf5_0 : decode cJ0_length_8abf5 0 = .ok (.aload_n 0, 1) := by decide +kernel
theorem dJ0_length_8abf5_1 : decode cJ0_length_8abf5 1 = .ok (.getfield 9, 3) := by decide +kernel
theorem dJ0_length_8abf5_4 : decode cJ0_length_8abf5 4 = .ok (.arraylength, 1) := by decide +kernel
theorem dJ0_length_8abf5_5 : decode cJ0_length_8abf5 5 = .ok (.aload_n 0, 1) := by decide +kernel
theorem dJ0_length_8abf5_6 : decode cJ0_length_8abf5 6 = .ok (.invokevirtual 335, 3) := by decide +kernel
theorem dJ0_length_8abf5_9 : decode cJ0_length_8abf5 9 = .ok (.ishr, 1) := by decide +kernel
theorem dJ0_length_8abf5_10 : decode cJ0_length_8abf5 10 = .ok (.ireturn, 1) := by decide +kernel
theorem dJ0_isEmpty_aae02_0 : decode cJ0_isEmpty_aae02 0 = .ok (.aload_n 0, 1) := by decide +kernel
theorem dJ0_isEmpty_aae02_1 : decode cJ0_isEmpty_aae02 1 = .ok (.getfield 9, 3) := by decide +kernel
theorem dJ0_isEmpty_aae02_4 : decode cJ0_isEmpty_aae02 4 = .ok (.arraylength, 1) := by decide +kernel
theorem dJ0_isEmpty_aae02_5 : decode cJ0_isEmpty_aae02 5 = .ok (.ifCond .ne 7, 3) := by decide +kernel
theorem dJ0_isEmpty_aae02_8 : decode cJ0_isEmpty_aae02 8 = .ok (.iconst 1, 1) := by decide +kernel
theorem dJ0_isEmpty_aae02_9 : decode cJ0_isEmpty_aae02 9 = .ok (.goto 4, 3) := by decide +kernel
theorem dJ0_isEmpty_aae02_12 : decode cJ0_isEmpty_aae02 12 = .ok (.iconst 0, 1) := by decide +kernel
theorem dJ0_isEmpty_aae02_13 : decode cJ0_isEmpty_aae02 13 = .ok (.ireturn, 1) := by decide +kernel
theorem dJ0_charAt_5068e_0 : decode cJ0_charAt_5068e 0 = .ok (.aload_n 0, 1) := by decide +kernel
theorem dJ0_charAt_5068e_1 : decode cJ0_charAt_5068e 1 = .ok (.invokevirtual 492, 3) := by decide +kernel
theorem dJ0_charAt_5068e_4 : decode cJ0_charAt_5068e 4 = .ok (.ifCond .eq 12, 3) := by decide +kernel
theorem dJ0_charAt_5068e_7 : decode cJ0_charAt_5068e 7 = .ok (.aload_n 0, 1) := by decide +kernel
theorem dJ0_charAt_5068e_8 : decode cJ0_charAt_5068e 8 = .ok (.getfield 9, 3) := by decide +kernel
theorem dJ0_charAt_5068e_11 : decode cJ0_charAt_5068e 11 = .ok (.iload_n 1, 1) := by decide +kernel
theorem dJ0_charAt_5068e_12 : decode cJ0_charAt_5068e 12 = .ok (.invokestatic 495, 3) := by decide +kernel
theorem dJ0_charAt_5068e_15 : decode cJ0_charAt_5068e 15 = .ok (.ireturn, 1) := by decide +kernel
theorem dJ0_charAt_5068e_16 : decode cJ0_charAt_5068e 16 = .ok (.aload_n 0, 1) := by decide +kernel
theorem dJ0_charAt_5068e_17 : decode cJ0_charAt_5068e 17 = .ok (.getfield 9, 3) := by decide +kernel
theorem dJ0_charAt_5068e_20 : decode cJ0_charAt_5068e 20 = .ok (.iload_n 1, 1) := by decide +kernel
theorem dJ0_charAt_5068e_21 : decode cJ0_charAt_5068e 21 = .ok (.invokestatic 498, 3) := by decide +kernel
theorem dJ0_charAt_5068e_24 : decode cJ0_charAt_5068e 24 = .ok (.ireturn, 1) := by decide +kernel
theorem dJ0_equals_9ea2d_0 : decode cJ0_equals_9ea2d 0 = .ok (.aload_n 0, 1) := by decide +kernel
theorem dJ0_equals_9ea2d_1 : decode cJ0_equals_9ea2d 1 = .ok (.aload_n 1, 1) := by decide +kernel
theorem dJ0_equals_9ea2d_2 : decode cJ0_equals_9ea2d 2 = .ok (.if_acmp .ne 5, 3) := by decide +kernel
theorem dJ0_equals_9ea2d_5 : decode cJ0_equals_9ea2d 5 = .ok (.iconst 1, 1) := by decide +kernel
theorem dJ0_equals_9ea2d_6 : decode cJ0_equals_9ea2d 6 = .ok (.ireturn, 1) := by decide +kernel
theorem dJ0_equals_9ea2d_7 : decode cJ0_equals_9ea2d 7 = .ok (.aload_n 1, 1) := by decide +kernel
theorem dJ0_equals_9ea2d_8 : decode cJ0_equals_9ea2d 8 = .ok (.instanceof 10, 3) := by decide +kernel
theorem dJ0_equals_9ea2d_11 : decode cJ0_equals_9ea2d 11 = .ok (.ifCond .eq 43, 3) := by decide +kernel
theorem dJ0_equals_9ea2d_14 : decode cJ0_equals_9ea2d 14 = .ok (.aload_n 1, 1) := by decide +kernel
theorem dJ0_equals_9ea2d_15 : decode cJ0_equals_9ea2d 15 = .ok (.checkcast 10, 3) := by decide +kernel
theorem dJ0_equals_9ea2d_18 : decode cJ0_equals_9ea2d 18 = .ok (.astore_n 2, 1) := by decide +kernel
theorem dJ0_equals_9ea2d_19 : decode cJ0_equals_9ea2d 19 = .ok (.getstatic 38, 3) := by decide +kernel
theorem dJ0_equals_9ea2d_22 : decode cJ0_equals_9ea2d 22 = .ok (.ifCond .eq 14, 3) := by decide +kernel
theorem dJ0_equals_9ea2d_25 : decode cJ0_equals_9ea2d 25 = .ok (.aload_n 0, 1) := by decide +kernel
theorem dJ0_equals_9ea2d_26 : decode cJ0_equals_9ea2d 26 = .ok (.getfield 15, 3) := by decide +kernel
theorem dJ0_equals_9ea2d_29 : decode cJ0_equals_9ea2d 29 = .ok (.aload_n 2, 1) := by decide +kernel
theorem dJ0_equals_9ea2d_30 : decode cJ0_equals_9ea2d 30 = .ok (.getfield 15, 3) := by decide +kernel
theorem dJ0_equals_9ea2d_33 : decode cJ0_equals_9ea2d 33 = .ok (.if_icmp .ne 21, 3) := by decide +kernel
theorem dJ0_equals_9ea2d_36 : decode cJ0_equals_9ea2d 36 = .ok (.aload_n 0, 1) := by decide +kernel
theorem dJ0_equals_9ea2d_37 : decode cJ0_equals_9ea2d 37 = .ok (.getfield 9, 3) := by decide +kernel
theorem dJ0_equals_9ea2d_40 : decode cJ0_equals_9ea2d 40 = .ok (.aload_n 2, 1) := by decide +kernel
theorem dJ0_equals_9ea2d_41 : decode cJ0_equals_9ea2d 41 = .ok (.getfield 9, 3) := by decide +kernel
theorem dJ0_equals_9ea2d_44 : decode cJ0_equals_9ea2d 44 = .ok (.invokestatic 541, 3) := by decide +kernel
theorem dJ0_equals_9ea2d_47 : decode cJ0_equals_9ea2d 47 = .ok (.ifCond .eq 7, 3) := by decide +kernel
theorem dJ0_equals_9ea2d_50 : decode cJ0_equals_9ea2d 50 = .ok (.iconst 1, 1) := by decide +kernel
theorem dJ0_equals_9ea2d_51 : decode cJ0_equals_9ea2d 51 = .ok (.goto 4, 3) := by decide +kernel
theorem dJ0_equals_9ea2d_54 : decode cJ0_equals_9ea2d 54 = .ok (.iconst 0, 1) := by decide +kernel
theorem dJ0_equals_9ea2d_55 : decode cJ0_equals_9ea2d 55 = .ok (.ireturn, 1) := by decide +kernel
theorem dJ0_indexOf_0f7a4_0 : decode cJ0_indexOf_0f7a4 0 = .ok (.aload_n 0, 1) := by decide +kernel
theorem dJ0_indexOf_0f7a4_1 : decode cJ0_indexOf_0f7a4 1 = .ok (.iload_n 1, 1) := by decide +kernel
theorem dJ0_indexOf_0f7a4_2 : decode cJ0_indexOf_0f7a4 2 = .ok (.iconst 0, 1) := by decide +kernel
theorem dJ0_indexOf_0f7a4_3 : decode cJ0_indexOf_0f7a4 3 = .ok (.invokevirtual 633, 3) := by decide +kernel
theorem dJ0_indexOf_0f7a4_6 : decode cJ0_indexOf_0f7a4 6 = .ok (.ireturn, 1) := by decide +kernel
theorem dJ0_indexOf_7cf53_0 : decode cJ0_indexOf_7cf53 0 = .ok (.aload_n 0, 1) := by decide +kernel
theorem dJ0_indexOf_7cf53_1 : decode cJ0_indexOf_7cf53 1 = .ok (.invokevirtual 492, 3) := by decide +kernel
theorem dJ0_indexOf_7cf53_4 : decode cJ0_indexOf_7cf53 4 = .ok (.ifCond .eq 19, 3) := by decide +kernel
theorem dJ0_indexOf_7cf53_7 : decode cJ0_indexOf_7cf53 7 = .ok (.aload_n 0, 1) := by decide +kernel
theorem dJ0_indexOf_7cf53_8 : decode cJ0_indexOf_7cf53 8 = .ok (.getfield 9, 3) := by decide +kernel
theorem dJ0_indexOf_7cf53_11 : decode cJ0_indexOf_7cf53 11 = .ok (.iload_n 1, 1) := by decide +kernel
theorem dJ0_indexOf_7cf53_12 : decode cJ0_indexOf_7cf53 12 = .ok (.iload_n 2, 1) := by decide +kernel
theorem dJ0_indexOf_7cf53_13 : decode cJ0_indexOf_7cf53 13 = .ok (.aload_n 0, 1) := by decide +kernel
theorem dJ0_indexOf_7cf53_14 : decode cJ0_indexOf_7cf53 14 = .ok (.invokevirtual 505, 3) := by decide +kernel
theorem dJ0_indexOf_7cf53_17 : decode cJ0_indexOf_7cf53 17 = .ok (.invokestatic 637, 3) := by decide +kernel
theorem dJ0_indexOf_7cf53_20 : decode cJ0_indexOf_7cf53 20 = .ok (.goto 16, 3) := by decide +kernel
theorem dJ0_indexOf_7cf53_23 : decode cJ0_indexOf_7cf53 23 = .ok (.aload_n 0, 1) := by decide +kernel
theorem dJ0_indexOf_7cf53_24 : decode cJ0_indexOf_7cf53 24 = .ok (.getfield 9, 3) := by decide +kernel
theorem dJ0_indexOf_7cf53_27 : decode cJ0_indexOf_7cf53 27 = .ok (.iload_n 1, 1) := by decide +kernel
theorem dJ0_indexOf_7cf53_28 : decode cJ0_indexOf_7cf53 28 = .ok (.iload_n 2, 1) := by decide +kernel
theorem dJ0_indexOf_7cf53_29 : decode cJ0_indexOf_7cf53 29 = .ok (.aload_n 0, 1) := by decide +kernel
theorem dJ0_indexOf_7cf53_30 : decode cJ0_indexOf_7cf53 30 = .ok (.invokevirtual 505, 3) := by decide +kernel
theorem dJ0_indexOf_7cf53_33 : decode cJ0_indexOf_7cf53 33 = .ok (.invokestatic 640, 3) := by decide +kernel
theorem dJ0_indexOf_7cf53_36 : decode cJ0_indexOf_7cf53 36 = .ok (.ireturn, 1) := by decide +kernel
theorem dJ0_substring_37a41_0 : decode cJ0_substring_37a41 0 = .ok (.aload_n 0, 1) := by decide +kernel
theorem dJ0_substring_37a41_1 : decode cJ0_substring_37a41 1 = .ok (.invokevirtual 505, 3) := by decide +kernel
theorem dJ0_substring_37a41_4 : decode cJ0_substring_37a41 4 = .ok (.istore_n 3, 1) := by decide +kernel
theorem dJ0_substring_37a41_5 : decode cJ0_substring_37a41 5 = .ok (.iload_n 1, 1) := by decide +kernel
theorem dJ0_substring_37a41_6 : decode cJ0_substring_37a41 6 = .ok (.iload_n 2, 1) := by decide +kernel
theorem dJ0_substring_37a41_7 : decode cJ0_substring_37a41 7 = .ok (.iload_n 3, 1) := by decide +kernel
theorem dJ0_substring_37a41_8 : decode cJ0_substring_37a41 8 = .ok (.invokestatic 521, 3) := by decide +kernel
theorem dJ0_substring_37a41_11 : decode cJ0_substring_37a41 11 = .ok (.iload_n 1, 1) := by decide +kernel
theorem dJ0_substring_37a41_12 : decode cJ0_substring_37a41 12 = .ok (.ifCond .ne 10, 3) := by decide +kernel
theorem dJ0_substring_37a41_15 : decode cJ0_substring_37a41 15 = .ok (.iload_n 2, 1) := by decide +kernel
theorem dJ0_substring_37a41_16 : decode cJ0_substring_37a41 16 = .ok (.iload_n 3, 1) := by decide +kernel
theorem dJ0_substring_37a41_17 : decode cJ0_substring_37a41 17 = .ok (.if_icmp .ne 5, 3) := by decide +kernel
theorem dJ0_substring_37a41_20 : decode cJ0_substring_37a41 20 = .ok (.aload_n 0, 1) := by decide +kernel
theorem dJ0_substring_37a41_21 : decode cJ0_substring_37a41 21 = .ok (.areturn, 1) := by decide +kernel
theorem dJ0_substring_37a41_22 : decode cJ0_substring_37a41 22 = .ok (.iload_n 2, 1) := by decide +kernel
theorem dJ0_substring_37a41_23 : decode cJ0_substring_37a41 23 = .ok (.iload_n 1, 1) := by decide +kernel
theorem dJ0_substring_37a41_24 : decode cJ0_substring_37a41 24 = .ok (.isub, 1) := by decide +kernel
theorem dJ0_substring_37a41_25 : decode cJ0_substring_37a41 25 = .ok (.istore 4, 2) := by decide +kernel
theorem dJ0_substring_37a41_27 : decode cJ0_substring_37a41 27 = .ok (.aload_n 0, 1) := by decide +kernel
theorem dJ0_substring_37a41_28 : decode cJ0_substring_37a41 28 = .ok (.invokevirtual 492, 3) := by decide +kernel
theorem dJ0_substring_37a41_31 : decode cJ0_substring_37a41 31 = .ok (.ifCond .eq 16, 3) := by decide +kernel
theorem dJ0_substring_37a41_34 : decode cJ0_substring_37a41 34 = .ok (.aload_n 0, 1) := by decide +kernel
theorem dJ0_substring_37a41_35 : decode cJ0_substring_37a41 35 = .ok (.getfield 9, 3) := by decide +kernel
theorem dJ0_substring_37a41_38 : decode cJ0_substring_37a41 38 = .ok (.iload_n 1, 1) := by decide +kernel
theorem dJ0_substring_37a41_39 : decode cJ0_substring_37a41 39 = .ok (.iload 4, 2) := by decide +kernel
theorem dJ0_substring_37a41_41 : decode cJ0_substring_37a41 41 = .ok (.invokestatic 685, 3) := by decide +kernel
theorem dJ0_substring_37a41_44 : decode cJ0_substring_37a41 44 = .ok (.goto 13, 3) := by decide +kernel
theorem dJ0_substring_37a41_47 : decode cJ0_substring_37a41 47 = .ok (.aload_n 0, 1) := by decide +kernel
theorem dJ0_substring_37a41_48 : decode cJ0_substring_37a41 48 = .ok (.getfield 9, 3) := by decide +kernel
theorem dJ0_substring_37a41_51 : decode cJ0_substring_37a41 51 = .ok (.iload_n 1, 1) := by decide +kernel
theorem dJ0_substring_37a41_52 : decode cJ0_substring_37a41 52 = .ok (.iload 4, 2) := by decide +kernel
theorem dJ0_substring_37a41_54 : decode cJ0_substring_37a41 54 = .ok (.invokestatic 689, 3) := by decide +kernel
theorem dJ0_substring_37a41_57 : decode cJ0_substring_37a41 57 = .ok (.areturn, 1) := by decide +kernel
theorem dJ0_getBytes_840e7_0 : decode cJ0_getBytes_840e7 0 = .ok (.aload_n 0, 1) := by decide +kernel
theorem dJ0_getBytes_840e7_1 : decode cJ0_getBytes_840e7 1 = .ok (.invokevirtual 335, 3) := by decide +kernel
theorem dJ0_getBytes_840e7_4 : decode cJ0_getBytes_840e7 4 = .ok (.iload_n 3, 1) := by decide +kernel
theorem dJ0_getBytes_840e7_5 : decode cJ0_getBytes_840e7 5 = .ok (.if_icmp .ne 23, 3) := by decide +kernel
theorem dJ0_getBytes_840e7_8 : decode cJ0_getBytes_840e7 8 = .ok (.aload_n 0, 1) := by decide +kernel
theorem dJ0_getBytes_840e7_9 : decode cJ0_getBytes_840e7 9 = .ok (.getfield 9, 3) := by decide +kernel
theorem dJ0_getBytes_840e7_12 : decode cJ0_getBytes_840e7 12 = .ok (.iconst 0, 1) := by decide +kernel
theorem dJ0_getBytes_840e7_13 : decode cJ0_getBytes_840e7 13 = .ok (.aload_n 1, 1) := by decide +kernel
theorem dJ0_getBytes_840e7_14 : decode cJ0_getBytes_840e7 14 = .ok (.iload_n 2, 1) := by decide +kernel
theorem dJ0_getBytes_840e7_15 : decode cJ0_getBytes_840e7 15 = .ok (.iload_n 3, 1) := by decide +kernel
theorem dJ0_getBytes_840e7_16 : decode cJ0_getBytes_840e7 16 = .ok (.ishl, 1) := by decide +kernel
theorem dJ0_getBytes_840e7_17 : decode cJ0_getBytes_840e7 17 = .ok (.aload_n 0, 1) := by decide +kernel
theorem dJ0_getBytes_840e7_18 : decode cJ0_getBytes_840e7 18 = .ok (.getfield 9, 3) := by decide +kernel
theorem dJ0_getBytes_840e7_21 : decode cJ0_getBytes_840e7 21 = .ok (.arraylength, 1) := by decide +kernel
theorem dJ0_getBytes_840e7_22 : decode cJ0_getBytes_840e7 22 = .ok (.invokestatic 212, 3) := by decide +kernel
theorem dJ0_getBytes_840e7_25 : decode cJ0_getBytes_840e7 25 = .ok (.goto 18, 3) := by decide +kernel
theorem dJ0_getBytes_840e7_28 : decode cJ0_getBytes_840e7 28 = .ok (.aload_n 0, 1) := by decide +kernel
theorem dJ0_getBytes_840e7_29 : decode cJ0_getBytes_840e7 29 = .ok (.getfield 9, 3) := by decide +kernel
theorem dJ0_getBytes_840e7_32 : decode cJ0_getBytes_840e7 32 = .ok (.iconst 0, 1) := by decide +kernel
theorem dJ0_getBytes_840e7_33 : decode cJ0_getBytes_840e7 33 = .ok (.aload_n 1, 1) := by decide +kernel
theorem dJ0_getBytes_840e7_34 : decode cJ0_getBytes_840e7 34 = .ok (.iload_n 2, 1) := by decide +kernel
theorem dJ0_getBytes_840e7_35 : decode cJ0_getBytes_840e7 35 = .ok (.aload_n 0, 1) := by decide +kernel
theorem dJ0_getBytes_840e7_36 : decode cJ0_getBytes_840e7 36 = .ok (.getfield 9, 3) := by decide +kernel
theorem dJ0_getBytes_840e7_39 : decode cJ0_getBytes_840e7 39 = .ok (.arraylength, 1) := by decide +kernel
theorem dJ0_getBytes_840e7_40 : decode cJ0_getBytes_840e7 40 = .ok (.invokestatic 106, 3) := by decide +kernel
theorem dJ0_getBytes_840e7_43 : decode cJ0_getBytes_840e7 43 = .ok (.return_, 1) := by decide +kernel
theorem dJ0_init_db425_0 : decode cJ0_init_db425 0 = .ok (.aload_n 0, 1) := by decide +kernel
theorem dJ0_init_db425_1 : decode cJ0_init_db425 1 = .ok (.invokespecial 1, 3) := by decide +kernel
theorem dJ0_init_db425_4 : decode cJ0_init_db425 4 = .ok (.aload_n 1, 1) := by decide +kernel
theorem dJ0_init_db425_5 : decode cJ0_init_db425 5 = .ok (.invokevirtual 552, 3) := by decide +kernel
theorem dJ0_init_db425_8 : decode cJ0_init_db425 8 = .ok (.astore_n 3, 1) := by decide +kernel
theorem dJ0_init_db425_9 : decode cJ0_init_db425 9 = .ok (.aload_n 1, 1) := by decide +kernel
theorem dJ0_init_db425_10 : decode cJ0_init_db425 10 = .ok (.invokevirtual 549, 3) := by decide +kernel
theorem dJ0_init_db425_13 : decode cJ0_init_db425 13 = .ok (.istore 4, 2) := by decide +kernel
theorem dJ0_init_db425_15 : decode cJ0_init_db425 15 = .ok (.aload_n 1, 1) := by decide +kernel
theorem dJ0_init_db425_16 : decode cJ0_init_db425 16 = .ok (.invokevirtual 1047, 3) := by decide +kernel
theorem dJ0_init_db425_19 : decode cJ0_init_db425 19 = .ok (.ifCond .eq 22, 3) := by decide +kernel
theorem dJ0_init_db425_22 : decode cJ0_init_db425 22 = .ok (.aload_n 0, 1) := by decide +kernel
theorem dJ0_init_db425_23 : decode cJ0_init_db425 23 = .ok (.iconst 0, 1) := by decide +kernel
theorem dJ0_init_db425_24 : decode cJ0_init_db425 24 = .ok (.putfield 15, 3) := by decide +kernel
theorem dJ0_init_db425_27 : decode cJ0_init_db425 27 = .ok (.aload_n 0, 1) := by decide +kernel
theorem dJ0_init_db425_28 : decode cJ0_init_db425 28 = .ok (.aload_n 3, 1) := by decide +kernel
theorem dJ0_init_db425_29 : decode cJ0_init_db425 29 = .ok (.iconst 0, 1) := by decide +kernel
theorem dJ0_init_db425_30 : decode cJ0_init_db425 30 = .ok (.iload 4, 2) := by decide +kernel
theorem dJ0_init_db425_32 : decode cJ0_init_db425 32 = .ok (.invokestatic 54, 3) := by decide +kernel
theorem dJ0_init_db425_35 : decode cJ0_init_db425 35 = .ok (.putfield 9, 3) := by decide +kernel
theorem dJ0_init_db425_38 : decode cJ0_init_db425 38 = .ok (.goto 59, 3) := by decide +kernel
theorem dJ0_init_db425_41 : decode cJ0_init_db425 41 = .ok (.getstatic 38, 3) := by decide +kernel
theorem dJ0_init_db425_44 : decode cJ0_init_db425 44 = .ok (.ifCond .eq 35, 3) := by decide +kernel
theorem dJ0_init_db425_47 : decode cJ0_init_db425 47 = .ok (.aload_n 1, 1) := by decide +kernel
theorem dJ0_init_db425_48 : decode cJ0_init_db425 48 = .ok (.getfield 1048, 3) := by decide +kernel
theorem dJ0_init_db425_51 : decode cJ0_init_db425 51 = .ok (.ifCond .eq 28, 3) := by decide +kernel
theorem dJ0_init_db425_54 : decode cJ0_init_db425 54 = .ok (.aload_n 0, 1) := by decide +kernel
theorem dJ0_init_db425_55 : decode cJ0_init_db425 55 = .ok (.aload_n 3, 1) := by decide +kernel
theorem dJ0_init_db425_56 : decode cJ0_init_db425 56 = .ok (.iconst 0, 1) := by decide +kernel
theorem dJ0_init_db425_57 : decode cJ0_init_db425 57 = .ok (.iload 4, 2) := by decide +kernel
theorem dJ0_init_db425_59 : decode cJ0_init_db425 59 = .ok (.invokestatic 1051, 3) := by decide +kernel
theorem dJ0_init_db425_62 : decode cJ0_init_db425 62 = .ok (.putfield 9, 3) := by decide +kernel
theorem dJ0_init_db425_65 : decode cJ0_init_db425 65 = .ok (.aload_n 0, 1) := by decide +kernel
theorem dJ0_init_db425_66 : decode cJ0_init_db425 66 = .ok (.aload_n 0, 1) := by decide +kernel
theorem dJ0_init_db425_67 : decode cJ0_init_db425 67 = .ok (.getfield 9, 3) := by decide +kernel
theorem dJ0_init_db425_70 : decode cJ0_init_db425 70 = .ok (.iload 4, 2) := by decide +kernel
theorem dJ0_init_db425_72 : decode cJ0_init_db425 72 = .ok (.invokestatic 47, 3) := by decide +kernel
theorem dJ0_init_db425_75 : decode cJ0_init_db425 75 = .ok (.putfield 15, 3) := by decide +kernel
theorem dJ0_init_db425_78 : decode cJ0_init_db425 78 = .ok (.return_, 1) := by decide +kernel
theorem dJ0_init_db425_79 : decode cJ0_init_db425 79 = .ok (.aload_n 0, 1) := by decide +kernel
theorem dJ0_init_db425_80 : decode cJ0_init_db425 80 = .ok (.iconst 1, 1) := by decide +kernel
theorem dJ0_init_db425_81 : decode cJ0_init_db425 81 = .ok (.putfield 15, 3) := by decide +kernel
theorem dJ0_init_db425_84 : decode cJ0_init_db425 84 = .ok (.aload_n 0, 1) := by decide +kernel
theorem dJ0_init_db425_85 : decode cJ0_init_db425 85 = .ok (.aload_n 3, 1) := by decide +kernel
theorem dJ0_init_db425_86 : decode cJ0_init_db425 86 = .ok (.iconst 0, 1) := by decide +kernel
theorem dJ0_init_db425_87 : decode cJ0_init_db425 87 = .ok (.iload 4, 2) := by decide +kernel
theorem dJ0_init_db425_89 : decode cJ0_init_db425 89 = .ok (.iconst 1, 1) := by decide +kernel
theorem dJ0_init_db425_90 : decode cJ0_init_db425 90 = .ok (.ishl, 1) := by decide +kernel
theorem dJ0_init_db425_91 : decode cJ0_init_db425 91 = .ok (.invokestatic 54, 3) := by decide +kernel
theorem dJ0_init_db425_94 : decode cJ0_init_db425 94 = .ok (.putfield 9, 3) := by decide +kernel
theorem dJ0_init_db425_97 : decode cJ0_init_db425 97 = .ok (.return_, 1) := by decide +kernel
theorem dJ0_init_031fb_0 : decode cJ0_init_031fb 0 = .ok (.aload_n 0, 1) := by decide +kernel
theorem dJ0_init_031fb_1 : decode cJ0_init_031fb 1 = .ok (.invokespecial 1, 3) := by decide +kernel
theorem dJ0_init_031fb_4 : decode cJ0_init_031fb 4 = .ok (.aload_n 0, 1) := by decide +kernel
theorem dJ0_init_031fb_5 : decode cJ0_init_031fb 5 = .ok (.aload_n 1, 1) := by decide +kernel
theorem dJ0_init_031fb_6 : decode cJ0_init_031fb 6 = .ok (.putfield 9, 3) := by decide +kernel
theorem dJ0_init_031fb_9 : decode cJ0_init_031fb 9 = .ok (.aload_n 0, 1) := by decide +kernel
theorem dJ0_init_031fb_10 : decode cJ0_init_031fb 10 = .ok (.iload_n 2, 1) := by decide +kernel
theorem dJ0_init_031fb_11 : decode cJ0_init_031fb 11 = .ok (.putfield 15, 3) := by decide +kernel
theorem dJ0_init_031fb_14 : decode cJ0_init_031fb 14 = .ok (.return_, 1) := by decide +kernel
theorem dJ0_coder_7d493_0 : decode cJ0_coder_7d493 0 = .ok (.getstatic 38, 3) := by decide +kernel
theorem dJ0_coder_7d493_3 : decode cJ0_coder_7d493 3 = .ok (.ifCond .eq 10, 3) := by decide +kernel
theorem dJ0_coder_7d493_6 : decode cJ0_coder_7d493 6 = .ok (.aload_n 0, 1) := by decide +kernel
theorem dJ0_coder_7d493_7 : decode cJ0_coder_7d493 7 = .ok (.getfield 15, 3) := by decide +kernel
theorem dJ0_coder_7d493_10 : decode cJ0_coder_7d493 10 = .ok (.goto 4, 3) := by decide +kernel
theorem dJ0_coder_7d493_13 : decode cJ0_coder_7d493 13 = .ok (.iconst 1, 1) := by decide +kernel
theorem dJ0_coder_7d493_14 : decode cJ0_coder_7d493 14 = .ok (.ireturn, 1) := by decide +kernel
theorem dJ0_isLatin1_aae02_0 : decode cJ0_isLatin1_aae02 0 = .ok (.getstatic 38, 3) := by decide +kernel
theorem dJ0_isLatin1_aae02_3 : decode cJ0_isLatin1_aae02 3 = .ok (.ifCond .eq 14, 3) := by decide +kernel
theorem dJ0_isLatin1_aae02_6 : decode cJ0_isLatin1_aae02 6 = .ok (.aload_n 0, 1) := by decide +kernel
theorem dJ0_isLatin1_aae02_7 : decode cJ0_isLatin1_aae02 7 = .ok (.getfield 15, 3) := by decide +kernel
theorem dJ0_isLatin1_aae02_10 : decode cJ0_isLatin1_aae02 10 = .ok (.ifCond .ne 7, 3) := by decide +kernel
theorem dJ0_isLatin1_aae02_13 : decode cJ0_isLatin1_aae02 13 = .ok (.iconst 1, 1) := by decide +kernel
theorem dJ0_isLatin1_aae02_14 : decode cJ0_isLatin1_aae02 14 = .ok (.goto 4, 3) := by decide +kernel
theorem dJ0_isLatin1_aae02_17 : decode cJ0_isLatin1_aae02 17 = .ok (.iconst 0, 1) := by decide +kernel
theorem dJ0_isLatin1_aae02_18 : decode cJ0_isLatin1_aae02 18 = .ok (.ireturn, 1) := by decide +kernel
theorem dJ0_checkIndex_df160_0 : decode cJ0_checkIndex_df160 0 = .ok (.iload_n 0, 1) := by decide +kernel
theorem dJ0_checkIndex_df160_1 : decode cJ0_checkIndex_df160 1 = .ok (.iload_n 1, 1) := by decide +kernel
theorem dJ0_checkIndex_df160_2 : decode cJ0_checkIndex_df160 2 = .ok (.getstatic 1053, 3) := by decide +kernel
theorem dJ0_checkIndex_df160_5 : decode cJ0_checkIndex_df160 5 = .ok (.invokestatic 1059, 3) := by decide +kernel
theorem dJ0_checkIndex_df160_8 : decode cJ0_checkIndex_df160 8 = .ok (.pop, 1) := by decide +kernel
theorem dJ0_checkIndex_df160_9 : decode cJ0_checkIndex_df160 9 = .ok (.return_, 1) := by decide +kernel
theorem dJ0_checkBoundsOffCount_cabcc_0 : decode cJ0_checkBoundsOffCount_cabcc 0 = .ok (.iload_n 0, 1) := by decide +kernel
theorem dJ0_checkBoundsOffCount_cabcc_1 : decode cJ0_checkBoundsOffCount_cabcc 1 = .ok (.iload_n 1, 1) := by decide +kernel
theorem dJ0_checkBoundsOffCount_cabcc_2 : decode cJ0_checkBoundsOffCount_cabcc 2 = .ok (.iload_n 2, 1) := by decide +kernel
theorem dJ0_checkBoundsOffCount_cabcc_3 : decode cJ0_checkBoundsOffCount_cabcc 3 = .ok (.getstatic 1053, 3) := by decide +kernel
theorem dJ0_checkBoundsOffCount_cabcc_6 : decode cJ0_checkBoundsOffCount_cabcc 6 = .ok (.invokestatic 1065, 3) := by decide +kernel
theorem dJ0_checkBoundsOffCount_cabcc_9 : decode cJ0_checkBoundsOffCount_cabcc 9 = .ok (.ireturn, 1) := by decide +kernel
theorem dJ0_checkBoundsBeginEnd_23922_0 : decode cJ0_checkBoundsBeginEnd_23922 0 = .ok (.iload_n 0, 1) := by decide +kernel
theorem dJ0_checkBoundsBeginEnd_23922_1 : decode cJ0_checkBoundsBeginEnd_23922 1 = .ok (.iload_n 1, 1) := by decide +kernel
theorem dJ0_checkBoundsBeginEnd_23922_2 : decode cJ0_checkBoundsBeginEnd_23922 2 = .ok (.iload_n 2, 1) := by decide +kernel
theorem dJ0_checkBoundsBeginEnd_23922_3 : decode cJ0_checkBoundsBeginEnd_23922 3 = .ok (.getstatic 1053, 3) := by decide +kernel
theorem dJ0_checkBoundsBeginEnd_23922_6 : decode cJ0_checkBoundsBeginEnd_23922 6 = .ok (.invokestatic 1062, 3) := by decide +kernel
theorem dJ0_checkBoundsBeginEnd_23922_9 : decode cJ0_checkBoundsBeginEnd_23922 9 = .ok (.pop, 1) := by decide +kernel
theorem dJ0_checkBoundsBeginEnd_23922_10 : decode cJ0_checkBoundsBeginEnd_23922 10 = .ok (.return_, 1) := by decide +kernel
theorem dJ4_init_da8c8_0 : decode cJ4_init_da8c8 0 = .ok (.aload_n 0, 1) := by decide +kernel
theorem dJ4_init_da8c8_1 : decode cJ4_init_da8c8 1 = .ok (.bipush 16, 2) := by decide +kernel
theorem dJ4_init_da8c8_3 : decode cJ4_init_da8c8 3 = .ok (.invokespecial 1, 3) := by decide +kernel
theorem dJ4_init_da8c8_6 : decode cJ4_init_da8c8 6 = .ok (.return_, 1) := by decide +kernel
theorem dJ4_append_15ec4_0 : decode cJ4_append_15ec4 0 = .ok (.aload_n 0, 1) := by decide +kernel
theorem dJ4_append_15ec4_1 : decode cJ4_append_15ec4 1 = .ok (.aload_n 1, 1) := by decide +kernel
theorem dJ4_append_15ec4_2 : decode cJ4_append_15ec4 2 = .ok (.invokespecial 29, 3) := by decide +kernel
theorem dJ4_append_15ec4_5 : decode cJ4_append_15ec4 5 = .ok (.pop, 1) := by decide +kernel
theorem dJ4_append_15ec4_6 : decode cJ4_append_15ec4 6 = .ok (.aload_n 0, 1) := by decide +kernel
theorem dJ4_append_15ec4_7 : decode cJ4_append_15ec4 7 = .ok (.areturn, 1) := by decide +kernel
theorem dJ4_append_cf468_0 : decode cJ4_append_cf468 0 = .ok (.aload_n 0, 1) := by decide +kernel
theorem dJ4_append_cf468_1 : decode cJ4_append_cf468 1 = .ok (.iload_n 1, 1) := by decide +kernel
theorem dJ4_append_cf468_2 : decode cJ4_append_cf468 2 = .ok (.invokespecial 50, 3) := by decide +kernel
theorem dJ4_append_cf468_5 : decode cJ4_append_cf468 5 = .ok (.pop, 1) := by decide +kernel
theorem dJ4_append_cf468_6 : decode cJ4_append_cf468 6 = .ok (.aload_n 0, 1) := by decide +kernel
theorem dJ4_append_cf468_7 : decode cJ4_append_cf468 7 = .ok (.areturn, 1) := by decide +kernel
theorem dJ4_append_bf812_0 : decode cJ4_append_bf812 0 = .ok (.aload_n 0, 1) := by decide +kernel
theorem dJ4_append_bf812_1 : decode cJ4_append_bf812 1 = .ok (.iload_n 1, 1) := by decide +kernel
theorem dJ4_append_bf812_2 : decode cJ4_append_bf812 2 = .ok (.invokespecial 53, 3) := by decide +kernel
theorem dJ4_append_bf812_5 : decode cJ4_append_bf812 5 = .ok (.pop, 1) := by decide +kernel
theorem dJ4_append_bf812_6 : decode cJ4_append_bf812 6 = .ok (.aload_n 0, 1) := by decide +kernel
theorem dJ4_append_bf812_7 : decode cJ4_append_bf812 7 = .ok (.areturn, 1) := by decide +kernel
theorem dJ4_toString_0e30d_0 : decode cJ4_toString_0e30d 0 = .ok (.new 18, 3) := by decide +kernel
theorem dJ4_toString_0e30d_3 : decode cJ4_toString_0e30d 3 = .ok (.dup, 1) := by decide +kernel
theorem dJ4_toString_0e30d_4 : decode cJ4_toString_0e30d 4 = .ok (.aload_n 0, 1) := by decide +kernel
theorem dJ4_toString_0e30d_5 : decode cJ4_toString_0e30d 5 = .ok (.invokespecial 137, 3) := by decide +kernel
theorem dJ4_toString_0e30d_8 : decode cJ4_toString_0e30d 8 = .ok (.areturn, 1) := by decide +kernel
theorem dJ4_charAt_5068e_0 : decode cJ4_charAt_5068e 0 = .ok (.aload_n 0, 1) := by decide +kernel
theorem dJ4_charAt_5068e_1 : decode cJ4_charAt_5068e 1 = .ok (.iload_n 1, 1) := by decide +kernel
theorem dJ4_charAt_5068e_2 : decode cJ4_charAt_5068e 2 = .ok (.invokespecial 329, 3) := by decide +kernel
theorem dJ4_charAt_5068e_5 : decode cJ4_charAt_5068e 5 = .ok (.ireturn, 1) := by decide +kernel
theorem dJ4_setLength_d00df_0 : decode cJ4_setLength_d00df 0 = .ok (.aload_n 0, 1) := by decide +kernel
theorem dJ4_setLength_d00df_1 : decode cJ4_setLength_d00df 1 = .ok (.iload_n 1, 1) := by decide +kernel
theorem dJ4_setLength_d00df_2 : decode cJ4_setLength_d00df 2 = .ok (.invokespecial 333, 3) := by decide +kernel
theorem dJ4_setLength_d00df_5 : decode cJ4_setLength_d00df 5 = .ok (.return_, 1) := by decide +kernel
theorem dJ4_length_8abf5_0 : decode cJ4_length_8abf5 0 = .ok (.aload_n 0, 1) := by decide +kernel
theorem dJ4_length_8abf5_1 : decode cJ4_length_8abf5 1 = .ok (.invokespecial 343, 3) := by decide +kernel
theorem dJ4_length_8abf5_4 : decode cJ4_length_8abf5 4 = .ok (.ireturn, 1) := by decide +kernel
theorem dJ1_charAt_3b067_0 : decode cJ1_charAt_3b067 0 = .ok (.iload_n 1, 1) := by decide +kernel
theorem dJ1_charAt_3b067_1 : decode cJ1_charAt_3b067 1 = .ok (.aload_n 0, 1) := by decide +kernel
theorem dJ1_charAt_3b067_2 : decode cJ1_charAt_3b067 2 = .ok (.arraylength, 1) := by decide +kernel
theorem dJ1_charAt_3b067_3 : decode cJ1_charAt_3b067 3 = .ok (.invokestatic 9, 3) := by decide +kernel
theorem dJ1_charAt_3b067_6 : decode cJ1_charAt_3b067 6 = .ok (.aload_n 0, 1) := by decide +kernel
theorem dJ1_charAt_3b067_7 : decode cJ1_charAt_3b067 7 = .ok (.iload_n 1, 1) := by decide +kernel
theorem dJ1_charAt_3b067_8 : decode cJ1_charAt_3b067 8 = .ok (.baload, 1) := by decide +kernel
theorem dJ1_charAt_3b067_9 : decode cJ1_charAt_3b067 9 = .ok (.sipush 255, 3) := by decide +kernel
theorem dJ1_charAt_3b067_12 : decode cJ1_charAt_3b067 12 = .ok (.iand, 1) := by decide +kernel
theorem dJ1_charAt_3b067_13 : decode cJ1_charAt_3b067 13 = .ok (.i2c, 1) := by decide +kernel
theorem dJ1_charAt_3b067_14 : decode cJ1_charAt_3b067 14 = .ok (.ireturn, 1) := by decide +kernel
theorem dJ1_canEncode_fc78d_0 : decode cJ1_canEncode_fc78d 0 = .ok (.iload_n 0, 1) := by decide +kernel
theorem dJ1_canEncode_fc78d_1 : decode cJ1_canEncode_fc78d 1 = .ok (.sipush 255, 3) := by decide +kernel
theorem dJ1_canEncode_fc78d_4 : decode cJ1_canEncode_fc78d 4 = .ok (.if_icmp .gt 7, 3) := by decide +kernel
theorem dJ1_canEncode_fc78d_7 : decode cJ1_canEncode_fc78d 7 = .ok (.iconst 1, 1) := by decide +kernel
theorem dJ1_canEncode_fc78d_8 : decode cJ1_canEncode_fc78d 8 = .ok (.goto 4, 3) := by decide +kernel
theorem dJ1_canEncode_fc78d_11 : decode cJ1_canEncode_fc78d 11 = .ok (.iconst 0, 1) := by decide +kernel
theorem dJ1_canEncode_fc78d_12 : decode cJ1_canEncode_fc78d 12 = .ok (.ireturn, 1) := by decide +kernel
theorem dJ1_canEncode_9a6ad_0 : decode cJ1_canEncode_9a6ad 0 = .ok (.iload_n 0, 1) := by decide +kernel
theorem dJ1_canEncode_9a6ad_1 : decode cJ1_canEncode_9a6ad 1 = .ok (.ifCond .lt 14, 3) := by decide +kernel
theorem dJ1_canEncode_9a6ad_4 : decode cJ1_canEncode_9a6ad 4 = .ok (.iload_n 0, 1) := by decide +kernel
theorem dJ1_canEncode_9a6ad_5 : decode cJ1_canEncode_9a6ad 5 = .ok (.sipush 255, 3) := by decide +kernel
theorem dJ1_canEncode_9a6ad_8 : decode cJ1_canEncode_9a6ad 8 = .ok (.if_icmp .gt 7, 3) := by decide +kernel
theorem dJ1_canEncode_9a6ad_11 : decode cJ1_canEncode_9a6ad 11 = .ok (.iconst 1, 1) := by decide +kernel
theorem dJ1_canEncode_9a6ad_12 : decode cJ1_canEncode_9a6ad 12 = .ok (.goto 4, 3) := by decide +kernel
theorem dJ1_canEncode_9a6ad_15 : decode cJ1_canEncode_9a6ad 15 = .ok (.iconst 0, 1) := by decide +kernel
theorem dJ1_canEncode_9a6ad_16 : decode cJ1_canEncode_9a6ad 16 = .ok (.ireturn, 1) := by decide +kernel
theorem dJ1_equals_b5fdf_0 : decode cJ1_equals_b5fdf 0 = .ok (.aload_n 0, 1) := by decide +kernel
theorem dJ1_equals_b5fdf_1 : decode cJ1_equals_b5fdf 1 = .ok (.arraylength, 1) := by decide +kernel
theorem dJ1_equals_b5fdf_2 : decode cJ1_equals_b5fdf 2 = .ok (.aload_n 1, 1) := by decide +kernel
theorem dJ1_equals_b5fdf_3 : decode cJ1_equals_b5fdf 3 = .ok (.arraylength, 1) := by decide +kernel
theorem dJ1_equals_b5fdf_4 : decode cJ1_equals_b5fdf 4 = .ok (.if_icmp .ne 30, 3) := by decide +kernel
theorem dJ1_equals_b5fdf_7 : decode cJ1_equals_b5fdf 7 = .ok (.iconst 0, 1) := by decide +kernel
theorem dJ1_equals_b5fdf_8 : decode cJ1_equals_b5fdf 8 = .ok (.istore_n 2, 1) := by decide +kernel
theorem dJ1_equals_b5fdf_9 : decode cJ1_equals_b5fdf 9 = .ok (.iload_n 2, 1) := by decide +kernel
theorem dJ1_equals_b5fdf_10 : decode cJ1_equals_b5fdf 10 = .ok (.aload_n 0, 1) := by decide +kernel
theorem dJ1_equals_b5fdf_11 : decode cJ1_equals_b5fdf 11 = .ok (.arraylength, 1) := by decide +kernel
theorem dJ1_equals_b5fdf_12 : decode cJ1_equals_b5fdf 12 = .ok (.if_icmp .ge 20, 3) := by decide +kernel
theorem dJ1_equals_b5fdf_15 : decode cJ1_equals_b5fdf 15 = .ok (.aload_n 0, 1) := by decide +kernel
theorem dJ1_equals_b5fdf_16 : decode cJ1_equals_b5fdf 16 = .ok (.iload_n 2, 1) := by decide +kernel
theorem dJ1_equals_b5fdf_17 : decode cJ1_equals_b5fdf 17 = .ok (.baload, 1) := by decide +kernel
theorem dJ1_equals_b5fdf_18 : decode cJ1_equals_b5fdf 18 = .ok (.aload_n 1, 1) := by decide +kernel
theorem dJ1_equals_b5fdf_19 : decode cJ1_equals_b5fdf 19 = .ok (.iload_n 2, 1) := by decide +kernel
theorem dJ1_equals_b5fdf_20 : decode cJ1_equals_b5fdf 20 = .ok (.baload, 1) := by decide +kernel
theorem dJ1_equals_b5fdf_21 : decode cJ1_equals_b5fdf 21 = .ok (.if_icmp .eq 5, 3) := by decide +kernel
theorem dJ1_equals_b5fdf_24 : decode cJ1_equals_b5fdf 24 = .ok (.iconst 0, 1) := by decide +kernel
theorem dJ1_equals_b5fdf_25 : decode cJ1_equals_b5fdf 25 = .ok (.ireturn, 1) := by decide +kernel
theorem dJ1_equals_b5fdf_26 : decode cJ1_equals_b5fdf 26 = .ok (.iinc 2 1, 3) := by decide +kernel
theorem dJ1_equals_b5fdf_29 : decode cJ1_equals_b5fdf 29 = .ok (.goto (-20), 3) := by decide +kernel
theorem dJ1_equals_b5fdf_32 : decode cJ1_equals_b5fdf 32 = .ok (.iconst 1, 1) := by decide +kernel
theorem dJ1_equals_b5fdf_33 : decode cJ1_equals_b5fdf 33 = .ok (.ireturn, 1) := by decide +kernel
theorem dJ1_equals_b5fdf_34 : decode cJ1_equals_b5fdf 34 = .ok (.iconst 0, 1) := by decide +kernel
theorem dJ1_equals_b5fdf_35 : decode cJ1_equals_b5fdf 35 = .ok (.ireturn, 1) := by decide +kernel
theorem dJ1_indexOf_4cfef_0 : decode cJ1_indexOf_4cfef 0 = .ok (.iload_n 1, 1) := by decide +kernel
theorem dJ1_indexOf_4cfef_1 : decode cJ1_indexOf_4cfef 1 = .ok (.invokestatic 88, 3) := by decide +kernel
theorem dJ1_indexOf_4cfef_4 : decode cJ1_indexOf_4cfef 4 = .ok (.ifCond .ne 5, 3) := by decide +kernel
theorem dJ1_indexOf_4cfef_7 : decode cJ1_indexOf_4cfef 7 = .ok (.iconst (-1), 1) := by decide +kernel
theorem dJ1_indexOf_4cfef_8 : decode cJ1_indexOf_4cfef 8 = .ok (.ireturn, 1) := by decide +kernel
theorem dJ1_indexOf_4cfef_9 : decode cJ1_indexOf_4cfef 9 = .ok (.iload_n 2, 1) := by decide +kernel
theorem dJ1_indexOf_4cfef_10 : decode cJ1_indexOf_4cfef 10 = .ok (.iconst 0, 1) := by decide +kernel
theorem dJ1_indexOf_4cfef_11 : decode cJ1_indexOf_4cfef 11 = .ok (.invokestatic 92, 3) := by decide +kernel
theorem dJ1_indexOf_4cfef_14 : decode cJ1_indexOf_4cfef 14 = .ok (.istore_n 2, 1) := by decide +kernel
theorem dJ1_indexOf_4cfef_15 : decode cJ1_indexOf_4cfef 15 = .ok (.iload_n 3, 1) := by decide +kernel
theorem dJ1_indexOf_4cfef_16 : decode cJ1_indexOf_4cfef 16 = .ok (.aload_n 0, 1) := by decide +kernel
theorem dJ1_indexOf_4cfef_17 : decode cJ1_indexOf_4cfef 17 = .ok (.arraylength, 1) := by decide +kernel
theorem dJ1_indexOf_4cfef_18 : decode cJ1_indexOf_4cfef 18 = .ok (.invokestatic 38, 3) := by decide +kernel
theorem dJ1_indexOf_4cfef_21 : decode cJ1_indexOf_4cfef 21 = .ok (.istore_n 3, 1) := by decide +kernel
theorem dJ1_indexOf_4cfef_22 : decode cJ1_indexOf_4cfef 22 = .ok (.iload_n 2, 1) := by decide +kernel
theorem dJ1_indexOf_4cfef_23 : decode cJ1_indexOf_4cfef 23 = .ok (.iload_n 3, 1) := by decide +kernel
theorem dJ1_indexOf_4cfef_24 : decode cJ1_indexOf_4cfef 24 = .ok (.if_icmp .lt 5, 3) := by decide +kernel
theorem dJ1_indexOf_4cfef_27 : decode cJ1_indexOf_4cfef 27 = .ok (.iconst (-1), 1) := by decide +kernel
theorem dJ1_indexOf_4cfef_28 : decode cJ1_indexOf_4cfef 28 = .ok (.ireturn, 1) := by decide +kernel
theorem dJ1_indexOf_4cfef_29 : decode cJ1_indexOf_4cfef 29 = .ok (.aload_n 0, 1) := by decide +kernel
theorem dJ1_indexOf_4cfef_30 : decode cJ1_indexOf_4cfef 30 = .ok (.iload_n 1, 1) := by decide +kernel
theorem dJ1_indexOf_4cfef_31 : decode cJ1_indexOf_4cfef 31 = .ok (.iload_n 2, 1) := by decide +kernel
theorem dJ1_indexOf_4cfef_32 : decode cJ1_indexOf_4cfef 32 = .ok (.iload_n 3, 1) := by decide +kernel
theorem dJ1_indexOf_4cfef_33 : decode cJ1_indexOf_4cfef 33 = .ok (.invokestatic 95, 3) := by decide +kernel
theorem dJ1_indexOf_4cfef_36 : decode cJ1_indexOf_4cfef 36 = .ok (.ireturn, 1) := by decide +kernel
theorem dJ1_indexOfChar_4cfef_0 : decode cJ1_indexOfChar_4cfef 0 = .ok (.iload_n 1, 1) := by decide +kernel
theorem dJ1_indexOfChar_4cfef_1 : decode cJ1_indexOfChar_4cfef 1 = .ok (.i2b, 1) := by decide +kernel
theorem dJ1_indexOfChar_4cfef_2 : decode cJ1_indexOfChar_4cfef 2 = .ok (.istore 4, 2) := by decide +kernel
theorem dJ1_indexOfChar_4cfef_4 : decode cJ1_indexOfChar_4cfef 4 = .ok (.iload_n 2, 1) := by decide +kernel
theorem dJ1_indexOfChar_4cfef_5 : decode cJ1_indexOfChar_4cfef 5 = .ok (.istore 5, 2) := by decide +kernel
theorem dJ1_indexOfChar_4cfef_7 : decode cJ1_indexOfChar_4cfef 7 = .ok (.iload 5, 2) := by decide +kernel
theorem dJ1_indexOfChar_4cfef_9 : decode cJ1_indexOfChar_4cfef 9 = .ok (.iload_n 3, 1) := by decide +kernel
theorem dJ1_indexOfChar_4cfef_10 : decode cJ1_indexOfChar_4cfef 10 = .ok (.if_icmp .ge 21, 3) := by decide +kernel
theorem dJ1_indexOfChar_4cfef_13 : decode cJ1_indexOfChar_4cfef 13 = .ok (.aload_n 0, 1) := by decide +kernel
theorem dJ1_indexOfChar_4cfef_14 : decode cJ1_indexOfChar_4cfef 14 = .ok (.iload 5, 2) := by decide +kernel
theorem dJ1_indexOfChar_4cfef_16 : decode cJ1_indexOfChar_4cfef 16 = .ok (.baload, 1) := by decide +kernel
theorem dJ1_indexOfChar_4cfef_17 : decode cJ1_indexOfChar_4cfef 17 = .ok (.iload 4, 2) := by decide +kernel
theorem dJ1_indexOfChar_4cfef_19 : decode cJ1_indexOfChar_4cfef 19 = .ok (.if_icmp .ne 6, 3) := by decide +kernel
theorem dJ1_indexOfChar_4cfef_22 : decode cJ1_indexOfChar_4cfef 22 = .ok (.iload 5, 2) := by decide +kernel
theorem dJ1_indexOfChar_4cfef_24 : decode cJ1_indexOfChar_4cfef 24 = .ok (.ireturn, 1) := by decide +kernel
theorem dJ1_indexOfChar_4cfef_25 : decode cJ1_indexOfChar_4cfef 25 = .ok (.iinc 5 1, 3) := by decide +kernel
theorem dJ1_indexOfChar_4cfef_28 : decode cJ1_indexOfChar_4cfef 28 = .ok (.goto (-21), 3) := by decide +kernel
theorem dJ1_indexOfChar_4cfef_31 : decode cJ1_indexOfChar_4cfef 31 = .ok (.iconst (-1), 1) := by decide +kernel
theorem dJ1_indexOfChar_4cfef_32 : decode cJ1_indexOfChar_4cfef 32 = .ok (.ireturn, 1) := by decide +kernel
theorem dJ1_newString_b4f7a_0 : decode cJ1_newString_b4f7a 0 = .ok (.iload_n 2, 1) := by decide +kernel
theorem dJ1_newString_b4f7a_1 : decode cJ1_newString_b4f7a 1 = .ok (.ifCond .ne 6, 3) := by decide +kernel
theorem dJ1_newString_b4f7a_4 : decode cJ1_newString_b4f7a 4 = .ok (.ldc 151, 2) := by decide +kernel
theorem dJ1_newString_b4f7a_6 : decode cJ1_newString_b4f7a 6 = .ok (.areturn, 1) := by decide +kernel
theorem dJ1_newString_b4f7a_7 : decode cJ1_newString_b4f7a 7 = .ok (.new 1, 3) := by decide +kernel
theorem dJ1_newString_b4f7a_10 : decode cJ1_newString_b4f7a 10 = .ok (.dup, 1) := by decide +kernel
theorem dJ1_newString_b4f7a_11 : decode cJ1_newString_b4f7a 11 = .ok (.aload_n 0, 1) := by decide +kernel
theorem dJ1_newString_b4f7a_12 : decode cJ1_newString_b4f7a 12 = .ok (.iload_n 1, 1) := by decide +kernel
theorem dJ1_newString_b4f7a_13 : decode cJ1_newString_b4f7a 13 = .ok (.iload_n 1, 1) := by decide +kernel
theorem dJ1_newString_b4f7a_14 : decode cJ1_newString_b4f7a 14 = .ok (.iload_n 2, 1) := by decide +kernel
theorem dJ1_newString_b4f7a_15 : decode cJ1_newString_b4f7a 15 = .ok (.iadd, 1) := by decide +kernel
theorem dJ1_newString_b4f7a_16 : decode cJ1_newString_b4f7a 16 = .ok (.invokestatic 232, 3) := by decide +kernel
theorem dJ1_newString_b4f7a_19 : decode cJ1_newString_b4f7a 19 = .ok (.iconst 0, 1) := by decide +kernel
theorem dJ1_newString_b4f7a_20 : decode cJ1_newString_b4f7a 20 = .ok (.invokespecial 112, 3) := by decide +kernel
theorem dJ1_newString_b4f7a_23 : decode cJ1_newString_b4f7a 23 = .ok (.areturn, 1) := by decide +kernel
theorem dJ1_fillNull_b72d1_0 : decode cJ1_fillNull_b72d1 0 = .ok (.aload_n 0, 1) := by decide +kernel
theorem dJ1_fillNull_b72d1_1 : decode cJ1_fillNull_b72d1 1 = .ok (.iload_n 1, 1) := by decide +kernel
theorem dJ1_fillNull_b72d1_2 : decode cJ1_fillNull_b72d1 2 = .ok (.iload_n 2, 1) := by decide +kernel
theorem dJ1_fillNull_b72d1_3 : decode cJ1_fillNull_b72d1 3 = .ok (.iconst 0, 1) := by decide +kernel
theorem dJ1_fillNull_b72d1_4 : decode cJ1_fillNull_b72d1 4 = .ok (.invokestatic 236, 3) := by decide +kernel
theorem dJ1_fillNull_b72d1_7 : decode cJ1_fillNull_b72d1 7 = .ok (.return_, 1) := by decide +kernel
theorem dJ1_inflate_0e8fd_0 : decode cJ1_inflate_0e8fd 0 = .ok (.aload_n 0, 1) := by decide +kernel
theorem dJ1_inflate_0e8fd_1 : decode cJ1_inflate_0e8fd 1 = .ok (.iload_n 1, 1) := by decide +kernel
theorem dJ1_inflate_0e8fd_2 : decode cJ1_inflate_0e8fd 2 = .ok (.aload_n 2, 1) := by decide +kernel
theorem dJ1_inflate_0e8fd_3 : decode cJ1_inflate_0e8fd 3 = .ok (.iload_n 3, 1) := by decide +kernel
theorem dJ1_inflate_0e8fd_4 : decode cJ1_inflate_0e8fd 4 = .ok (.iload 4, 2) := by decide +kernel
theorem dJ1_inflate_0e8fd_6 : decode cJ1_inflate_0e8fd 6 = .ok (.invokestatic 240, 3) := by decide +kernel
theorem dJ1_inflate_0e8fd_9 : decode cJ1_inflate_0e8fd 9 = .ok (.return_, 1) := by decide +kernel
theorem dJ2_newBytesFor_77867_0 : decode cJ2_newBytesFor_77867 0 = .ok (.iload_n 0, 1) := by decide +kernel
theorem dJ2_newBytesFor_77867_1 : decode cJ2_newBytesFor_77867 1 = .ok (.invokestatic 11, 3) := by decide +kernel
theorem dJ2_newBytesFor_77867_4 : decode cJ2_newBytesFor_77867 4 = .ok (.newarray .byte, 2) := by decide +kernel
theorem dJ2_newBytesFor_77867_6 : decode cJ2_newBytesFor_77867 6 = .ok (.areturn, 1) := by decide +kernel
theorem dJ2_newBytesLength_0f7a4_0 : decode cJ2_newBytesLength_0f7a4 0 = .ok (.iload_n 0, 1) := by decide +kernel
theorem dJ2_newBytesLength_0f7a4_1 : decode cJ2_newBytesLength_0f7a4 1 = .ok (.ifCond .ge 11, 3) := by decide +kernel
theorem dJ2_newBytesLength_0f7a4_4 : decode cJ2_newBytesLength_0f7a4 4 = .ok (.new 17, 3) := by decide +kernel
theorem dJ2_newBytesLength_0f7a4_7 : decode cJ2_newBytesLength_0f7a4 7 = .ok (.dup, 1) := by decide +kernel
theorem dJ2_newBytesLength_0f7a4_8 : decode cJ2_newBytesLength_0f7a4 8 = .ok (.invokespecial 19, 3) := by decide +kernel
theorem dJ2_newBytesLength_0f7a4_11 : decode cJ2_newBytesLength_0f7a4 11 = .ok (.athrow, 1) := by decide +kernel
theorem dJ2_newBytesLength_0f7a4_12 : decode cJ2_newBytesLength_0f7a4 12 = .ok (.iload_n 0, 1) := by decide +kernel
theorem dJ2_newBytesLength_0f7a4_13 : decode cJ2_newBytesLength_0f7a4 13 = .ok (.ldc 20, 2) := by decide +kernel
theorem dJ2_newBytesLength_0f7a4_15 : decode cJ2_newBytesLength_0f7a4 15 = .ok (.if_icmp .lt 40, 3) := by decide +kernel
theorem dJ2_newBytesLength_0f7a4_18 : decode cJ2_newBytesLength_0f7a4 18 = .ok (.new 21, 3) := by decide +kernel
theorem dJ2_newBytesLength_0f7a4_21 : decode cJ2_newBytesLength_0f7a4 21 = .ok (.dup, 1) := by decide +kernel
theorem dJ2_newBytesLength_0f7a4_22 : decode cJ2_newBytesLength_0f7a4 22 = .ok (.new 23, 3) := by decide +kernel
theorem dJ2_newBytesLength_0f7a4_25 : decode cJ2_newBytesLength_0f7a4 25 = .ok (.dup, 1) := by decide +kernel
theorem dJ2_newBytesLength_0f7a4_26 : decode cJ2_newBytesLength_0f7a4 26 = .ok (.invokespecial 25, 3) := by decide +kernel
theorem dJ2_newBytesLength_0f7a4_29 : decode cJ2_newBytesLength_0f7a4 29 = .ok (.ldc 26, 2) := by decide +kernel
theorem dJ2_newBytesLength_0f7a4_31 : decode cJ2_newBytesLength_0f7a4 31 = .ok (.invokevirtual 28, 3) := by decide +kernel
theorem dJ2_newBytesLength_0f7a4_34 : decode cJ2_newBytesLength_0f7a4 34 = .ok (.iload_n 0, 1) := by decide +kernel
theorem dJ2_newBytesLength_0f7a4_35 : decode cJ2_newBytesLength_0f7a4 35 = .ok (.invokevirtual 32, 3) := by decide +kernel
theorem dJ2_newBytesLength_0f7a4_38 : decode cJ2_newBytesLength_0f7a4 38 = .ok (.ldc 35, 2) := by decide +kernel
theorem dJ2_newBytesLength_0f7a4_40 : decode cJ2_newBytesLength_0f7a4 40 = .ok (.invokevirtual 28, 3) := by decide +kernel
theorem dJ2_newBytesLength_0f7a4_43 : decode cJ2_newBytesLength_0f7a4 43 = .ok (.ldc 20, 2) := by decide +kernel
theorem dJ2_newBytesLength_0f7a4_45 : decode cJ2_newBytesLength_0f7a4 45 = .ok (.invokevirtual 32, 3) := by decide +kernel
theorem dJ2_newBytesLength_0f7a4_48 : decode cJ2_newBytesLength_0f7a4 48 = .ok (.invokevirtual 37, 3) := by decide +kernel
theorem dJ2_newBytesLength_0f7a4_51 : decode cJ2_newBytesLength_0f7a4 51 = .ok (.invokespecial 41, 3) := by decide +kernel
theorem dJ2_newBytesLength_0f7a4_54 : decode cJ2_newBytesLength_0f7a4 54 = .ok (.athrow, 1) := by decide +kernel
theorem dJ2_newBytesLength_0f7a4_55 : decode cJ2_newBytesLength_0f7a4 55 = .ok (.iload_n 0, 1) := by decide +kernel
theorem dJ2_newBytesLength_0f7a4_56 : decode cJ2_newBytesLength_0f7a4 56 = .ok (.iconst 1, 1) := by decide +kernel
theorem dJ2_newBytesLength_0f7a4_57 : decode cJ2_newBytesLength_0f7a4 57 = .ok (.ishl, 1) := by decide +kernel
theorem dJ2_newBytesLength_0f7a4_58 : decode cJ2_newBytesLength_0f7a4 58 = .ok (.ireturn, 1) := by decide +kernel
theorem dJ2_putChar_b72d1_0 : decode cJ2_putChar_b72d1 0 = .ok (.getstatic 44, 3) := by decide +kernel
theorem dJ2_putChar_b72d1_3 : decode cJ2_putChar_b72d1 3 = .ok (.ifCond .ne 25, 3) := by decide +kernel
theorem dJ2_putChar_b72d1_6 : decode cJ2_putChar_b72d1 6 = .ok (.iload_n 1, 1) := by decide +kernel
theorem dJ2_putChar_b72d1_7 : decode cJ2_putChar_b72d1 7 = .ok (.ifCond .lt 11, 3) := by decide +kernel
theorem dJ2_putChar_b72d1_10 : decode cJ2_putChar_b72d1 10 = .ok (.iload_n 1, 1) := by decide +kernel
theorem dJ2_putChar_b72d1_11 : decode cJ2_putChar_b72d1 11 = .ok (.aload_n 0, 1) := by decide +kernel
theorem dJ2_putChar_b72d1_12 : decode cJ2_putChar_b72d1 12 = .ok (.invokestatic 48, 3) := by decide +kernel
theorem dJ2_putChar_b72d1_15 : decode cJ2_putChar_b72d1 15 = .ok (.if_icmp .lt 13, 3) := by decide +kernel
theorem dJ2_putChar_b72d1_18 : decode cJ2_putChar_b72d1 18 = .ok (.new 52, 3) := by decide +kernel
theorem dJ2_putChar_b72d1_21 : decode cJ2_putChar_b72d1 21 = .ok (.dup, 1) := by decide +kernel
theorem dJ2_putChar_b72d1_22 : decode cJ2_putChar_b72d1 22 = .ok (.ldc 54, 2) := by decide +kernel
theorem dJ2_putChar_b72d1_24 : decode cJ2_putChar_b72d1 24 = .ok (.invokespecial 56, 3) := by decide +kernel
theorem dJ2_putChar_b72d1_27 : decode cJ2_putChar_b72d1 27 = .ok (.athrow, 1) := by decide +kernel
theorem dJ2_putChar_b72d1_28 : decode cJ2_putChar_b72d1 28 = .ok (.iload_n 1, 1) := by decide +kernel
theorem dJ2_putChar_b72d1_29 : decode cJ2_putChar_b72d1 29 = .ok (.iconst 1, 1) := by decide +kernel
theorem dJ2_putChar_b72d1_30 : decode cJ2_putChar_b72d1 30 = .ok (.ishl, 1) := by decide +kernel
theorem dJ2_putChar_b72d1_31 : decode cJ2_putChar_b72d1 31 = .ok (.istore_n 1, 1) := by decide +kernel
theorem dJ2_putChar_b72d1_32 : decode cJ2_putChar_b72d1 32 = .ok (.aload_n 0, 1) := by decide +kernel
theorem dJ2_putChar_b72d1_33 : decode cJ2_putChar_b72d1 33 = .ok (.iload_n 1, 1) := by decide +kernel
theorem dJ2_putChar_b72d1_34 : decode cJ2_putChar_b72d1 34 = .ok (.iinc 1 1, 3) := by decide +kernel
theorem dJ2_putChar_b72d1_37 : decode cJ2_putChar_b72d1 37 = .ok (.iload_n 2, 1) := by decide +kernel
theorem dJ2_putChar_b72d1_38 : decode cJ2_putChar_b72d1 38 = .ok (.getstatic 59, 3) := by decide +kernel
theorem dJ2_putChar_b72d1_41 : decode cJ2_putChar_b72d1 41 = .ok (.ishr, 1) := by decide +kernel
theorem dJ2_putChar_b72d1_42 : decode cJ2_putChar_b72d1 42 = .ok (.i2b, 1) := by decide +kernel
theorem dJ2_putChar_b72d1_43 : decode cJ2_putChar_b72d1 43 = .ok (.bastore, 1) := by decide +kernel
theorem dJ2_putChar_b72d1_44 : decode cJ2_putChar_b72d1 44 = .ok (.aload_n 0, 1) := by decide +kernel
theorem dJ2_putChar_b72d1_45 : decode cJ2_putChar_b72d1 45 = .ok (.iload_n 1, 1) := by decide +kernel
theorem dJ2_putChar_b72d1_46 : decode cJ2_putChar_b72d1 46 = .ok (.iload_n 2, 1) := by decide +kernel
theorem dJ2_putChar_b72d1_47 : decode cJ2_putChar_b72d1 47 = .ok (.getstatic 63, 3) := by decide +kernel
theorem dJ2_putChar_b72d1_50 : decode cJ2_putChar_b72d1 50 = .ok (.ishr, 1) := by decide +kernel
theorem dJ2_putChar_b72d1_51 : decode cJ2_putChar_b72d1 51 = .ok (.i2b, 1) := by decide +kernel
theorem dJ2_putChar_b72d1_52 : decode cJ2_putChar_b72d1 52 = .ok (.bastore, 1) := by decide +kernel
theorem dJ2_putChar_b72d1_53 : decode cJ2_putChar_b72d1 53 = .ok (.return_, 1) := by decide +kernel
theorem dJ2_getChar_3b067_0 : decode cJ2_getChar_3b067 0 = .ok (.getstatic 44, 3) := by decide +kernel
theorem dJ2_getChar_3b067_3 : decode cJ2_getChar_3b067 3 = .ok (.ifCond .ne 25, 3) := by decide +kernel
theorem dJ2_getChar_3b067_6 : decode cJ2_getChar_3b067 6 = .ok (.iload_n 1, 1) := by decide +kernel
theorem dJ2_getChar_3b067_7 : decode cJ2_getChar_3b067 7 = .ok (.ifCond .lt 11, 3) := by decide +kernel
theorem dJ2_getChar_3b067_10 : decode cJ2_getChar_3b067 10 = .ok (.iload_n 1, 1) := by decide +kernel
theorem dJ2_getChar_3b067_11 : decode cJ2_getChar_3b067 11 = .ok (.aload_n 0, 1) := by decide +kernel
theorem dJ2_getChar_3b067_12 : decode cJ2_getChar_3b067 12 = .ok (.invokestatic 48, 3) := by decide +kernel
theorem dJ2_getChar_3b067_15 : decode cJ2_getChar_3b067 15 = .ok (.if_icmp .lt 13, 3) := by decide +kernel
theorem dJ2_getChar_3b067_18 : decode cJ2_getChar_3b067 18 = .ok (.new 52, 3) := by decide +kernel
theorem dJ2_getChar_3b067_21 : decode cJ2_getChar_3b067 21 = .ok (.dup, 1) := by decide +kernel
theorem dJ2_getChar_3b067_22 : decode cJ2_getChar_3b067 22 = .ok (.ldc 54, 2) := by decide +kernel
theorem dJ2_getChar_3b067_24 : decode cJ2_getChar_3b067 24 = .ok (.invokespecial 56, 3) := by decide +kernel
theorem dJ2_getChar_3b067_27 : decode cJ2_getChar_3b067 27 = .ok (.athrow, 1) := by decide +kernel
theorem dJ2_getChar_3b067_28 : decode cJ2_getChar_3b067 28 = .ok (.iload_n 1, 1) := by decide +kernel
theorem dJ2_getChar_3b067_29 : decode cJ2_getChar_3b067 29 = .ok (.iconst 1, 1) := by decide +kernel
theorem dJ2_getChar_3b067_30 : decode cJ2_getChar_3b067 30 = .ok (.ishl, 1) := by decide +kernel
theorem dJ2_getChar_3b067_31 : decode cJ2_getChar_3b067 31 = .ok (.istore_n 1, 1) := by decide +kernel
theorem dJ2_getChar_3b067_32 : decode cJ2_getChar_3b067 32 = .ok (.aload_n 0, 1) := by decide +kernel
theorem dJ2_getChar_3b067_33 : decode cJ2_getChar_3b067 33 = .ok (.iload_n 1, 1) := by decide +kernel
theorem dJ2_getChar_3b067_34 : decode cJ2_getChar_3b067 34 = .ok (.iinc 1 1, 3) := by decide +kernel
theorem dJ2_getChar_3b067_37 : decode cJ2_getChar_3b067 37 = .ok (.baload, 1) := by decide +kernel
theorem dJ2_getChar_3b067_38 : decode cJ2_getChar_3b067 38 = .ok (.sipush 255, 3) := by decide +kernel
theorem dJ2_getChar_3b067_41 : decode cJ2_getChar_3b067 41 = .ok (.iand, 1) := by decide +kernel
theorem dJ2_getChar_3b067_42 : decode cJ2_getChar_3b067 42 = .ok (.getstatic 59, 3) := by decide +kernel
theorem dJ2_getChar_3b067_45 : decode cJ2_getChar_3b067 45 = .ok (.ishl, 1) := by decide +kernel
theorem dJ2_getChar_3b067_46 : decode cJ2_getChar_3b067 46 = .ok (.aload_n 0, 1) := by decide +kernel
theorem dJ2_getChar_3b067_47 : decode cJ2_getChar_3b067 47 = .ok (.iload_n 1, 1) := by decide +kernel
theorem dJ2_getChar_3b067_48 : decode cJ2_getChar_3b067 48 = .ok (.baload, 1) := by decide +kernel
theorem dJ2_getChar_3b067_49 : decode cJ2_getChar_3b067 49 = .ok (.sipush 255, 3) := by decide +kernel
theorem dJ2_getChar_3b067_52 : decode cJ2_getChar_3b067 52 = .ok (.iand, 1) := by decide +kernel
theorem dJ2_getChar_3b067_53 : decode cJ2_getChar_3b067 53 = .ok (.getstatic 63, 3) := by decide +kernel
theorem dJ2_getChar_3b067_56 : decode cJ2_getChar_3b067 56 = .ok (.ishl, 1) := by decide +kernel
theorem dJ2_getChar_3b067_57 : decode cJ2_getChar_3b067 57 = .ok (.ior, 1) := by decide +kernel
theorem dJ2_getChar_3b067_58 : decode cJ2_getChar_3b067 58 = .ok (.i2c, 1) := by decide +kernel
theorem dJ2_getChar_3b067_59 : decode cJ2_getChar_3b067 59 = .ok (.ireturn, 1) := by decide +kernel
theorem dJ2_length_9d52b_0 : decode cJ2_length_9d52b 0 = .ok (.aload_n 0, 1) := by decide +kernel
theorem dJ2_length_9d52b_1 : decode cJ2_length_9d52b 1 = .ok (.arraylength, 1) := by decide +kernel
theorem dJ2_length_9d52b_2 : decode cJ2_length_9d52b 2 = .ok (.iconst 1, 1) := by decide +kernel
theorem dJ2_length_9d52b_3 : decode cJ2_length_9d52b 3 = .ok (.ishr, 1) := by decide +kernel
theorem dJ2_length_9d52b_4 : decode cJ2_length_9d52b 4 = .ok (.ireturn, 1) := by decide +kernel
theorem dJ2_coderFromArrayLen_85cad_0 : decode cJ2_coderFromArrayLen_85cad 0 = .ok (.iload_n 1, 1) := by decide +kernel
theorem dJ2_coderFromArrayLen_85cad_1 : decode cJ2_coderFromArrayLen_85cad 1 = .ok (.aload_n 0, 1) := by decide +kernel
theorem dJ2_coderFromArrayLen_85cad_2 : decode cJ2_coderFromArrayLen_85cad 2 = .ok (.arraylength, 1) := by decide +kernel
theorem dJ2_coderFromArrayLen_85cad_3 : decode cJ2_coderFromArrayLen_85cad 3 = .ok (.isub, 1) := by decide +kernel
theorem dJ2_coderFromArrayLen_85cad_4 : decode cJ2_coderFromArrayLen_85cad 4 = .ok (.bipush 31, 2) := by decide +kernel
theorem dJ2_coderFromArrayLen_85cad_6 : decode cJ2_coderFromArrayLen_85cad 6 = .ok (.iushr, 1) := by decide +kernel
theorem dJ2_coderFromArrayLen_85cad_7 : decode cJ2_coderFromArrayLen_85cad 7 = .ok (.i2b, 1) := by decide +kernel
theorem dJ2_coderFromArrayLen_85cad_8 : decode cJ2_coderFromArrayLen_85cad 8 = .ok (.ireturn, 1) := by decide +kernel
theorem dJ2_compress_39247_0 : decode cJ2_compress_39247 0 = .ok (.iload_n 2, 1) := by decide +kernel
theorem dJ2_compress_39247_1 : decode cJ2_compress_39247 1 = .ok (.newarray .byte, 2) := by decide +kernel
theorem dJ2_compress_39247_3 : decode cJ2_compress_39247 3 = .ok (.astore_n 3, 1) := by decide +kernel
theorem dJ2_compress_39247_4 : decode cJ2_compress_39247 4 = .ok (.aload_n 0, 1) := by decide +kernel
theorem dJ2_compress_39247_5 : decode cJ2_compress_39247 5 = .ok (.iload_n 1, 1) := by decide +kernel
theorem dJ2_compress_39247_6 : decode cJ2_compress_39247 6 = .ok (.aload_n 3, 1) := by decide +kernel
theorem dJ2_compress_39247_7 : decode cJ2_compress_39247 7 = .ok (.iconst 0, 1) := by decide +kernel
theorem dJ2_compress_39247_8 : decode cJ2_compress_39247 8 = .ok (.iload_n 2, 1) := by decide +kernel
theorem dJ2_compress_39247_9 : decode cJ2_compress_39247 9 = .ok (.invokestatic 123, 3) := by decide +kernel
theorem dJ2_compress_39247_12 : decode cJ2_compress_39247 12 = .ok (.istore 4, 2) := by decide +kernel
theorem dJ2_compress_39247_14 : decode cJ2_compress_39247 14 = .ok (.iload 4, 2) := by decide +kernel
theorem dJ2_compress_39247_16 : decode cJ2_compress_39247 16 = .ok (.iload_n 2, 1) := by decide +kernel
theorem dJ2_compress_39247_17 : decode cJ2_compress_39247 17 = .ok (.if_icmp .eq 47, 3) := by decide +kernel
theorem dJ2_compress_39247_20 : decode cJ2_compress_39247 20 = .ok (.aload_n 0, 1) := by decide +kernel
theorem dJ2_compress_39247_21 : decode cJ2_compress_39247 21 = .ok (.iload_n 1, 1) := by decide +kernel
theorem dJ2_compress_39247_22 : decode cJ2_compress_39247 22 = .ok (.iconst 1, 1) := by decide +kernel
theorem dJ2_compress_39247_23 : decode cJ2_compress_39247 23 = .ok (.ishl, 1) := by decide +kernel
theorem dJ2_compress_39247_24 : decode cJ2_compress_39247 24 = .ok (.iload_n 1, 1) := by decide +kernel
theorem dJ2_compress_39247_25 : decode cJ2_compress_39247 25 = .ok (.iload_n 2, 1) := by decide +kernel
theorem dJ2_compress_39247_26 : decode cJ2_compress_39247 26 = .ok (.iadd, 1) := by decide +kernel
