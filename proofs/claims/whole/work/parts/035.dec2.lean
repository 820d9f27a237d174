theorem dX8_make_123 : decode cX8_make 123 = .ok (.getfield 26, 3) := by decide +kernel
theorem dX8_make_126 : decode cX8_make 126 = .ok (.if_icmp .ge 54, 3) := by decide +kernel
theorem dX8_make_129 : decode cX8_make 129 = .ok (.new 9, 3) := by decide +kernel
theorem dX8_make_132 : decode cX8_make 132 = .ok (.dup, 1) := by decide +kernel
theorem dX8_make_133 : decode cX8_make 133 = .ok (.aload_n 1, 1) := by decide +kernel
theorem dX8_make_134 : decode cX8_make 134 = .ok (.iload 7, 2) := by decide +kernel
theorem dX8_make_136 : decode cX8_make 136 = .ok (.invokevirtual 32, 3) := by decide +kernel
theorem dX8_make_139 : decode cX8_make 139 = .ok (.aload_n 3, 1) := by decide +kernel
theorem dX8_make_140 : decode cX8_make 140 = .ok (.iload_n 2, 1) := by decide +kernel
theorem dX8_make_141 : decode cX8_make 141 = .ok (.ifCond .ne 14, 3) := by decide +kernel
theorem dX8_make_144 : decode cX8_make 144 = .ok (.iload 7, 2) := by decide +kernel
theorem dX8_make_146 : decode cX8_make 146 = .ok (.aload_n 1, 1) := by decide +kernel
theorem dX8_make_147 : decode cX8_make 147 = .ok (.getfield 26, 3) := by decide +kernel
theorem dX8_make_150 : decode cX8_make 150 = .ok (.iconst 1, 1) := by decide +kernel
theorem dX8_make_151 : decode cX8_make 151 = .ok (.isub, 1) := by decide +kernel
theorem dX8_make_152 : decode cX8_make 152 = .ok (.if_icmp .ge 7, 3) := by decide +kernel
theorem dX8_make_155 : decode cX8_make 155 = .ok (.iconst 1, 1) := by decide +kernel
theorem dX8_make_156 : decode cX8_make 156 = .ok (.goto 4, 3) := by decide +kernel
theorem dX8_make_159 : decode cX8_make 159 = .ok (.iconst 0, 1) := by decide +kernel
theorem dX8_make_160 : decode cX8_make 160 = .ok (.invokespecial 13, 3) := by decide +kernel
theorem dX8_make_163 : decode cX8_make 163 = .ok (.astore 8, 2) := by decide +kernel
theorem dX8_make_165 : decode cX8_make 165 = .ok (.aload_n 3, 1) := by decide +kernel
theorem dX8_make_166 : decode cX8_make 166 = .ok (.aload 8, 2) := by decide +kernel
theorem dX8_make_168 : decode cX8_make 168 = .ok (.invokevirtual 55, 3) := by decide +kernel
theorem dX8_make_171 : decode cX8_make 171 = .ok (.aload 8, 2) := by decide +kernel
theorem dX8_make_173 : decode cX8_make 173 = .ok (.astore_n 3, 1) := by decide +kernel
theorem dX8_make_174 : decode cX8_make 174 = .ok (.iinc 7 1, 3) := by decide +kernel
theorem dX8_make_177 : decode cX8_make 177 = .ok (.goto (-57), 3) := by decide +kernel
theorem dX8_make_180 : decode cX8_make 180 = .ok (.aload_n 0, 1) := by decide +kernel
theorem dX8_make_181 : decode cX8_make 181 = .ok (.dup, 1) := by decide +kernel
theorem dX8_make_182 : decode cX8_make 182 = .ok (.getfield 50, 3) := by decide +kernel
theorem dX8_make_185 : decode cX8_make 185 = .ok (.iload 6, 2) := by decide +kernel
theorem dX8_make_187 : decode cX8_make 187 = .ok (.iadd, 1) := by decide +kernel
theorem dX8_make_188 : decode cX8_make 188 = .ok (.putfield 50, 3) := by decide +kernel
theorem dX8_make_191 : decode cX8_make 191 = .ok (.iload 6, 2) := by decide +kernel
theorem dX8_make_193 : decode cX8_make 193 = .ok (.ireturn, 1) := by decide +kernel
theorem dX8_cut_0 : decode cX8_cut 0 = .ok (.aload_n 1, 1) := by decide +kernel
theorem dX8_cut_1 : decode cX8_cut 1 = .ok (.iconst 0, 1) := by decide +kernel
theorem dX8_cut_2 : decode cX8_cut 2 = .ok (.invokestatic 59, 3) := by decide +kernel
theorem dX8_cut_5 : decode cX8_cut 5 = .ok (.istore_n 2, 1) := by decide +kernel
theorem dX8_cut_6 : decode cX8_cut 6 = .ok (.aload_n 1, 1) := by decide +kernel
theorem dX8_cut_7 : decode cX8_cut 7 = .ok (.getfield 63, 3) := by decide +kernel
theorem dX8_cut_10 : decode cX8_cut 10 = .ok (.ifnull 11, 3) := by decide +kernel
theorem dX8_cut_13 : decode cX8_cut 13 = .ok (.aload_n 1, 1) := by decide +kernel
theorem dX8_cut_14 : decode cX8_cut 14 = .ok (.getfield 63, 3) := by decide +kernel
theorem dX8_cut_17 : decode cX8_cut 17 = .ok (.aload_n 1, 1) := by decide +kernel
theorem dX8_cut_18 : decode cX8_cut 18 = .ok (.invokevirtual 66, 3) := by decide +kernel
theorem dX8_cut_21 : decode cX8_cut 21 = .ok (.aload_n 0, 1) := by decide +kernel
theorem dX8_cut_22 : decode cX8_cut 22 = .ok (.dup, 1) := by decide +kernel
theorem dX8_cut_23 : decode cX8_cut 23 = .ok (.getfield 50, 3) := by decide +kernel
theorem dX8_cut_26 : decode cX8_cut 26 = .ok (.iload_n 2, 1) := by decide +kernel
theorem dX8_cut_27 : decode cX8_cut 27 = .ok (.isub, 1) := by decide +kernel
theorem dX8_cut_28 : decode cX8_cut 28 = .ok (.putfield 50, 3) := by decide +kernel
theorem dX8_cut_31 : decode cX8_cut 31 = .ok (.iload_n 2, 1) := by decide +kernel
theorem dX8_cut_32 : decode cX8_cut 32 = .ok (.ireturn, 1) := by decide +kernel
theorem dX8_size_0 : decode cX8_size 0 = .ok (.iconst 1, 1) := by decide +kernel
theorem dX8_size_1 : decode cX8_size 1 = .ok (.istore_n 2, 1) := by decide +kernel
theorem dX8_size_2 : decode cX8_size 2 = .ok (.iconst 0, 1) := by decide +kernel
theorem dX8_size_3 : decode cX8_size 3 = .ok (.istore_n 3, 1) := by decide +kernel
theorem dX8_size_4 : decode cX8_size 4 = .ok (.iload_n 3, 1) := by decide +kernel
theorem dX8_size_5 : decode cX8_size 5 = .ok (.aload_n 0, 1) := by decide +kernel
theorem dX8_size_6 : decode cX8_size 6 = .ok (.getfield 69, 3) := by decide +kernel
theorem dX8_size_9 : decode cX8_size 9 = .ok (.invokevirtual 73, 3) := by decide +kernel
theorem dX8_size_12 : decode cX8_size 12 = .ok (.if_icmp .ge 35, 3) := by decide +kernel
theorem dX8_size_15 : decode cX8_size 15 = .ok (.iload_n 1, 1) := by decide +kernel
theorem dX8_size_16 : decode cX8_size 16 = .ok (.bipush 6, 2) := by decide +kernel
theorem dX8_size_18 : decode cX8_size 18 = .ok (.if_icmp .ge 29, 3) := by decide +kernel
theorem dX8_size_21 : decode cX8_size 21 = .ok (.iload_n 2, 1) := by decide +kernel
theorem dX8_size_22 : decode cX8_size 22 = .ok (.aload_n 0, 1) := by decide +kernel
theorem dX8_size_23 : decode cX8_size 23 = .ok (.getfield 69, 3) := by decide +kernel
theorem dX8_size_26 : decode cX8_size 26 = .ok (.iload_n 3, 1) := by decide +kernel
theorem dX8_size_27 : decode cX8_size 27 = .ok (.invokevirtual 78, 3) := by decide +kernel
theorem dX8_size_30 : decode cX8_size 30 = .ok (.checkcast 9, 3) := by decide +kernel
theorem dX8_size_33 : decode cX8_size 33 = .ok (.iload_n 1, 1) := by decide +kernel
theorem dX8_size_34 : decode cX8_size 34 = .ok (.iconst 1, 1) := by decide +kernel
theorem dX8_size_35 : decode cX8_size 35 = .ok (.iadd, 1) := by decide +kernel
theorem dX8_size_36 : decode cX8_size 36 = .ok (.invokestatic 59, 3) := by decide +kernel
theorem dX8_size_39 : decode cX8_size 39 = .ok (.iadd, 1) := by decide +kernel
theorem dX8_size_40 : decode cX8_size 40 = .ok (.istore_n 2, 1) := by decide +kernel
theorem dX8_size_41 : decode cX8_size 41 = .ok (.iinc 3 1, 3) := by decide +kernel
theorem dX8_size_44 : decode cX8_size 44 = .ok (.goto (-40), 3) := by decide +kernel
theorem dX8_size_47 : decode cX8_size 47 = .ok (.iload_n 2, 1) := by decide +kernel
theorem dX8_size_48 : decode cX8_size 48 = .ok (.ireturn, 1) := by decide +kernel
theorem dX9_init_0 : decode cX9_init 0 = .ok (.aload_n 0, 1) := by decide +kernel
theorem dX9_init_1 : decode cX9_init 1 = .ok (.invokespecial 3, 3) := by decide +kernel
theorem dX9_init_4 : decode cX9_init 4 = .ok (.aload_n 0, 1) := by decide +kernel
theorem dX9_init_5 : decode cX9_init 5 = .ok (.new 9, 3) := by decide +kernel
theorem dX9_init_8 : decode cX9_init 8 = .ok (.dup, 1) := by decide +kernel
theorem dX9_init_9 : decode cX9_init 9 = .ok (.invokespecial 11, 3) := by decide +kernel
theorem dX9_init_12 : decode cX9_init 12 = .ok (.putfield 12, 3) := by decide +kernel
theorem dX9_init_15 : decode cX9_init 15 = .ok (.aload_n 0, 1) := by decide +kernel
theorem dX9_init_16 : decode cX9_init 16 = .ok (.new 18, 3) := by decide +kernel
theorem dX9_init_19 : decode cX9_init 19 = .ok (.dup, 1) := by decide +kernel
theorem dX9_init_20 : decode cX9_init 20 = .ok (.invokespecial 20, 3) := by decide +kernel
theorem dX9_init_23 : decode cX9_init 23 = .ok (.putfield 21, 3) := by decide +kernel
theorem dX9_init_26 : decode cX9_init 26 = .ok (.return_, 1) := by decide +kernel
theorem dX9_lookInto_0 : decode cX9_lookInto 0 = .ok (.aload_n 1, 1) := by decide +kernel
theorem dX9_lookInto_1 : decode cX9_lookInto 1 = .ok (.aload_n 2, 1) := by decide +kernel
theorem dX9_lookInto_2 : decode cX9_lookInto 2 = .ok (.invokevirtual 25, 3) := by decide +kernel
theorem dX9_lookInto_5 : decode cX9_lookInto 5 = .ok (.ifCond .eq 16, 3) := by decide +kernel
theorem dX9_lookInto_8 : decode cX9_lookInto 8 = .ok (.aload_n 0, 1) := by decide +kernel
theorem dX9_lookInto_9 : decode cX9_lookInto 9 = .ok (.getfield 12, 3) := by decide +kernel
theorem dX9_lookInto_12 : decode cX9_lookInto 12 = .ok (.dup, 1) := by decide +kernel
theorem dX9_lookInto_13 : decode cX9_lookInto 13 = .ok (.getfield 31, 3) := by decide +kernel
theorem dX9_lookInto_16 : decode cX9_lookInto 16 = .ok (.iconst 1, 1) := by decide +kernel
theorem dX9_lookInto_17 : decode cX9_lookInto 17 = .ok (.iadd, 1) := by decide +kernel
theorem dX9_lookInto_18 : decode cX9_lookInto 18 = .ok (.putfield 31, 3) := by decide +kernel
theorem dX9_lookInto_21 : decode cX9_lookInto 21 = .ok (.iconst 0, 1) := by decide +kernel
theorem dX9_lookInto_22 : decode cX9_lookInto 22 = .ok (.istore 4, 2) := by decide +kernel
theorem dX9_lookInto_24 : decode cX9_lookInto 24 = .ok (.iload 4, 2) := by decide +kernel
theorem dX9_lookInto_26 : decode cX9_lookInto 26 = .ok (.aload_n 2, 1) := by decide +kernel
theorem dX9_lookInto_27 : decode cX9_lookInto 27 = .ok (.getfield 35, 3) := by decide +kernel
theorem dX9_lookInto_30 : decode cX9_lookInto 30 = .ok (.invokevirtual 41, 3) := by decide +kernel
theorem dX9_lookInto_33 : decode cX9_lookInto 33 = .ok (.if_icmp .ge 47, 3) := by decide +kernel
theorem dX9_lookInto_36 : decode cX9_lookInto 36 = .ok (.iload_n 3, 1) := by decide +kernel
theorem dX9_lookInto_37 : decode cX9_lookInto 37 = .ok (.bipush 6, 2) := by decide +kernel
theorem dX9_lookInto_39 : decode cX9_lookInto 39 = .ok (.if_icmp .ge 41, 3) := by decide +kernel
theorem dX9_lookInto_42 : decode cX9_lookInto 42 = .ok (.aload_n 2, 1) := by decide +kernel
theorem dX9_lookInto_43 : decode cX9_lookInto 43 = .ok (.getfield 35, 3) := by decide +kernel
theorem dX9_lookInto_46 : decode cX9_lookInto 46 = .ok (.iload 4, 2) := by decide +kernel
theorem dX9_lookInto_48 : decode cX9_lookInto 48 = .ok (.invokevirtual 47, 3) := by decide +kernel
theorem dX9_lookInto_51 : decode cX9_lookInto 51 = .ok (.checkcast 36, 3) := by decide +kernel
theorem dX9_lookInto_54 : decode cX9_lookInto 54 = .ok (.astore 5, 2) := by decide +kernel
theorem dX9_lookInto_56 : decode cX9_lookInto 56 = .ok (.aload 5, 2) := by decide +kernel
theorem dX9_lookInto_58 : decode cX9_lookInto 58 = .ok (.getfield 51, 3) := by decide +kernel
theorem dX9_lookInto_61 : decode cX9_lookInto 61 = .ok (.ifCond .ne 13, 3) := by decide +kernel
theorem dX9_lookInto_64 : decode cX9_lookInto 64 = .ok (.aload_n 0, 1) := by decide +kernel
theorem dX9_lookInto_65 : decode cX9_lookInto 65 = .ok (.aload_n 1, 1) := by decide +kernel
theorem dX9_lookInto_66 : decode cX9_lookInto 66 = .ok (.aload 5, 2) := by decide +kernel
theorem dX9_lookInto_68 : decode cX9_lookInto 68 = .ok (.iload_n 3, 1) := by decide +kernel
theorem dX9_lookInto_69 : decode cX9_lookInto 69 = .ok (.iconst 1, 1) := by decide +kernel
theorem dX9_lookInto_70 : decode cX9_lookInto 70 = .ok (.iadd, 1) := by decide +kernel
theorem dX9_lookInto_71 : decode cX9_lookInto 71 = .ok (.invokevirtual 55, 3) := by decide +kernel
theorem dX9_lookInto_74 : decode cX9_lookInto 74 = .ok (.iinc 4 1, 3) := by decide +kernel
theorem dX9_lookInto_77 : decode cX9_lookInto 77 = .ok (.goto (-53), 3) := by decide +kernel
theorem dX9_lookInto_80 : decode cX9_lookInto 80 = .ok (.return_, 1) := by decide +kernel
theorem dX9_passBy_0 : decode cX9_passBy 0 = .ok (.aload_n 0, 1) := by decide +kernel
theorem dX9_passBy_1 : decode cX9_passBy 1 = .ok (.getfield 21, 3) := by decide +kernel
theorem dX9_passBy_4 : decode cX9_passBy 4 = .ok (.invokevirtual 59, 3) := by decide +kernel
theorem dX9_passBy_7 : decode cX9_passBy 7 = .ok (.istore 4, 2) := by decide +kernel
theorem dX9_passBy_9 : decode cX9_passBy 9 = .ok (.iload 4, 2) := by decide +kernel
theorem dX9_passBy_11 : decode cX9_passBy 11 = .ok (.ifCond .le 13, 3) := by decide +kernel
theorem dX9_passBy_14 : decode cX9_passBy 14 = .ok (.aload_n 0, 1) := by decide +kernel
theorem dX9_passBy_15 : decode cX9_passBy 15 = .ok (.getfield 21, 3) := by decide +kernel
theorem dX9_passBy_18 : decode cX9_passBy 18 = .ok (.bipush 47, 2) := by decide +kernel
theorem dX9_passBy_20 : decode cX9_passBy 20 = .ok (.invokevirtual 62, 3) := by decide +kernel
theorem dX9_passBy_23 : decode cX9_passBy 23 = .ok (.pop, 1) := by decide +kernel
theorem dX9_passBy_24 : decode cX9_passBy 24 = .ok (.aload_n 0, 1) := by decide +kernel
theorem dX9_passBy_25 : decode cX9_passBy 25 = .ok (.getfield 21, 3) := by decide +kernel
theorem dX9_passBy_28 : decode cX9_passBy 28 = .ok (.aload_n 2, 1) := by decide +kernel
theorem dX9_passBy_29 : decode cX9_passBy 29 = .ok (.getfield 66, 3) := by decide +kernel
theorem dX9_passBy_32 : decode cX9_passBy 32 = .ok (.invokevirtual 70, 3) := by decide +kernel
theorem dX9_passBy_35 : decode cX9_passBy 35 = .ok (.pop, 1) := by decide +kernel
theorem dX9_passBy_36 : decode cX9_passBy 36 = .ok (.aload_n 1, 1) := by decide +kernel
theorem dX9_passBy_37 : decode cX9_passBy 37 = .ok (.aload_n 2, 1) := by decide +kernel
theorem dX9_passBy_38 : decode cX9_passBy 38 = .ok (.getfield 66, 3) := by decide +kernel
theorem dX9_passBy_41 : decode cX9_passBy 41 = .ok (.iload_n 3, 1) := by decide +kernel
theorem dX9_passBy_42 : decode cX9_passBy 42 = .ok (.invokevirtual 73, 3) := by decide +kernel
theorem dX9_passBy_45 : decode cX9_passBy 45 = .ok (.aload_n 1, 1) := by decide +kernel
theorem dX9_passBy_46 : decode cX9_passBy 46 = .ok (.aload_n 2, 1) := by decide +kernel
theorem dX9_passBy_47 : decode cX9_passBy 47 = .ok (.getfield 77, 3) := by decide +kernel
theorem dX9_passBy_50 : decode cX9_passBy 50 = .ok (.iload_n 3, 1) := by decide +kernel
theorem dX9_passBy_51 : decode cX9_passBy 51 = .ok (.invokevirtual 80, 3) := by decide +kernel
theorem dX9_passBy_54 : decode cX9_passBy 54 = .ok (.ifCond .eq 14, 3) := by decide +kernel
theorem dX9_passBy_57 : decode cX9_passBy 57 = .ok (.aload_n 0, 1) := by decide +kernel
theorem dX9_passBy_58 : decode cX9_passBy 58 = .ok (.getfield 12, 3) := by decide +kernel
theorem dX9_passBy_61 : decode cX9_passBy 61 = .ok (.aload_n 0, 1) := by decide +kernel
theorem dX9_passBy_62 : decode cX9_passBy 62 = .ok (.getfield 21, 3) := by decide +kernel
theorem dX9_passBy_65 : decode cX9_passBy 65 = .ok (.invokevirtual 84, 3) := by decide +kernel
theorem dX9_passBy_68 : decode cX9_passBy 68 = .ok (.aload_n 2, 1) := by decide +kernel
theorem dX9_passBy_69 : decode cX9_passBy 69 = .ok (.getfield 77, 3) := by decide +kernel
theorem dX9_passBy_72 : decode cX9_passBy 72 = .ok (.ifCond .eq 18, 3) := by decide +kernel
theorem dX9_passBy_75 : decode cX9_passBy 75 = .ok (.aload_n 1, 1) := by decide +kernel
theorem dX9_passBy_76 : decode cX9_passBy 76 = .ok (.iload_n 3, 1) := by decide +kernel
theorem dX9_passBy_77 : decode cX9_passBy 77 = .ok (.invokevirtual 88, 3) := by decide +kernel
theorem dX9_passBy_80 : decode cX9_passBy 80 = .ok (.ifCond .eq 10, 3) := by decide +kernel
theorem dX9_passBy_83 : decode cX9_passBy 83 = .ok (.aload_n 0, 1) := by decide +kernel
theorem dX9_passBy_84 : decode cX9_passBy 84 = .ok (.aload_n 1, 1) := by decide +kernel
theorem dX9_passBy_85 : decode cX9_passBy 85 = .ok (.aload_n 2, 1) := by decide +kernel
theorem dX9_passBy_86 : decode cX9_passBy 86 = .ok (.iload_n 3, 1) := by decide +kernel
theorem dX9_passBy_87 : decode cX9_passBy 87 = .ok (.invokevirtual 92, 3) := by decide +kernel
theorem dX9_passBy_90 : decode cX9_passBy 90 = .ok (.aload_n 0, 1) := by decide +kernel
theorem dX9_passBy_91 : decode cX9_passBy 91 = .ok (.getfield 21, 3) := by decide +kernel
theorem dX9_passBy_94 : decode cX9_passBy 94 = .ok (.iload 4, 2) := by decide +kernel
theorem dX9_passBy_96 : decode cX9_passBy 96 = .ok (.invokevirtual 95, 3) := by decide +kernel
theorem dX9_passBy_99 : decode cX9_passBy 99 = .ok (.return_, 1) := by decide +kernel
theorem dX10_init_0 : decode cX10_init 0 = .ok (.aload_n 0, 1) := by decide +kernel
theorem dX10_init_1 : decode cX10_init 1 = .ok (.invokespecial 3, 3) := by decide +kernel
theorem dX10_init_4 : decode cX10_init 4 = .ok (.aload_n 0, 1) := by decide +kernel
theorem dX10_init_5 : decode cX10_init 5 = .ok (.new 9, 3) := by decide +kernel
theorem dX10_init_8 : decode cX10_init 8 = .ok (.dup, 1) := by decide +kernel
theorem dX10_init_9 : decode cX10_init 9 = .ok (.invokespecial 11, 3) := by decide +kernel
theorem dX10_init_12 : decode cX10_init 12 = .ok (.putfield 12, 3) := by decide +kernel
theorem dX10_init_15 : decode cX10_init 15 = .ok (.aload_n 0, 1) := by decide +kernel
theorem dX10_init_16 : decode cX10_init 16 = .ok (.new 16, 3) := by decide +kernel
theorem dX10_init_19 : decode cX10_init 19 = .ok (.dup, 1) := by decide +kernel
theorem dX10_init_20 : decode cX10_init 20 = .ok (.invokespecial 18, 3) := by decide +kernel
theorem dX10_init_23 : decode cX10_init 23 = .ok (.putfield 19, 3) := by decide +kernel
theorem dX10_init_26 : decode cX10_init 26 = .ok (.aload_n 0, 1) := by decide +kernel
theorem dX10_init_27 : decode cX10_init 27 = .ok (.new 23, 3) := by decide +kernel
theorem dX10_init_30 : decode cX10_init 30 = .ok (.dup, 1) := by decide +kernel
theorem dX10_init_31 : decode cX10_init 31 = .ok (.invokespecial 25, 3) := by decide +kernel
theorem dX10_init_34 : decode cX10_init 34 = .ok (.putfield 26, 3) := by decide +kernel
theorem dX10_init_37 : decode cX10_init 37 = .ok (.aload_n 0, 1) := by decide +kernel
theorem dX10_init_38 : decode cX10_init 38 = .ok (.new 30, 3) := by decide +kernel
theorem dX10_init_41 : decode cX10_init 41 = .ok (.dup, 1) := by decide +kernel
theorem dX10_init_42 : decode cX10_init 42 = .ok (.invokespecial 32, 3) := by decide +kernel
theorem dX10_init_45 : decode cX10_init 45 = .ok (.putfield 33, 3) := by decide +kernel
theorem dX10_init_48 : decode cX10_init 48 = .ok (.aload_n 0, 1) := by decide +kernel
theorem dX10_init_49 : decode cX10_init 49 = .ok (.iconst (-1), 1) := by decide +kernel
theorem dX10_init_50 : decode cX10_init 50 = .ok (.putfield 37, 3) := by decide +kernel
theorem dX10_init_53 : decode cX10_init 53 = .ok (.return_, 1) := by decide +kernel
theorem dX10_type_0 : decode cX10_type 0 = .ok (.iload_n 1, 1) := by decide +kernel
theorem dX10_type_1 : decode cX10_type 1 = .ok (.bipush 32, 2) := by decide +kernel
theorem dX10_type_3 : decode cX10_type 3 = .ok (.if_icmp .lt 21, 3) := by decide +kernel
theorem dX10_type_6 : decode cX10_type 6 = .ok (.iload_n 1, 1) := by decide +kernel
theorem dX10_type_7 : decode cX10_type 7 = .ok (.bipush 126, 2) := by decide +kernel
theorem dX10_type_9 : decode cX10_type 9 = .ok (.if_icmp .gt 15, 3) := by decide +kernel
theorem dX10_type_12 : decode cX10_type 12 = .ok (.aload_n 0, 1) := by decide +kernel
theorem dX10_type_13 : decode cX10_type 13 = .ok (.getfield 12, 3) := by decide +kernel
theorem dX10_type_16 : decode cX10_type 16 = .ok (.invokevirtual 41, 3) := by decide +kernel
theorem dX10_type_19 : decode cX10_type 19 = .ok (.bipush 60, 2) := by decide +kernel
theorem dX10_type_21 : decode cX10_type 21 = .ok (.if_icmp .lt 5, 3) := by decide +kernel
theorem dX10_type_24 : decode cX10_type 24 = .ok (.iconst 0, 1) := by decide +kernel
theorem dX10_type_25 : decode cX10_type 25 = .ok (.ireturn, 1) := by decide +kernel
theorem dX10_type_26 : decode cX10_type 26 = .ok (.aload_n 0, 1) := by decide +kernel
theorem dX10_type_27 : decode cX10_type 27 = .ok (.getfield 12, 3) := by decide +kernel
theorem dX10_type_30 : decode cX10_type 30 = .ok (.iload_n 1, 1) := by decide +kernel
theorem dX10_type_31 : decode cX10_type 31 = .ok (.invokevirtual 45, 3) := by decide +kernel
theorem dX10_type_34 : decode cX10_type 34 = .ok (.pop, 1) := by decide +kernel
theorem dX10_type_35 : decode cX10_type 35 = .ok (.iconst 1, 1) := by decide +kernel
theorem dX10_type_36 : decode cX10_type 36 = .ok (.ireturn, 1) := by decide +kernel
theorem dX10_file_0 : decode cX10_file 0 = .ok (.aload_n 0, 1) := by decide +kernel
theorem dX10_file_1 : decode cX10_file 1 = .ok (.getfield 19, 3) := by decide +kernel
theorem dX10_file_4 : decode cX10_file 4 = .ok (.aload_n 0, 1) := by decide +kernel
theorem dX10_file_5 : decode cX10_file 5 = .ok (.invokevirtual 49, 3) := by decide +kernel
theorem dX10_file_8 : decode cX10_file 8 = .ok (.iconst 0, 1) := by decide +kernel
theorem dX10_file_9 : decode cX10_file 9 = .ok (.invokevirtual 53, 3) := by decide +kernel
theorem dX10_file_12 : decode cX10_file 12 = .ok (.ireturn, 1) := by decide +kernel
theorem dX10_folder_0 : decode cX10_folder 0 = .ok (.aload_n 0, 1) := by decide +kernel
theorem dX10_folder_1 : decode cX10_folder 1 = .ok (.getfield 19, 3) := by decide +kernel
theorem dX10_folder_4 : decode cX10_folder 4 = .ok (.aload_n 0, 1) := by decide +kernel
theorem dX10_folder_5 : decode cX10_folder 5 = .ok (.invokevirtual 49, 3) := by decide +kernel
theorem dX10_folder_8 : decode cX10_folder 8 = .ok (.iconst 1, 1) := by decide +kernel
theorem dX10_folder_9 : decode cX10_folder 9 = .ok (.invokevirtual 53, 3) := by decide +kernel
theorem dX10_folder_12 : decode cX10_folder 12 = .ok (.ireturn, 1) := by decide +kernel
theorem dX10_remove_0 : decode cX10_remove 0 = .ok (.aload_n 0, 1) := by decide +kernel
theorem dX10_remove_1 : decode cX10_remove 1 = .ok (.getfield 19, 3) := by decide +kernel
theorem dX10_remove_4 : decode cX10_remove 4 = .ok (.aload_n 0, 1) := by decide +kernel
theorem dX10_remove_5 : decode cX10_remove 5 = .ok (.invokevirtual 49, 3) := by decide +kernel
theorem dX10_remove_8 : decode cX10_remove 8 = .ok (.invokevirtual 57, 3) := by decide +kernel
theorem dX10_remove_11 : decode cX10_remove 11 = .ok (.astore_n 1, 1) := by decide +kernel
theorem dX10_remove_12 : decode cX10_remove 12 = .ok (.aload_n 1, 1) := by decide +kernel
theorem dX10_remove_13 : decode cX10_remove 13 = .ok (.ifnonnull 13, 3) := by decide +kernel
theorem dX10_remove_16 : decode cX10_remove 16 = .ok (.new 61, 3) := by decide +kernel
theorem dX10_remove_19 : decode cX10_remove 19 = .ok (.dup, 1) := by decide +kernel
theorem dX10_remove_20 : decode cX10_remove 20 = .ok (.ldc 63, 2) := by decide +kernel
theorem dX10_remove_22 : decode cX10_remove 22 = .ok (.invokespecial 65, 3) := by decide +kernel
theorem dX10_remove_25 : decode cX10_remove 25 = .ok (.athrow, 1) := by decide +kernel
theorem dX10_remove_26 : decode cX10_remove 26 = .ok (.aload_n 0, 1) := by decide +kernel
theorem dX10_remove_27 : decode cX10_remove 27 = .ok (.getfield 19, 3) := by decide +kernel
theorem dX10_remove_30 : decode cX10_remove 30 = .ok (.aload_n 1, 1) := by decide +kernel
theorem dX10_remove_31 : decode cX10_remove 31 = .ok (.invokevirtual 68, 3) := by decide +kernel
theorem dX10_remove_34 : decode cX10_remove 34 = .ok (.ireturn, 1) := by decide +kernel
theorem dX10_pack_0 : decode cX10_pack 0 = .ok (.aload_n 0, 1) := by decide +kernel
theorem dX10_pack_1 : decode cX10_pack 1 = .ok (.getfield 19, 3) := by decide +kernel
theorem dX10_pack_4 : decode cX10_pack 4 = .ok (.aload_n 0, 1) := by decide +kernel
theorem dX10_pack_5 : decode cX10_pack 5 = .ok (.invokevirtual 49, 3) := by decide +kernel
theorem dX10_pack_8 : decode cX10_pack 8 = .ok (.invokevirtual 57, 3) := by decide +kernel
theorem dX10_pack_11 : decode cX10_pack 11 = .ok (.astore_n 2, 1) := by decide +kernel
theorem dX10_pack_12 : decode cX10_pack 12 = .ok (.aload_n 2, 1) := by decide +kernel
theorem dX10_pack_13 : decode cX10_pack 13 = .ok (.ifnull 10, 3) := by decide +kernel
theorem dX10_pack_16 : decode cX10_pack 16 = .ok (.aload_n 2, 1) := by decide +kernel
theorem dX10_pack_17 : decode cX10_pack 17 = .ok (.getfield 72, 3) := by decide +kernel
theorem dX10_pack_20 : decode cX10_pack 20 = .ok (.ifCond .ne 13, 3) := by decide +kernel
theorem dX10_pack_23 : decode cX10_pack 23 = .ok (.new 61, 3) := by decide +kernel
theorem dX10_pack_26 : decode cX10_pack 26 = .ok (.dup, 1) := by decide +kernel
theorem dX10_pack_27 : decode cX10_pack 27 = .ok (.ldc 78, 2) := by decide +kernel
theorem dX10_pack_29 : decode cX10_pack 29 = .ok (.invokespecial 65, 3) := by decide +kernel
theorem dX10_pack_32 : decode cX10_pack 32 = .ok (.athrow, 1) := by decide +kernel
theorem dX10_pack_33 : decode cX10_pack 33 = .ok (.aload_n 2, 1) := by decide +kernel
theorem dX10_pack_34 : decode cX10_pack 34 = .ok (.getfield 80, 3) := by decide +kernel
theorem dX10_pack_37 : decode cX10_pack 37 = .ok (.iload_n 1, 1) := by decide +kernel
theorem dX10_pack_38 : decode cX10_pack 38 = .ok (.if_icmp .ne 13, 3) := by decide +kernel
theorem dX10_pack_41 : decode cX10_pack 41 = .ok (.new 61, 3) := by decide +kernel
theorem dX10_pack_44 : decode cX10_pack 44 = .ok (.dup, 1) := by decide +kernel
theorem dX10_pack_45 : decode cX10_pack 45 = .ok (.ldc 83, 2) := by decide +kernel
theorem dX10_pack_47 : decode cX10_pack 47 = .ok (.invokespecial 65, 3) := by decide +kernel
theorem dX10_pack_50 : decode cX10_pack 50 = .ok (.athrow, 1) := by decide +kernel
theorem dX10_pack_51 : decode cX10_pack 51 = .ok (.aload_n 2, 1) := by decide +kernel
theorem dX10_pack_52 : decode cX10_pack 52 = .ok (.iload_n 1, 1) := by decide +kernel
theorem dX10_pack_53 : decode cX10_pack 53 = .ok (.putfield 80, 3) := by decide +kernel
theorem dX10_pack_56 : decode cX10_pack 56 = .ok (.aload_n 2, 1) := by decide +kernel
theorem dX10_pack_57 : decode cX10_pack 57 = .ok (.getfield 85, 3) := by decide +kernel
theorem dX10_pack_60 : decode cX10_pack 60 = .ok (.ifnull 10, 3) := by decide +kernel
theorem dX10_pack_63 : decode cX10_pack 63 = .ok (.aload_n 2, 1) := by decide +kernel
theorem dX10_pack_64 : decode cX10_pack 64 = .ok (.getfield 85, 3) := by decide +kernel
theorem dX10_pack_67 : decode cX10_pack 67 = .ok (.invokevirtual 89, 3) := by decide +kernel
theorem dX10_pack_70 : decode cX10_pack 70 = .ok (.return_, 1) := by decide +kernel
theorem dX10_query_0 : decode cX10_query 0 = .ok (.aload_n 0, 1) := by decide +kernel
theorem dX10_query_1 : decode cX10_query 1 = .ok (.invokevirtual 92, 3) := by decide +kernel
theorem dX10_query_4 : decode cX10_query 4 = .ok (.astore_n 1, 1) := by decide +kernel
theorem dX10_query_5 : decode cX10_query 5 = .ok (.aload_n 1, 1) := by decide +kernel
theorem dX10_query_6 : decode cX10_query 6 = .ok (.invokevirtual 96, 3) := by decide +kernel
theorem dX10_query_9 : decode cX10_query 9 = .ok (.ifCond .eq 14, 3) := by decide +kernel
theorem dX10_query_12 : decode cX10_query 12 = .ok (.new 102, 3) := by decide +kernel
theorem dX10_query_15 : decode cX10_query 15 = .ok (.dup, 1) := by decide +kernel
theorem dX10_query_16 : decode cX10_query 16 = .ok (.aload_n 1, 1) := by decide +kernel
theorem dX10_query_17 : decode cX10_query 17 = .ok (.invokespecial 104, 3) := by decide +kernel
theorem dX10_query_20 : decode cX10_query 20 = .ok (.goto 7, 3) := by decide +kernel
theorem dX10_query_23 : decode cX10_query 23 = .ok (.aload_n 1, 1) := by decide +kernel
theorem dX10_query_24 : decode cX10_query 24 = .ok (.invokestatic 105, 3) := by decide +kernel
theorem dX10_query_27 : decode cX10_query 27 = .ok (.astore_n 2, 1) := by decide +kernel
theorem dX10_query_28 : decode cX10_query 28 = .ok (.aload_n 2, 1) := by decide +kernel
theorem dX10_query_29 : decode cX10_query 29 = .ok (.ifnonnull 13, 3) := by decide +kernel
theorem dX10_query_32 : decode cX10_query 32 = .ok (.new 109, 3) := by decide +kernel
theorem dX10_query_35 : decode cX10_query 35 = .ok (.dup, 1) := by decide +kernel
theorem dX10_query_36 : decode cX10_query 36 = .ok (.ldc 111, 2) := by decide +kernel
theorem dX10_query_38 : decode cX10_query 38 = .ok (.invokespecial 113, 3) := by decide +kernel
theorem dX10_query_41 : decode cX10_query 41 = .ok (.athrow, 1) := by decide +kernel
theorem dX10_query_42 : decode cX10_query 42 = .ok (.aload_n 0, 1) := by decide +kernel
theorem dX10_query_43 : decode cX10_query 43 = .ok (.getfield 26, 3) := by decide +kernel
theorem dX10_query_46 : decode cX10_query 46 = .ok (.invokevirtual 114, 3) := by decide +kernel
theorem dX10_query_49 : decode cX10_query 49 = .ok (.istore_n 3, 1) := by decide +kernel
theorem dX10_query_50 : decode cX10_query 50 = .ok (.iload_n 3, 1) := by decide +kernel
theorem dX10_query_51 : decode cX10_query 51 = .ok (.bipush 6, 2) := by decide +kernel
theorem dX10_query_53 : decode cX10_query 53 = .ok (.if_icmp .lt 13, 3) := by decide +kernel
theorem dX10_query_56 : decode cX10_query 56 = .ok (.new 61, 3) := by decide +kernel
theorem dX10_query_59 : decode cX10_query 59 = .ok (.dup, 1) := by decide +kernel
theorem dX10_query_60 : decode cX10_query 60 = .ok (.ldc 117, 2) := by decide +kernel
theorem dX10_query_62 : decode cX10_query 62 = .ok (.invokespecial 65, 3) := by decide +kernel
theorem dX10_query_65 : decode cX10_query 65 = .ok (.athrow, 1) := by decide +kernel
theorem dX10_query_66 : decode cX10_query 66 = .ok (.aload_n 0, 1) := by decide +kernel
theorem dX10_query_67 : decode cX10_query 67 = .ok (.getfield 26, 3) := by decide +kernel
theorem dX10_query_70 : decode cX10_query 70 = .ok (.new 119, 3) := by decide +kernel
theorem dX10_query_73 : decode cX10_query 73 = .ok (.dup, 1) := by decide +kernel
theorem dX10_query_74 : decode cX10_query 74 = .ok (.aload_n 2, 1) := by decide +kernel
theorem dX10_query_75 : decode cX10_query 75 = .ok (.iload_n 3, 1) := by decide +kernel
theorem dX10_query_76 : decode cX10_query 76 = .ok (.invokespecial 121, 3) := by decide +kernel
theorem dX10_query_79 : decode cX10_query 79 = .ok (.invokevirtual 124, 3) := by decide +kernel
theorem dX10_query_82 : decode cX10_query 82 = .ok (.pop, 1) := by decide +kernel
theorem dX10_query_83 : decode cX10_query 83 = .ok (.iload_n 3, 1) := by decide +kernel
theorem dX10_query_84 : decode cX10_query 84 = .ok (.ireturn, 1) := by decide +kernel
theorem dX10_pattern_0 : decode cX10_pattern 0 = .ok (.new 128, 3) := by decide +kernel
theorem dX10_pattern_3 : decode cX10_pattern 3 = .ok (.dup, 1) := by decide +kernel
theorem dX10_pattern_4 : decode cX10_pattern 4 = .ok (.aload_n 0, 1) := by decide +kernel
theorem dX10_pattern_5 : decode cX10_pattern 5 = .ok (.invokevirtual 92, 3) := by decide +kernel
theorem dX10_pattern_8 : decode cX10_pattern 8 = .ok (.iload_n 2, 1) := by decide +kernel
theorem dX10_pattern_9 : decode cX10_pattern 9 = .ok (.invokespecial 130, 3) := by decide +kernel
theorem dX10_pattern_12 : decode cX10_pattern 12 = .ok (.astore_n 3, 1) := by decide +kernel
theorem dX10_pattern_13 : decode cX10_pattern 13 = .ok (.aload_n 3, 1) := by decide +kernel
theorem dX10_pattern_14 : decode cX10_pattern 14 = .ok (.invokevirtual 133, 3) := by decide +kernel
theorem dX10_pattern_17 : decode cX10_pattern 17 = .ok (.aload_n 0, 1) := by decide +kernel
theorem dX10_pattern_18 : decode cX10_pattern 18 = .ok (.aload_n 3, 1) := by decide +kernel
theorem dX10_pattern_19 : decode cX10_pattern 19 = .ok (.getfield 135, 3) := by decide +kernel
theorem dX10_pattern_22 : decode cX10_pattern 22 = .ok (.putfield 37, 3) := by decide +kernel
theorem dX10_pattern_25 : decode cX10_pattern 25 = .ok (.aload_n 0, 1) := by decide +kernel
theorem dX10_pattern_26 : decode cX10_pattern 26 = .ok (.iload_n 1, 1) := by decide +kernel
theorem dX10_pattern_27 : decode cX10_pattern 27 = .ok (.invokevirtual 136, 3) := by decide +kernel
theorem dX10_pattern_30 : decode cX10_pattern 30 = .ok (.astore 4, 2) := by decide +kernel
theorem dX10_pattern_32 : decode cX10_pattern 32 = .ok (.aload 4, 2) := by decide +kernel
theorem dX10_pattern_34 : decode cX10_pattern 34 = .ok (.ifnonnull 13, 3) := by decide +kernel
theorem dX10_pattern_37 : decode cX10_pattern 37 = .ok (.new 109, 3) := by decide +kernel
theorem dX10_pattern_40 : decode cX10_pattern 40 = .ok (.dup, 1) := by decide +kernel
theorem dX10_pattern_41 : decode cX10_pattern 41 = .ok (.ldc 140, 2) := by decide +kernel
theorem dX10_pattern_43 : decode cX10_pattern 43 = .ok (.invokespecial 113, 3) := by decide +kernel
theorem dX10_pattern_46 : decode cX10_pattern 46 = .ok (.athrow, 1) := by decide +kernel
theorem dX10_pattern_47 : decode cX10_pattern 47 = .ok (.aload_n 0, 1) := by decide +kernel
theorem dX10_pattern_48 : decode cX10_pattern 48 = .ok (.getfield 37, 3) := by decide +kernel
theorem dX10_pattern_51 : decode cX10_pattern 51 = .ok (.iconst (-1), 1) := by decide +kernel
theorem dX10_pattern_52 : decode cX10_pattern 52 = .ok (.if_icmp .eq 13, 3) := by decide +kernel
theorem dX10_pattern_55 : decode cX10_pattern 55 = .ok (.new 109, 3) := by decide +kernel
theorem dX10_pattern_58 : decode cX10_pattern 58 = .ok (.dup, 1) := by decide +kernel
theorem dX10_pattern_59 : decode cX10_pattern 59 = .ok (.ldc 142, 2) := by decide +kernel
theorem dX10_pattern_61 : decode cX10_pattern 61 = .ok (.invokespecial 113, 3) := by decide +kernel
theorem dX10_pattern_64 : decode cX10_pattern 64 = .ok (.athrow, 1) := by decide +kernel
theorem dX10_pattern_65 : decode cX10_pattern 65 = .ok (.aload 4, 2) := by decide +kernel
theorem dX10_pattern_67 : decode cX10_pattern 67 = .ok (.iload_n 2, 1) := by decide +kernel
theorem dX10_pattern_68 : decode cX10_pattern 68 = .ok (.invokevirtual 144, 3) := by decide +kernel
theorem dX10_pattern_71 : decode cX10_pattern 71 = .ok (.ifCond .ne 13, 3) := by decide +kernel
theorem dX10_pattern_74 : decode cX10_pattern 74 = .ok (.new 61, 3) := by decide +kernel
theorem dX10_pattern_77 : decode cX10_pattern 77 = .ok (.dup, 1) := by decide +kernel
theorem dX10_pattern_78 : decode cX10_pattern 78 = .ok (.ldc 148, 2) := by decide +kernel
theorem dX10_pattern_80 : decode cX10_pattern 80 = .ok (.invokespecial 65, 3) := by decide +kernel
theorem dX10_pattern_83 : decode cX10_pattern 83 = .ok (.athrow, 1) := by decide +kernel
theorem dX10_pattern_84 : decode cX10_pattern 84 = .ok (.aload 4, 2) := by decide +kernel
theorem dX10_pattern_86 : decode cX10_pattern 86 = .ok (.aload_n 3, 1) := by decide +kernel
theorem dX10_pattern_87 : decode cX10_pattern 87 = .ok (.getfield 150, 3) := by decide +kernel
theorem dX10_pattern_90 : decode cX10_pattern 90 = .ok (.invokevirtual 154, 3) := by decide +kernel
theorem dX10_pattern_93 : decode cX10_pattern 93 = .ok (.return_, 1) := by decide +kernel
theorem dX10_place_0 : decode cX10_place 0 = .ok (.aload_n 0, 1) := by decide +kernel
theorem dX10_place_1 : decode cX10_place 1 = .ok (.getfield 37, 3) := by decide +kernel
theorem dX10_place_4 : decode cX10_place 4 = .ok (.ireturn, 1) := by decide +kernel
theorem dX10_ask_0 : decode cX10_ask 0 = .ok (.aload_n 0, 1) := by decide +kernel
theorem dX10_ask_1 : decode cX10_ask 1 = .ok (.iload_n 1, 1) := by decide +kernel
theorem dX10_ask_2 : decode cX10_ask 2 = .ok (.invokevirtual 136, 3) := by decide +kernel
theorem dX10_ask_5 : decode cX10_ask 5 = .ok (.astore_n 2, 1) := by decide +kernel
theorem dX10_ask_6 : decode cX10_ask 6 = .ok (.aload_n 2, 1) := by decide +kernel
theorem dX10_ask_7 : decode cX10_ask 7 = .ok (.ifnonnull 5, 3) := by decide +kernel
theorem dX10_ask_10 : decode cX10_ask 10 = .ok (.iconst (-1), 1) := by decide +kernel
theorem dX10_ask_11 : decode cX10_ask 11 = .ok (.ireturn, 1) := by decide +kernel
theorem dX10_ask_12 : decode cX10_ask 12 = .ok (.aload_n 0, 1) := by decide +kernel
theorem dX10_ask_13 : decode cX10_ask 13 = .ok (.getfield 33, 3) := by decide +kernel
theorem dX10_ask_16 : decode cX10_ask 16 = .ok (.getfield 157, 3) := by decide +kernel
theorem dX10_ask_19 : decode cX10_ask 19 = .ok (.invokevirtual 161, 3) := by decide +kernel
theorem dX10_ask_22 : decode cX10_ask 22 = .ok (.aload_n 2, 1) := by decide +kernel
theorem dX10_ask_23 : decode cX10_ask 23 = .ok (.invokevirtual 166, 3) := by decide +kernel
theorem dX10_ask_26 : decode cX10_ask 26 = .ok (.aload_n 0, 1) := by decide +kernel
theorem dX10_ask_27 : decode cX10_ask 27 = .ok (.getfield 19, 3) := by decide +kernel
theorem dX10_ask_30 : decode cX10_ask 30 = .ok (.aload_n 2, 1) := by decide +kernel
theorem dX10_ask_31 : decode cX10_ask 31 = .ok (.getfield 169, 3) := by decide +kernel
theorem dX10_ask_34 : decode cX10_ask 34 = .ok (.invokevirtual 57, 3) := by decide +kernel
theorem dX10_ask_37 : decode cX10_ask 37 = .ok (.astore_n 3, 1) := by decide +kernel
theorem dX10_ask_38 : decode cX10_ask 38 = .ok (.aload_n 3, 1) := by decide +kernel
theorem dX10_ask_39 : decode cX10_ask 39 = .ok (.ifnull 20, 3) := by decide +kernel
theorem dX10_ask_42 : decode cX10_ask 42 = .ok (.aload_n 3, 1) := by decide +kernel
theorem dX10_ask_43 : decode cX10_ask 43 = .ok (.getfield 80, 3) := by decide +kernel
theorem dX10_ask_46 : decode cX10_ask 46 = .ok (.ifCond .eq 13, 3) := by decide +kernel
theorem dX10_ask_49 : decode cX10_ask 49 = .ok (.aload_n 0, 1) := by decide +kernel
theorem dX10_ask_50 : decode cX10_ask 50 = .ok (.getfield 33, 3) := by decide +kernel
theorem dX10_ask_53 : decode cX10_ask 53 = .ok (.aload_n 2, 1) := by decide +kernel
theorem dX10_ask_54 : decode cX10_ask 54 = .ok (.aload_n 3, 1) := by decide +kernel
theorem dX10_ask_55 : decode cX10_ask 55 = .ok (.iconst 0, 1) := by decide +kernel
theorem dX10_ask_56 : decode cX10_ask 56 = .ok (.invokevirtual 173, 3) := by decide +kernel
theorem dX10_ask_59 : decode cX10_ask 59 = .ok (.aload_n 0, 1) := by decide +kernel
theorem dX10_ask_60 : decode cX10_ask 60 = .ok (.getfield 33, 3) := by decide +kernel
theorem dX10_ask_63 : decode cX10_ask 63 = .ok (.getfield 157, 3) := by decide +kernel
theorem dX10_ask_66 : decode cX10_ask 66 = .ok (.getfield 177, 3) := by decide +kernel
theorem dX10_ask_69 : decode cX10_ask 69 = .ok (.ireturn, 1) := by decide +kernel
theorem dX10_looked_0 : decode cX10_looked 0 = .ok (.aload_n 0, 1) := by decide +kernel
theorem dX10_looked_1 : decode cX10_looked 1 = .ok (.getfield 33, 3) := by decide +kernel
theorem dX10_looked_4 : decode cX10_looked 4 = .ok (.getfield 157, 3) := by decide +kernel
theorem dX10_looked_7 : decode cX10_looked 7 = .ok (.getfield 180, 3) := by decide +kernel
theorem dX10_looked_10 : decode cX10_looked 10 = .ok (.ireturn, 1) := by decide +kernel
theorem dX10_answer_0 : decode cX10_answer 0 = .ok (.aload_n 0, 1) := by decide +kernel
theorem dX10_answer_1 : decode cX10_answer 1 = .ok (.getfield 33, 3) := by decide +kernel
theorem dX10_answer_4 : decode cX10_answer 4 = .ok (.getfield 157, 3) := by decide +kernel
theorem dX10_answer_7 : decode cX10_answer 7 = .ok (.iload_n 1, 1) := by decide +kernel
theorem dX10_answer_8 : decode cX10_answer 8 = .ok (.iload_n 2, 1) := by decide +kernel
theorem dX10_answer_9 : decode cX10_answer 9 = .ok (.invokevirtual 183, 3) := by decide +kernel
theorem dX10_answer_12 : decode cX10_answer 12 = .ok (.ireturn, 1) := by decide +kernel
theorem dX10_takeText_0 : decode cX10_takeText 0 = .ok (.aload_n 0, 1) := by decide +kernel
theorem dX10_takeText_1 : decode cX10_takeText 1 = .ok (.getfield 12, 3) := by decide +kernel
theorem dX10_takeText_4 : decode cX10_takeText 4 = .ok (.invokevirtual 187, 3) := by decide +kernel
theorem dX10_takeText_7 : decode cX10_takeText 7 = .ok (.astore_n 1, 1) := by decide +kernel
theorem dX10_takeText_8 : decode cX10_takeText 8 = .ok (.aload_n 0, 1) := by decide +kernel
theorem dX10_takeText_9 : decode cX10_takeText 9 = .ok (.getfield 12, 3) := by decide +kernel
theorem dX10_takeText_12 : decode cX10_takeText 12 = .ok (.iconst 0, 1) := by decide +kernel
theorem dX10_takeText_13 : decode cX10_takeText 13 = .ok (.invokevirtual 190, 3) := by decide +kernel
theorem dX10_takeText_16 : decode cX10_takeText 16 = .ok (.aload_n 1, 1) := by decide +kernel
theorem dX10_takeText_17 : decode cX10_takeText 17 = .ok (.areturn, 1) := by decide +kernel
theorem dX10_takePath_0 : decode cX10_takePath 0 = .ok (.aload_n 0, 1) := by decide +kernel
theorem dX10_takePath_1 : decode cX10_takePath 1 = .ok (.invokevirtual 92, 3) := by decide +kernel
theorem dX10_takePath_4 : decode cX10_takePath 4 = .ok (.invokestatic 105, 3) := by decide +kernel
theorem dX10_takePath_7 : decode cX10_takePath 7 = .ok (.astore_n 1, 1) := by decide +kernel
theorem dX10_takePath_8 : decode cX10_takePath 8 = .ok (.aload_n 1, 1) := by decide +kernel
theorem dX10_takePath_9 : decode cX10_takePath 9 = .ok (.ifnonnull 13, 3) := by decide +kernel
theorem dX10_takePath_12 : decode cX10_takePath 12 = .ok (.new 109, 3) := by decide +kernel
theorem dX10_takePath_15 : decode cX10_takePath 15 = .ok (.dup, 1) := by decide +kernel
theorem dX10_takePath_16 : decode cX10_takePath 16 = .ok (.ldc 111, 2) := by decide +kernel
theorem dX10_takePath_18 : decode cX10_takePath 18 = .ok (.invokespecial 113, 3) := by decide +kernel
theorem dX10_takePath_21 : decode cX10_takePath 21 = .ok (.athrow, 1) := by decide +kernel
theorem dX10_takePath_22 : decode cX10_takePath 22 = .ok (.aload_n 1, 1) := by decide +kernel
theorem dX10_takePath_23 : decode cX10_takePath 23 = .ok (.areturn, 1) := by decide +kernel
theorem dX10_queryAt_0 : decode cX10_queryAt 0 = .ok (.iload_n 1, 1) := by decide +kernel
theorem dX10_queryAt_1 : decode cX10_queryAt 1 = .ok (.ifCond .lt 28, 3) := by decide +kernel
theorem dX10_queryAt_4 : decode cX10_queryAt 4 = .ok (.iload_n 1, 1) := by decide +kernel
theorem dX10_queryAt_5 : decode cX10_queryAt 5 = .ok (.aload_n 0, 1) := by decide +kernel
theorem dX10_queryAt_6 : decode cX10_queryAt 6 = .ok (.getfield 26, 3) := by decide +kernel
theorem dX10_queryAt_9 : decode cX10_queryAt 9 = .ok (.invokevirtual 114, 3) := by decide +kernel
theorem dX10_queryAt_12 : decode cX10_queryAt 12 = .ok (.if_icmp .ge 17, 3) := by decide +kernel
theorem dX10_queryAt_15 : decode cX10_queryAt 15 = .ok (.aload_n 0, 1) := by decide +kernel
theorem dX10_queryAt_16 : decode cX10_queryAt 16 = .ok (.getfield 26, 3) := by decide +kernel
theorem dX10_queryAt_19 : decode cX10_queryAt 19 = .ok (.iload_n 1, 1) := by decide +kernel
theorem dX10_queryAt_20 : decode cX10_queryAt 20 = .ok (.invokevirtual 194, 3) := by decide +kernel
theorem dX10_queryAt_23 : decode cX10_queryAt 23 = .ok (.checkcast 119, 3) := by decide +kernel
theorem dX10_queryAt_26 : decode cX10_queryAt 26 = .ok (.goto 4, 3) := by decide +kernel
theorem dX10_queryAt_29 : decode cX10_queryAt 29 = .ok (.aconst_null, 1) := by decide +kernel
theorem dX10_queryAt_30 : decode cX10_queryAt 30 = .ok (.areturn, 1) := by decide +kernel
theorem dX10_isLetter_0 : decode cX10_isLetter 0 = .ok (.iload_n 0, 1) := by decide +kernel
theorem dX10_isLetter_1 : decode cX10_isLetter 1 = .ok (.bipush 97, 2) := by decide +kernel
theorem dX10_isLetter_3 : decode cX10_isLetter 3 = .ok (.if_icmp .lt 9, 3) := by decide +kernel
theorem dX10_isLetter_6 : decode cX10_isLetter 6 = .ok (.iload_n 0, 1) := by decide +kernel
theorem dX10_isLetter_7 : decode cX10_isLetter 7 = .ok (.bipush 122, 2) := by decide +kernel
theorem dX10_isLetter_9 : decode cX10_isLetter 9 = .ok (.if_icmp .le 39, 3) := by decide +kernel
theorem dX10_isLetter_12 : decode cX10_isLetter 12 = .ok (.iload_n 0, 1) := by decide +kernel
theorem dX10_isLetter_13 : decode cX10_isLetter 13 = .ok (.bipush 65, 2) := by decide +kernel
theorem dX10_isLetter_15 : decode cX10_isLetter 15 = .ok (.if_icmp .lt 9, 3) := by decide +kernel
theorem dX10_isLetter_18 : decode cX10_isLetter 18 = .ok (.iload_n 0, 1) := by decide +kernel
theorem dX10_isLetter_19 : decode cX10_isLetter 19 = .ok (.bipush 90, 2) := by decide +kernel
theorem dX10_isLetter_21 : decode cX10_isLetter 21 = .ok (.if_icmp .le 27, 3) := by decide +kernel
theorem dX10_isLetter_24 : decode cX10_isLetter 24 = .ok (.iload_n 0, 1) := by decide +kernel
theorem dX10_isLetter_25 : decode cX10_isLetter 25 = .ok (.bipush 48, 2) := by decide +kernel
theorem dX10_isLetter_27 : decode cX10_isLetter 27 = .ok (.if_icmp .lt 9, 3) := by decide +kernel
theorem dX10_isLetter_30 : decode cX10_isLetter 30 = .ok (.iload_n 0, 1) := by decide +kernel
theorem dX10_isLetter_31 : decode cX10_isLetter 31 = .ok (.bipush 57, 2) := by decide +kernel
theorem dX10_isLetter_33 : decode cX10_isLetter 33 = .ok (.if_icmp .le 15, 3) := by decide +kernel
theorem dX10_isLetter_36 : decode cX10_isLetter 36 = .ok (.iload_n 0, 1) := by decide +kernel
theorem dX10_isLetter_37 : decode cX10_isLetter 37 = .ok (.bipush 46, 2) := by decide +kernel
theorem dX10_isLetter_39 : decode cX10_isLetter 39 = .ok (.if_icmp .eq 9, 3) := by decide +kernel
theorem dX10_isLetter_42 : decode cX10_isLetter 42 = .ok (.iload_n 0, 1) := by decide +kernel
theorem dX10_isLetter_43 : decode cX10_isLetter 43 = .ok (.bipush 95, 2) := by decide +kernel
theorem dX10_isLetter_45 : decode cX10_isLetter 45 = .ok (.if_icmp .ne 7, 3) := by decide +kernel
theorem dX10_isLetter_48 : decode cX10_isLetter 48 = .ok (.iconst 1, 1) := by decide +kernel
theorem dX10_isLetter_49 : decode cX10_isLetter 49 = .ok (.goto 4, 3) := by decide +kernel
theorem dX10_isLetter_52 : decode cX10_isLetter 52 = .ok (.iconst 0, 1) := by decide +kernel
theorem dX10_isLetter_53 : decode cX10_isLetter 53 = .ok (.ireturn, 1) := by decide +kernel
theorem dX10_isDots_0 : decode cX10_isDots 0 = .ok (.aload_n 0, 1) := by decide +kernel
theorem dX10_isDots_1 : decode cX10_isDots 1 = .ok (.ldc 198, 2) := by decide +kernel
theorem dX10_isDots_3 : decode cX10_isDots 3 = .ok (.invokevirtual 200, 3) := by decide +kernel
theorem dX10_isDots_6 : decode cX10_isDots 6 = .ok (.ifCond .ne 12, 3) := by decide +kernel
theorem dX10_isDots_9 : decode cX10_isDots 9 = .ok (.aload_n 0, 1) := by decide +kernel
theorem dX10_isDots_10 : decode cX10_isDots 10 = .ok (.ldc 203, 2) := by decide +kernel
theorem dX10_isDots_12 : decode cX10_isDots 12 = .ok (.invokevirtual 200, 3) := by decide +kernel
theorem dX10_isDots_15 : decode cX10_isDots 15 = .ok (.ifCond .eq 7, 3) := by decide +kernel
theorem dX10_isDots_18 : decode cX10_isDots 18 = .ok (.iconst 1, 1) := by decide +kernel
theorem dX10_isDots_19 : decode cX10_isDots 19 = .ok (.goto 4, 3) := by decide +kernel
theorem dX10_isDots_22 : decode cX10_isDots 22 = .ok (.iconst 0, 1) := by decide +kernel
theorem dX10_isDots_23 : decode cX10_isDots 23 = .ok (.ireturn, 1) := by decide +kernel
theorem dX10_withSkipped_0 : decode cX10_withSkipped 0 = .ok (.iload_n 0, 1) := by decide +kernel
theorem dX10_withSkipped_1 : decode cX10_withSkipped 1 = .ok (.istore_n 2, 1) := by decide +kernel
theorem dX10_withSkipped_2 : decode cX10_withSkipped 2 = .ok (.iconst 0, 1) := by decide +kernel
theorem dX10_withSkipped_3 : decode cX10_withSkipped 3 = .ok (.istore_n 3, 1) := by decide +kernel
theorem dX10_withSkipped_4 : decode cX10_withSkipped 4 = .ok (.iload_n 3, 1) := by decide +kernel
theorem dX10_withSkipped_5 : decode cX10_withSkipped 5 = .ok (.bipush 8, 2) := by decide +kernel
theorem dX10_withSkipped_7 : decode cX10_withSkipped 7 = .ok (.if_icmp .ge 17, 3) := by decide +kernel
theorem dX10_withSkipped_10 : decode cX10_withSkipped 10 = .ok (.iload_n 2, 1) := by decide +kernel
theorem dX10_withSkipped_11 : decode cX10_withSkipped 11 = .ok (.iload_n 2, 1) := by decide +kernel
theorem dX10_withSkipped_12 : decode cX10_withSkipped 12 = .ok (.iload_n 1, 1) := by decide +kernel
theorem dX10_withSkipped_13 : decode cX10_withSkipped 13 = .ok (.iand, 1) := by decide +kernel
theorem dX10_withSkipped_14 : decode cX10_withSkipped 14 = .ok (.iconst 1, 1) := by decide +kernel
theorem dX10_withSkipped_15 : decode cX10_withSkipped 15 = .ok (.ishl, 1) := by decide +kernel
theorem dX10_withSkipped_16 : decode cX10_withSkipped 16 = .ok (.ior, 1) := by decide +kernel
theorem dX10_withSkipped_17 : decode cX10_withSkipped 17 = .ok (.istore_n 2, 1) := by decide +kernel
theorem dX10_withSkipped_18 : decode cX10_withSkipped 18 = .ok (.iinc 3 1, 3) := by decide +kernel
theorem dX10_withSkipped_21 : decode cX10_withSkipped 21 = .ok (.goto (-17), 3) := by decide +kernel
theorem dX10_withSkipped_24 : decode cX10_withSkipped 24 = .ok (.iload_n 2, 1) := by decide +kernel
theorem dX10_withSkipped_25 : decode cX10_withSkipped 25 = .ok (.ireturn, 1) := by decide +kernel
theorem dX11_init_0 : decode cX11_init 0 = .ok (.aload_n 0, 1) := by decide +kernel
theorem dX11_init_1 : decode cX11_init 1 = .ok (.invokespecial 1, 3) := by decide +kernel
theorem dX11_init_4 : decode cX11_init 4 = .ok (.aload_n 0, 1) := by decide +kernel
theorem dX11_init_5 : decode cX11_init 5 = .ok (.bipush 60, 2) := by decide +kernel
theorem dX11_init_7 : decode cX11_init 7 = .ok (.newarray .byte, 2) := by decide +kernel
theorem dX11_init_9 : decode cX11_init 9 = .ok (.putfield 7, 3) := by decide +kernel
theorem dX11_init_12 : decode cX11_init 12 = .ok (.aload_n 0, 1) := by decide +kernel
theorem dX11_init_13 : decode cX11_init 13 = .ok (.bipush 6, 2) := by decide +kernel
theorem dX11_init_15 : decode cX11_init 15 = .ok (.newarray .int, 2) := by decide +kernel
theorem dX11_init_17 : decode cX11_init 17 = .ok (.putfield 13, 3) := by decide +kernel
theorem dX11_init_20 : decode cX11_init 20 = .ok (.aload_n 0, 1) := by decide +kernel
theorem dX11_init_21 : decode cX11_init 21 = .ok (.bipush 6, 2) := by decide +kernel
theorem dX11_init_23 : decode cX11_init 23 = .ok (.newarray .int, 2) := by decide +kernel
theorem dX11_init_25 : decode cX11_init 25 = .ok (.putfield 17, 3) := by decide +kernel
theorem dX11_init_28 : decode cX11_init 28 = .ok (.aload_n 0, 1) := by decide +kernel
theorem dX11_init_29 : decode cX11_init 29 = .ok (.bipush 61, 2) := by decide +kernel
theorem dX11_init_31 : decode cX11_init 31 = .ok (.newarray .int, 2) := by decide +kernel
theorem dX11_init_33 : decode cX11_init 33 = .ok (.putfield 20, 3) := by decide +kernel
theorem dX11_init_36 : decode cX11_init 36 = .ok (.aload_n 0, 1) := by decide +kernel
theorem dX11_init_37 : decode cX11_init 37 = .ok (.bipush 61, 2) := by decide +kernel
theorem dX11_init_39 : decode cX11_init 39 = .ok (.newarray .int, 2) := by decide +kernel
theorem dX11_init_41 : decode cX11_init 41 = .ok (.putfield 23, 3) := by decide +kernel
theorem dX11_init_44 : decode cX11_init 44 = .ok (.aload_n 0, 1) := by decide +kernel
theorem dX11_init_45 : decode cX11_init 45 = .ok (.bipush 61, 2) := by decide +kernel
theorem dX11_init_47 : decode cX11_init 47 = .ok (.newarray .int, 2) := by decide +kernel
theorem dX11_init_49 : decode cX11_init 49 = .ok (.putfield 26, 3) := by decide +kernel
theorem dX11_init_52 : decode cX11_init 52 = .ok (.aload_n 0, 1) := by decide +kernel
theorem dX11_init_53 : decode cX11_init 53 = .ok (.bipush 61, 2) := by decide +kernel
theorem dX11_init_55 : decode cX11_init 55 = .ok (.newarray .int, 2) := by decide +kernel
theorem dX11_init_57 : decode cX11_init 57 = .ok (.putfield 29, 3) := by decide +kernel
theorem dX11_init_60 : decode cX11_init 60 = .ok (.aload_n 0, 1) := by decide +kernel
theorem dX11_init_61 : decode cX11_init 61 = .ok (.bipush 61, 2) := by decide +kernel
theorem dX11_init_63 : decode cX11_init 63 = .ok (.newarray .int, 2) := by decide +kernel
theorem dX11_init_65 : decode cX11_init 65 = .ok (.putfield 32, 3) := by decide +kernel
theorem dX11_init_68 : decode cX11_init 68 = .ok (.aload_n 0, 1) := by decide +kernel
theorem dX11_init_69 : decode cX11_init 69 = .ok (.bipush 61, 2) := by decide +kernel
theorem dX11_init_71 : decode cX11_init 71 = .ok (.newarray .boolean, 2) := by decide +kernel
theorem dX11_init_73 : decode cX11_init 73 = .ok (.putfield 35, 3) := by decide +kernel
theorem dX11_init_76 : decode cX11_init 76 = .ok (.aload_n 0, 1) := by decide +kernel
theorem dX11_init_77 : decode cX11_init 77 = .ok (.sipush 488, 3) := by decide +kernel
theorem dX11_init_80 : decode cX11_init 80 = .ok (.newarray .byte, 2) := by decide +kernel
theorem dX11_init_82 : decode cX11_init 82 = .ok (.putfield 39, 3) := by decide +kernel
theorem dX11_init_85 : decode cX11_init 85 = .ok (.aload_n 0, 1) := by decide +kernel
theorem dX11_init_86 : decode cX11_init 86 = .ok (.bipush 6, 2) := by decide +kernel
theorem dX11_init_88 : decode cX11_init 88 = .ok (.newarray .int, 2) := by decide +kernel
theorem dX11_init_90 : decode cX11_init 90 = .ok (.putfield 42, 3) := by decide +kernel
theorem dX11_init_93 : decode cX11_init 93 = .ok (.aload_n 0, 1) := by decide +kernel
theorem dX11_init_94 : decode cX11_init 94 = .ok (.bipush 6, 2) := by decide +kernel
theorem dX11_init_96 : decode cX11_init 96 = .ok (.newarray .int, 2) := by decide +kernel
theorem dX11_init_98 : decode cX11_init 98 = .ok (.putfield 45, 3) := by decide +kernel
theorem dX11_init_101 : decode cX11_init 101 = .ok (.aload_n 0, 1) := by decide +kernel
theorem dX11_init_102 : decode cX11_init 102 = .ok (.bipush 6, 2) := by decide +kernel
theorem dX11_init_104 : decode cX11_init 104 = .ok (.newarray .int, 2) := by decide +kernel
theorem dX11_init_106 : decode cX11_init 106 = .ok (.putfield 48, 3) := by decide +kernel
theorem dX11_init_109 : decode cX11_init 109 = .ok (.aload_n 0, 1) := by decide +kernel
theorem dX11_init_110 : decode cX11_init 110 = .ok (.bipush 6, 2) := by decide +kernel
theorem dX11_init_112 : decode cX11_init 112 = .ok (.newarray .int, 2) := by decide +kernel
theorem dX11_init_114 : decode cX11_init 114 = .ok (.putfield 51, 3) := by decide +kernel
theorem dX11_init_117 : decode cX11_init 117 = .ok (.aload_n 0, 1) := by decide +kernel
theorem dX11_init_118 : decode cX11_init 118 = .ok (.bipush 48, 2) := by decide +kernel
theorem dX11_init_120 : decode cX11_init 120 = .ok (.newarray .int, 2) := by decide +kernel
theorem dX11_init_122 : decode cX11_init 122 = .ok (.putfield 54, 3) := by decide +kernel
theorem dX11_init_125 : decode cX11_init 125 = .ok (.aload_n 0, 1) := by decide +kernel
theorem dX11_init_126 : decode cX11_init 126 = .ok (.sipush 360, 3) := by decide +kernel
theorem dX11_init_129 : decode cX11_init 129 = .ok (.newarray .byte, 2) := by decide +kernel
theorem dX11_init_131 : decode cX11_init 131 = .ok (.putfield 57, 3) := by decide +kernel
theorem dX11_init_134 : decode cX11_init 134 = .ok (.aload_n 0, 1) := by decide +kernel
theorem dX11_init_135 : decode cX11_init 135 = .ok (.sipush 2880, 3) := by decide +kernel
theorem dX11_init_138 : decode cX11_init 138 = .ok (.newarray .byte, 2) := by decide +kernel
theorem dX11_init_140 : decode cX11_init 140 = .ok (.putfield 60, 3) := by decide +kernel
theorem dX11_init_143 : decode cX11_init 143 = .ok (.aload_n 0, 1) := by decide +kernel
theorem dX11_init_144 : decode cX11_init 144 = .ok (.bipush 6, 2) := by decide +kernel
theorem dX11_init_146 : decode cX11_init 146 = .ok (.newarray .boolean, 2) := by decide +kernel
theorem dX11_init_148 : decode cX11_init 148 = .ok (.putfield 63, 3) := by decide +kernel
theorem dX11_init_151 : decode cX11_init 151 = .ok (.aload_n 0, 1) := by decide +kernel
theorem dX11_init_152 : decode cX11_init 152 = .ok (.sipush 366, 3) := by decide +kernel
theorem dX11_init_155 : decode cX11_init 155 = .ok (.newarray .int, 2) := by decide +kernel
theorem dX11_init_157 : decode cX11_init 157 = .ok (.putfield 66, 3) := by decide +kernel
theorem dX11_init_160 : decode cX11_init 160 = .ok (.aload_n 0, 1) := by decide +kernel
theorem dX11_init_161 : decode cX11_init 161 = .ok (.iconst (-1), 1) := by decide +kernel
theorem dX11_init_162 : decode cX11_init 162 = .ok (.putfield 69, 3) := by decide +kernel
theorem dX11_init_165 : decode cX11_init 165 = .ok (.aload_n 0, 1) := by decide +kernel
theorem dX11_init_166 : decode cX11_init 166 = .ok (.bipush 60, 2) := by decide +kernel
theorem dX11_init_168 : decode cX11_init 168 = .ok (.newarray .int, 2) := by decide +kernel
theorem dX11_init_170 : decode cX11_init 170 = .ok (.putfield 73, 3) := by decide +kernel
theorem dX11_init_173 : decode cX11_init 173 = .ok (.aload_n 0, 1) := by decide +kernel
theorem dX11_init_174 : decode cX11_init 174 = .ok (.sipush 3240, 3) := by decide +kernel
theorem dX11_init_177 : decode cX11_init 177 = .ok (.newarray .byte, 2) := by decide +kernel
theorem dX11_init_179 : decode cX11_init 179 = .ok (.putfield 76, 3) := by decide +kernel
theorem dX11_init_182 : decode cX11_init 182 = .ok (.aload_n 0, 1) := by decide +kernel
theorem dX11_init_183 : decode cX11_init 183 = .ok (.bipush 8, 2) := by decide +kernel
theorem dX11_init_185 : decode cX11_init 185 = .ok (.newarray .int, 2) := by decide +kernel
theorem dX11_init_187 : decode cX11_init 187 = .ok (.putfield 79, 3) := by decide +kernel
theorem dX11_init_190 : decode cX11_init 190 = .ok (.aload_n 0, 1) := by decide +kernel
theorem dX11_init_191 : decode cX11_init 191 = .ok (.bipush 8, 2) := by decide +kernel
theorem dX11_init_193 : decode cX11_init 193 = .ok (.newarray .int, 2) := by decide +kernel
theorem dX11_init_195 : decode cX11_init 195 = .ok (.putfield 82, 3) := by decide +kernel
theorem dX11_init_198 : decode cX11_init 198 = .ok (.aload_n 0, 1) := by decide +kernel
theorem dX11_init_199 : decode cX11_init 199 = .ok (.bipush 8, 2) := by decide +kernel
theorem dX11_init_201 : decode cX11_init 201 = .ok (.newarray .int, 2) := by decide +kernel
theorem dX11_init_203 : decode cX11_init 203 = .ok (.putfield 85, 3) := by decide +kernel
theorem dX11_init_206 : decode cX11_init 206 = .ok (.aload_n 0, 1) := by decide +kernel
theorem dX11_init_207 : decode cX11_init 207 = .ok (.bipush 8, 2) := by decide +kernel
theorem dX11_init_209 : decode cX11_init 209 = .ok (.newarray .int, 2) := by decide +kernel
theorem dX11_init_211 : decode cX11_init 211 = .ok (.putfield 88, 3) := by decide +kernel
theorem dX11_init_214 : decode cX11_init 214 = .ok (.aload_n 0, 1) := by decide +kernel
theorem dX11_init_215 : decode cX11_init 215 = .ok (.bipush 64, 2) := by decide +kernel
theorem dX11_init_217 : decode cX11_init 217 = .ok (.newarray .byte, 2) := by decide +kernel
theorem dX11_init_219 : decode cX11_init 219 = .ok (.putfield 91, 3) := by decide +kernel
theorem dX11_init_222 : decode cX11_init 222 = .ok (.aload_n 0, 1) := by decide +kernel
theorem dX11_init_223 : decode cX11_init 223 = .ok (.bipush 60, 2) := by decide +kernel
theorem dX11_init_225 : decode cX11_init 225 = .ok (.newarray .byte, 2) := by decide +kernel
theorem dX11_init_227 : decode cX11_init 227 = .ok (.putfield 94, 3) := by decide +kernel
theorem dX11_init_230 : decode cX11_init 230 = .ok (.aload_n 0, 1) := by decide +kernel
theorem dX11_init_231 : decode cX11_init 231 = .ok (.bipush 61, 2) := by decide +kernel
theorem dX11_init_233 : decode cX11_init 233 = .ok (.newarray .int, 2) := by decide +kernel
theorem dX11_init_235 : decode cX11_init 235 = .ok (.putfield 97, 3) := by decide +kernel
theorem dX11_init_238 : decode cX11_init 238 = .ok (.aload_n 0, 1) := by decide +kernel
theorem dX11_init_239 : decode cX11_init 239 = .ok (.getfield 20, 3) := by decide +kernel
theorem dX11_init_242 : decode cX11_init 242 = .ok (.bipush 60, 2) := by decide +kernel
theorem dX11_init_244 : decode cX11_init 244 = .ok (.iconst 2, 1) := by decide +kernel
theorem dX11_init_245 : decode cX11_init 245 = .ok (.iastore, 1) := by decide +kernel
theorem dX11_init_246 : decode cX11_init 246 = .ok (.aload_n 0, 1) := by decide +kernel
theorem dX11_init_247 : decode cX11_init 247 = .ok (.getfield 35, 3) := by decide +kernel
theorem dX11_init_250 : decode cX11_init 250 = .ok (.bipush 60, 2) := by decide +kernel
theorem dX11_init_252 : decode cX11_init 252 = .ok (.iconst 1, 1) := by decide +kernel
theorem dX11_init_253 : decode cX11_init 253 = .ok (.bastore, 1) := by decide +kernel
theorem dX11_init_254 : decode cX11_init 254 = .ok (.aload_n 0, 1) := by decide +kernel
theorem dX11_init_255 : decode cX11_init 255 = .ok (.getfield 32, 3) := by decide +kernel
theorem dX11_init_258 : decode cX11_init 258 = .ok (.bipush 60, 2) := by decide +kernel
theorem dX11_init_260 : decode cX11_init 260 = .ok (.iconst 1, 1) := by decide +kernel
theorem dX11_init_261 : decode cX11_init 261 = .ok (.iastore, 1) := by decide +kernel
theorem dX11_init_262 : decode cX11_init 262 = .ok (.aload_n 0, 1) := by decide +kernel
theorem dX11_init_263 : decode cX11_init 263 = .ok (.iconst 1, 1) := by decide +kernel
theorem dX11_init_264 : decode cX11_init 264 = .ok (.putfield 100, 3) := by decide +kernel
theorem dX11_init_267 : decode cX11_init 267 = .ok (.return_, 1) := by decide +kernel
theorem dX11_thrown_0 : decode cX11_thrown 0 = .ok (.aload_n 0, 1) := by decide +kernel
theorem dX11_thrown_1 : decode cX11_thrown 1 = .ok (.getfield 103, 3) := by decide +kernel
theorem dX11_thrown_4 : decode cX11_thrown 4 = .ok (.ireturn, 1) := by decide +kernel
theorem dX11_type_0 : decode cX11_type 0 = .ok (.aload_n 0, 1) := by decide +kernel
theorem dX11_type_1 : decode cX11_type 1 = .ok (.iconst 0, 1) := by decide +kernel
theorem dX11_type_2 : decode cX11_type 2 = .ok (.putfield 103, 3) := by decide +kernel
theorem dX11_type_5 : decode cX11_type 5 = .ok (.iload_n 1, 1) := by decide +kernel
theorem dX11_type_6 : decode cX11_type 6 = .ok (.bipush 32, 2) := by decide +kernel
theorem dX11_type_8 : decode cX11_type 8 = .ok (.if_icmp .lt 18, 3) := by decide +kernel
theorem dX11_type_11 : decode cX11_type 11 = .ok (.iload_n 1, 1) := by decide +kernel
theorem dX11_type_12 : decode cX11_type 12 = .ok (.bipush 126, 2) := by decide +kernel
theorem dX11_type_14 : decode cX11_type 14 = .ok (.if_icmp .gt 12, 3) := by decide +kernel
theorem dX11_type_17 : decode cX11_type 17 = .ok (.aload_n 0, 1) := by decide +kernel
theorem dX11_type_18 : decode cX11_type 18 = .ok (.getfield 106, 3) := by decide +kernel
theorem dX11_type_21 : decode cX11_type 21 = .ok (.bipush 60, 2) := by decide +kernel
theorem dX11_type_23 : decode cX11_type 23 = .ok (.if_icmp .ne 5, 3) := by decide +kernel
theorem dX11_type_26 : decode cX11_type 26 = .ok (.iconst 0, 1) := by decide +kernel
theorem dX11_type_27 : decode cX11_type 27 = .ok (.ireturn, 1) := by decide +kernel
theorem dX11_type_28 : decode cX11_type 28 = .ok (.aload_n 0, 1) := by decide +kernel
theorem dX11_type_29 : decode cX11_type 29 = .ok (.getfield 7, 3) := by decide +kernel
theorem dX11_type_32 : decode cX11_type 32 = .ok (.aload_n 0, 1) := by decide +kernel
theorem dX11_type_33 : decode cX11_type 33 = .ok (.getfield 106, 3) := by decide +kernel
theorem dX11_type_36 : decode cX11_type 36 = .ok (.iload_n 1, 1) := by decide +kernel
theorem dX11_type_37 : decode cX11_type 37 = .ok (.i2b, 1) := by decide +kernel
theorem dX11_type_38 : decode cX11_type 38 = .ok (.bastore, 1) := by decide +kernel
theorem dX11_type_39 : decode cX11_type 39 = .ok (.aload_n 0, 1) := by decide +kernel
theorem dX11_type_40 : decode cX11_type 40 = .ok (.dup, 1) := by decide +kernel
theorem dX11_type_41 : decode cX11_type 41 = .ok (.getfield 106, 3) := by decide +kernel
theorem dX11_type_44 : decode cX11_type 44 = .ok (.iconst 1, 1) := by decide +kernel
theorem dX11_type_45 : decode cX11_type 45 = .ok (.iadd, 1) := by decide +kernel
theorem dX11_type_46 : decode cX11_type 46 = .ok (.putfield 106, 3) := by decide +kernel
theorem dX11_type_49 : decode cX11_type 49 = .ok (.iconst 1, 1) := by decide +kernel
theorem dX11_type_50 : decode cX11_type 50 = .ok (.ireturn, 1) := by decide +kernel
theorem dX11_isSign_0 : decode cX11_isSign 0 = .ok (.iload_n 0, 1) := by decide +kernel
theorem dX11_isSign_1 : decode cX11_isSign 1 = .ok (.bipush 97, 2) := by decide +kernel
theorem dX11_isSign_3 : decode cX11_isSign 3 = .ok (.if_icmp .lt 9, 3) := by decide +kernel
theorem dX11_isSign_6 : decode cX11_isSign 6 = .ok (.iload_n 0, 1) := by decide +kernel
theorem dX11_isSign_7 : decode cX11_isSign 7 = .ok (.bipush 122, 2) := by decide +kernel
theorem dX11_isSign_9 : decode cX11_isSign 9 = .ok (.if_icmp .le 39, 3) := by decide +kernel
theorem dX11_isSign_12 : decode cX11_isSign 12 = .ok (.iload_n 0, 1) := by decide +kernel
theorem dX11_isSign_13 : decode cX11_isSign 13 = .ok (.bipush 65, 2) := by decide +kernel
theorem dX11_isSign_15 : decode cX11_isSign 15 = .ok (.if_icmp .lt 9, 3) := by decide +kernel
theorem dX11_isSign_18 : decode cX11_isSign 18 = .ok (.iload_n 0, 1) := by decide +kernel
theorem dX11_isSign_19 : decode cX11_isSign 19 = .ok (.bipush 90, 2) := by decide +kernel
theorem dX11_isSign_21 : decode cX11_isSign 21 = .ok (.if_icmp .le 27, 3) := by decide +kernel
theorem dX11_isSign_24 : decode cX11_isSign 24 = .ok (.iload_n 0, 1) := by decide +kernel
theorem dX11_isSign_25 : decode cX11_isSign 25 = .ok (.bipush 48, 2) := by decide +kernel
theorem dX11_isSign_27 : decode cX11_isSign 27 = .ok (.if_icmp .lt 9, 3) := by decide +kernel
theorem dX11_isSign_30 : decode cX11_isSign 30 = .ok (.iload_n 0, 1) := by decide +kernel
theorem dX11_isSign_31 : decode cX11_isSign 31 = .ok (.bipush 57, 2) := by decide +kernel
theorem dX11_isSign_33 : decode cX11_isSign 33 = .ok (.if_icmp .le 15, 3) := by decide +kernel
theorem dX11_isSign_36 : decode cX11_isSign 36 = .ok (.iload_n 0, 1) := by decide +kernel
theorem dX11_isSign_37 : decode cX11_isSign 37 = .ok (.bipush 46, 2) := by decide +kernel
theorem dX11_isSign_39 : decode cX11_isSign 39 = .ok (.if_icmp .eq 9, 3) := by decide +kernel
theorem dX11_isSign_42 : decode cX11_isSign 42 = .ok (.iload_n 0, 1) := by decide +kernel
theorem dX11_isSign_43 : decode cX11_isSign 43 = .ok (.bipush 95, 2) := by decide +kernel
theorem dX11_isSign_45 : decode cX11_isSign 45 = .ok (.if_icmp .ne 7, 3) := by decide +kernel
theorem dX11_isSign_48 : decode cX11_isSign 48 = .ok (.iconst 1, 1) := by decide +kernel
theorem dX11_isSign_49 : decode cX11_isSign 49 = .ok (.goto 4, 3) := by decide +kernel
theorem dX11_isSign_52 : decode cX11_isSign 52 = .ok (.iconst 0, 1) := by decide +kernel
theorem dX11_isSign_53 : decode cX11_isSign 53 = .ok (.ireturn, 1) := by decide +kernel
theorem dX11_isPath_0 : decode cX11_isPath 0 = .ok (.aload_n 0, 1) := by decide +kernel
theorem dX11_isPath_1 : decode cX11_isPath 1 = .ok (.iconst 0, 1) := by decide +kernel
theorem dX11_isPath_2 : decode cX11_isPath 2 = .ok (.putfield 109, 3) := by decide +kernel
theorem dX11_isPath_5 : decode cX11_isPath 5 = .ok (.iconst 0, 1) := by decide +kernel
theorem dX11_isPath_6 : decode cX11_isPath 6 = .ok (.istore_n 1, 1) := by decide +kernel
theorem dX11_isPath_7 : decode cX11_isPath 7 = .ok (.iconst 1, 1) := by decide +kernel
theorem dX11_isPath_8 : decode cX11_isPath 8 = .ok (.istore_n 2, 1) := by decide +kernel
theorem dX11_isPath_9 : decode cX11_isPath 9 = .ok (.iconst 0, 1) := by decide +kernel
theorem dX11_isPath_10 : decode cX11_isPath 10 = .ok (.istore_n 3, 1) := by decide +kernel
theorem dX11_isPath_11 : decode cX11_isPath 11 = .ok (.iload_n 3, 1) := by decide +kernel
theorem dX11_isPath_12 : decode cX11_isPath 12 = .ok (.aload_n 0, 1) := by decide +kernel
theorem dX11_isPath_13 : decode cX11_isPath 13 = .ok (.getfield 106, 3) := by decide +kernel
theorem dX11_isPath_16 : decode cX11_isPath 16 = .ok (.if_icmp .gt 187, 3) := by decide +kernel
theorem dX11_isPath_19 : decode cX11_isPath 19 = .ok (.iload_n 2, 1) := by decide +kernel
theorem dX11_isPath_20 : decode cX11_isPath 20 = .ok (.ifCond .eq 183, 3) := by decide +kernel
theorem dX11_isPath_23 : decode cX11_isPath 23 = .ok (.iload_n 3, 1) := by decide +kernel
theorem dX11_isPath_24 : decode cX11_isPath 24 = .ok (.aload_n 0, 1) := by decide +kernel
theorem dX11_isPath_25 : decode cX11_isPath 25 = .ok (.getfield 106, 3) := by decide +kernel
theorem dX11_isPath_28 : decode cX11_isPath 28 = .ok (.if_icmp .eq 14, 3) := by decide +kernel
theorem dX11_isPath_31 : decode cX11_isPath 31 = .ok (.aload_n 0, 1) := by decide +kernel
theorem dX11_isPath_32 : decode cX11_isPath 32 = .ok (.getfield 7, 3) := by decide +kernel
theorem dX11_isPath_35 : decode cX11_isPath 35 = .ok (.iload_n 3, 1) := by decide +kernel
theorem dX11_isPath_36 : decode cX11_isPath 36 = .ok (.baload, 1) := by decide +kernel
theorem dX11_isPath_37 : decode cX11_isPath 37 = .ok (.bipush 47, 2) := by decide +kernel
theorem dX11_isPath_39 : decode cX11_isPath 39 = .ok (.if_icmp .ne 7, 3) := by decide +kernel
theorem dX11_isPath_42 : decode cX11_isPath 42 = .ok (.iconst 1, 1) := by decide +kernel
theorem dX11_isPath_43 : decode cX11_isPath 43 = .ok (.goto 4, 3) := by decide +kernel
theorem dX11_isPath_46 : decode cX11_isPath 46 = .ok (.iconst 0, 1) := by decide +kernel
theorem dX11_isPath_47 : decode cX11_isPath 47 = .ok (.istore 4, 2) := by decide +kernel
theorem dX11_isPath_49 : decode cX11_isPath 49 = .ok (.iload 4, 2) := by decide +kernel
theorem dX11_isPath_51 : decode cX11_isPath 51 = .ok (.ifCond .eq 136, 3) := by decide +kernel
theorem dX11_isPath_54 : decode cX11_isPath 54 = .ok (.iload_n 3, 1) := by decide +kernel
theorem dX11_isPath_55 : decode cX11_isPath 55 = .ok (.iload_n 1, 1) := by decide +kernel
theorem dX11_isPath_56 : decode cX11_isPath 56 = .ok (.isub, 1) := by decide +kernel
theorem dX11_isPath_57 : decode cX11_isPath 57 = .ok (.istore 5, 2) := by decide +kernel
theorem dX11_isPath_59 : decode cX11_isPath 59 = .ok (.iload 5, 2) := by decide +kernel
theorem dX11_isPath_61 : decode cX11_isPath 61 = .ok (.iconst 1, 1) := by decide +kernel
theorem dX11_isPath_62 : decode cX11_isPath 62 = .ok (.if_icmp .ne 14, 3) := by decide +kernel
theorem dX11_isPath_65 : decode cX11_isPath 65 = .ok (.aload_n 0, 1) := by decide +kernel
theorem dX11_isPath_66 : decode cX11_isPath 66 = .ok (.getfield 7, 3) := by decide +kernel
theorem dX11_isPath_69 : decode cX11_isPath 69 = .ok (.iload_n 1, 1) := by decide +kernel
theorem dX11_isPath_70 : decode cX11_isPath 70 = .ok (.baload, 1) := by decide +kernel
theorem dX11_isPath_71 : decode cX11_isPath 71 = .ok (.bipush 46, 2) := by decide +kernel
theorem dX11_isPath_73 : decode cX11_isPath 73 = .ok (.if_icmp .eq 33, 3) := by decide +kernel
theorem dX11_isPath_76 : decode cX11_isPath 76 = .ok (.iload 5, 2) := by decide +kernel
theorem dX11_isPath_78 : decode cX11_isPath 78 = .ok (.iconst 2, 1) := by decide +kernel
theorem dX11_isPath_79 : decode cX11_isPath 79 = .ok (.if_icmp .ne 31, 3) := by decide +kernel
theorem dX11_isPath_82 : decode cX11_isPath 82 = .ok (.aload_n 0, 1) := by decide +kernel
theorem dX11_isPath_83 : decode cX11_isPath 83 = .ok (.getfield 7, 3) := by decide +kernel
theorem dX11_isPath_86 : decode cX11_isPath 86 = .ok (.iload_n 1, 1) := by decide +kernel
theorem dX11_isPath_87 : decode cX11_isPath 87 = .ok (.baload, 1) := by decide +kernel
theorem dX11_isPath_88 : decode cX11_isPath 88 = .ok (.bipush 46, 2) := by decide +kernel
theorem dX11_isPath_90 : decode cX11_isPath 90 = .ok (.if_icmp .ne 20, 3) := by decide +kernel
theorem dX11_isPath_93 : decode cX11_isPath 93 = .ok (.aload_n 0, 1) := by decide +kernel
theorem dX11_isPath_94 : decode cX11_isPath 94 = .ok (.getfield 7, 3) := by decide +kernel
theorem dX11_isPath_97 : decode cX11_isPath 97 = .ok (.iload_n 1, 1) := by decide +kernel
theorem dX11_isPath_98 : decode cX11_isPath 98 = .ok (.iconst 1, 1) := by decide +kernel
theorem dX11_isPath_99 : decode cX11_isPath 99 = .ok (.iadd, 1) := by decide +kernel
theorem dX11_isPath_100 : decode cX11_isPath 100 = .ok (.baload, 1) := by decide +kernel
theorem dX11_isPath_101 : decode cX11_isPath 101 = .ok (.bipush 46, 2) := by decide +kernel
theorem dX11_isPath_103 : decode cX11_isPath 103 = .ok (.if_icmp .ne 7, 3) := by decide +kernel
theorem dX11_isPath_106 : decode cX11_isPath 106 = .ok (.iconst 1, 1) := by decide +kernel
theorem dX11_isPath_107 : decode cX11_isPath 107 = .ok (.goto 4, 3) := by decide +kernel
theorem dX11_isPath_110 : decode cX11_isPath 110 = .ok (.iconst 0, 1) := by decide +kernel
theorem dX11_isPath_111 : decode cX11_isPath 111 = .ok (.istore 6, 2) := by decide +kernel
theorem dX11_isPath_113 : decode cX11_isPath 113 = .ok (.iload 5, 2) := by decide +kernel
theorem dX11_isPath_115 : decode cX11_isPath 115 = .ok (.ifCond .le 28, 3) := by decide +kernel
theorem dX11_isPath_118 : decode cX11_isPath 118 = .ok (.iload 5, 2) := by decide +kernel
theorem dX11_isPath_120 : decode cX11_isPath 120 = .ok (.bipush 8, 2) := by decide +kernel
theorem dX11_isPath_122 : decode cX11_isPath 122 = .ok (.if_icmp .gt 21, 3) := by decide +kernel
theorem dX11_isPath_125 : decode cX11_isPath 125 = .ok (.iload 6, 2) := by decide +kernel
theorem dX11_isPath_127 : decode cX11_isPath 127 = .ok (.ifCond .ne 16, 3) := by decide +kernel
theorem dX11_isPath_130 : decode cX11_isPath 130 = .ok (.aload_n 0, 1) := by decide +kernel
theorem dX11_isPath_131 : decode cX11_isPath 131 = .ok (.getfield 109, 3) := by decide +kernel
theorem dX11_isPath_134 : decode cX11_isPath 134 = .ok (.bipush 6, 2) := by decide +kernel
theorem dX11_isPath_136 : decode cX11_isPath 136 = .ok (.if_icmp .ge 7, 3) := by decide +kernel
theorem dX11_isPath_139 : decode cX11_isPath 139 = .ok (.iconst 1, 1) := by decide +kernel
theorem dX11_isPath_140 : decode cX11_isPath 140 = .ok (.goto 4, 3) := by decide +kernel
theorem dX11_isPath_143 : decode cX11_isPath 143 = .ok (.iconst 0, 1) := by decide +kernel
theorem dX11_isPath_144 : decode cX11_isPath 144 = .ok (.istore_n 2, 1) := by decide +kernel
theorem dX11_isPath_145 : decode cX11_isPath 145 = .ok (.iload_n 2, 1) := by decide +kernel
theorem dX11_isPath_146 : decode cX11_isPath 146 = .ok (.ifCond .eq 34, 3) := by decide +kernel
theorem dX11_isPath_149 : decode cX11_isPath 149 = .ok (.aload_n 0, 1) := by decide +kernel
theorem dX11_isPath_150 : decode cX11_isPath 150 = .ok (.getfield 13, 3) := by decide +kernel
theorem dX11_isPath_153 : decode cX11_isPath 153 = .ok (.aload_n 0, 1) := by decide +kernel
theorem dX11_isPath_154 : decode cX11_isPath 154 = .ok (.getfield 109, 3) := by decide +kernel
theorem dX11_isPath_157 : decode cX11_isPath 157 = .ok (.iload_n 1, 1) := by decide +kernel
theorem dX11_isPath_158 : decode cX11_isPath 158 = .ok (.iastore, 1) := by decide +kernel
theorem dX11_isPath_159 : decode cX11_isPath 159 = .ok (.aload_n 0, 1) := by decide +kernel
theorem dX11_isPath_160 : decode cX11_isPath 160 = .ok (.getfield 17, 3) := by decide +kernel
theorem dX11_isPath_163 : decode cX11_isPath 163 = .ok (.aload_n 0, 1) := by decide +kernel
theorem dX11_isPath_164 : decode cX11_isPath 164 = .ok (.getfield 109, 3) := by decide +kernel
theorem dX11_isPath_167 : decode cX11_isPath 167 = .ok (.iload 5, 2) := by decide +kernel
theorem dX11_isPath_169 : decode cX11_isPath 169 = .ok (.iastore, 1) := by decide +kernel
theorem dX11_isPath_170 : decode cX11_isPath 170 = .ok (.aload_n 0, 1) := by decide +kernel
theorem dX11_isPath_171 : decode cX11_isPath 171 = .ok (.dup, 1) := by decide +kernel
theorem dX11_isPath_172 : decode cX11_isPath 172 = .ok (.getfield 109, 3) := by decide +kernel
theorem dX11_isPath_175 : decode cX11_isPath 175 = .ok (.iconst 1, 1) := by decide +kernel
theorem dX11_isPath_176 : decode cX11_isPath 176 = .ok (.iadd, 1) := by decide +kernel
theorem dX11_isPath_177 : decode cX11_isPath 177 = .ok (.putfield 109, 3) := by decide +kernel
theorem dX11_isPath_180 : decode cX11_isPath 180 = .ok (.iload_n 3, 1) := by decide +kernel
theorem dX11_isPath_181 : decode cX11_isPath 181 = .ok (.iconst 1, 1) := by decide +kernel
theorem dX11_isPath_182 : decode cX11_isPath 182 = .ok (.iadd, 1) := by decide +kernel
theorem dX11_isPath_183 : decode cX11_isPath 183 = .ok (.istore_n 1, 1) := by decide +kernel
theorem dX11_isPath_184 : decode cX11_isPath 184 = .ok (.goto 13, 3) := by decide +kernel
theorem dX11_isPath_187 : decode cX11_isPath 187 = .ok (.aload_n 0, 1) := by decide +kernel
theorem dX11_isPath_188 : decode cX11_isPath 188 = .ok (.getfield 7, 3) := by decide +kernel
theorem dX11_isPath_191 : decode cX11_isPath 191 = .ok (.iload_n 3, 1) := by decide +kernel
theorem dX11_isPath_192 : decode cX11_isPath 192 = .ok (.baload, 1) := by decide +kernel
theorem dX11_isPath_193 : decode cX11_isPath 193 = .ok (.invokestatic 112, 3) := by decide +kernel
theorem dX11_isPath_196 : decode cX11_isPath 196 = .ok (.istore_n 2, 1) := by decide +kernel
theorem dX11_isPath_197 : decode cX11_isPath 197 = .ok (.iinc 3 1, 3) := by decide +kernel
theorem dX11_isPath_200 : decode cX11_isPath 200 = .ok (.goto (-189), 3) := by decide +kernel
theorem dX11_isPath_203 : decode cX11_isPath 203 = .ok (.iload_n 2, 1) := by decide +kernel
theorem dX11_isPath_204 : decode cX11_isPath 204 = .ok (.ireturn, 1) := by decide +kernel
theorem dX11_isNamed_0 : decode cX11_isNamed 0 = .ok (.aload_n 0, 1) := by decide +kernel
theorem dX11_isNamed_1 : decode cX11_isNamed 1 = .ok (.getfield 26, 3) := by decide +kernel
theorem dX11_isNamed_4 : decode cX11_isNamed 4 = .ok (.iload_n 1, 1) := by decide +kernel
theorem dX11_isNamed_5 : decode cX11_isNamed 5 = .ok (.iaload, 1) := by decide +kernel
theorem dX11_isNamed_6 : decode cX11_isNamed 6 = .ok (.aload_n 0, 1) := by decide +kernel
theorem dX11_isNamed_7 : decode cX11_isNamed 7 = .ok (.getfield 17, 3) := by decide +kernel
theorem dX11_isNamed_10 : decode cX11_isNamed 10 = .ok (.iload_n 2, 1) := by decide +kernel
theorem dX11_isNamed_11 : decode cX11_isNamed 11 = .ok (.iaload, 1) := by decide +kernel
theorem dX11_isNamed_12 : decode cX11_isNamed 12 = .ok (.if_icmp .eq 5, 3) := by decide +kernel
theorem dX11_isNamed_15 : decode cX11_isNamed 15 = .ok (.iconst 0, 1) := by decide +kernel
theorem dX11_isNamed_16 : decode cX11_isNamed 16 = .ok (.ireturn, 1) := by decide +kernel
theorem dX11_isNamed_17 : decode cX11_isNamed 17 = .ok (.iconst 0, 1) := by decide +kernel
theorem dX11_isNamed_18 : decode cX11_isNamed 18 = .ok (.istore_n 3, 1) := by decide +kernel
theorem dX11_isNamed_19 : decode cX11_isNamed 19 = .ok (.iload_n 3, 1) := by decide +kernel
theorem dX11_isNamed_20 : decode cX11_isNamed 20 = .ok (.aload_n 0, 1) := by decide +kernel
theorem dX11_isNamed_21 : decode cX11_isNamed 21 = .ok (.getfield 26, 3) := by decide +kernel
theorem dX11_isNamed_24 : decode cX11_isNamed 24 = .ok (.iload_n 1, 1) := by decide +kernel
theorem dX11_isNamed_25 : decode cX11_isNamed 25 = .ok (.iaload, 1) := by decide +kernel
theorem dX11_isNamed_26 : decode cX11_isNamed 26 = .ok (.if_icmp .ge 38, 3) := by decide +kernel
theorem dX11_isNamed_29 : decode cX11_isNamed 29 = .ok (.aload_n 0, 1) := by decide +kernel
theorem dX11_isNamed_30 : decode cX11_isNamed 30 = .ok (.getfield 39, 3) := by decide +kernel
theorem dX11_isNamed_33 : decode cX11_isNamed 33 = .ok (.bipush 8, 2) := by decide +kernel
theorem dX11_isNamed_35 : decode cX11_isNamed 35 = .ok (.iload_n 1, 1) := by decide +kernel
theorem dX11_isNamed_36 : decode cX11_isNamed 36 = .ok (.imul, 1) := by decide +kernel
theorem dX11_isNamed_37 : decode cX11_isNamed 37 = .ok (.iload_n 3, 1) := by decide +kernel
theorem dX11_isNamed_38 : decode cX11_isNamed 38 = .ok (.iadd, 1) := by decide +kernel
theorem dX11_isNamed_39 : decode cX11_isNamed 39 = .ok (.baload, 1) := by decide +kernel
theorem dX11_isNamed_40 : decode cX11_isNamed 40 = .ok (.aload_n 0, 1) := by decide +kernel
theorem dX11_isNamed_41 : decode cX11_isNamed 41 = .ok (.getfield 7, 3) := by decide +kernel
theorem dX11_isNamed_44 : decode cX11_isNamed 44 = .ok (.aload_n 0, 1) := by decide +kernel
theorem dX11_isNamed_45 : decode cX11_isNamed 45 = .ok (.getfield 13, 3) := by decide +kernel
theorem dX11_isNamed_48 : decode cX11_isNamed 48 = .ok (.iload_n 2, 1) := by decide +kernel
theorem dX11_isNamed_49 : decode cX11_isNamed 49 = .ok (.iaload, 1) := by decide +kernel
theorem dX11_isNamed_50 : decode cX11_isNamed 50 = .ok (.iload_n 3, 1) := by decide +kernel
theorem dX11_isNamed_51 : decode cX11_isNamed 51 = .ok (.iadd, 1) := by decide +kernel
theorem dX11_isNamed_52 : decode cX11_isNamed 52 = .ok (.baload, 1) := by decide +kernel
theorem dX11_isNamed_53 : decode cX11_isNamed 53 = .ok (.if_icmp .eq 5, 3) := by decide +kernel
theorem dX11_isNamed_56 : decode cX11_isNamed 56 = .ok (.iconst 0, 1) := by decide +kernel
theorem dX11_isNamed_57 : decode cX11_isNamed 57 = .ok (.ireturn, 1) := by decide +kernel
theorem dX11_isNamed_58 : decode cX11_isNamed 58 = .ok (.iinc 3 1, 3) := by decide +kernel
theorem dX11_isNamed_61 : decode cX11_isNamed 61 = .ok (.goto (-42), 3) := by decide +kernel
theorem dX11_isNamed_64 : decode cX11_isNamed 64 = .ok (.iconst 1, 1) := by decide +kernel
theorem dX11_isNamed_65 : decode cX11_isNamed 65 = .ok (.ireturn, 1) := by decide +kernel
theorem dX11_child_0 : decode cX11_child 0 = .ok (.iconst 0, 1) := by decide +kernel
theorem dX11_child_1 : decode cX11_child 1 = .ok (.istore_n 3, 1) := by decide +kernel
theorem dX11_child_2 : decode cX11_child 2 = .ok (.iload_n 3, 1) := by decide +kernel
theorem dX11_child_3 : decode cX11_child 3 = .ok (.bipush 60, 2) := by decide +kernel
theorem dX11_child_5 : decode cX11_child 5 = .ok (.if_icmp .ge 39, 3) := by decide +kernel
theorem dX11_child_8 : decode cX11_child 8 = .ok (.aload_n 0, 1) := by decide +kernel
theorem dX11_child_9 : decode cX11_child 9 = .ok (.getfield 20, 3) := by decide +kernel
theorem dX11_child_12 : decode cX11_child 12 = .ok (.iload_n 3, 1) := by decide +kernel
theorem dX11_child_13 : decode cX11_child 13 = .ok (.iaload, 1) := by decide +kernel
theorem dX11_child_14 : decode cX11_child 14 = .ok (.ifCond .le 24, 3) := by decide +kernel
theorem dX11_child_17 : decode cX11_child 17 = .ok (.aload_n 0, 1) := by decide +kernel
theorem dX11_child_18 : decode cX11_child 18 = .ok (.getfield 23, 3) := by decide +kernel
theorem dX11_child_21 : decode cX11_child 21 = .ok (.iload_n 3, 1) := by decide +kernel
theorem dX11_child_22 : decode cX11_child 22 = .ok (.iaload, 1) := by decide +kernel
theorem dX11_child_23 : decode cX11_child 23 = .ok (.iload_n 1, 1) := by decide +kernel
theorem dX11_child_24 : decode cX11_child 24 = .ok (.if_icmp .ne 14, 3) := by decide +kernel
theorem dX11_child_27 : decode cX11_child 27 = .ok (.aload_n 0, 1) := by decide +kernel
theorem dX11_child_28 : decode cX11_child 28 = .ok (.iload_n 3, 1) := by decide +kernel
theorem dX11_child_29 : decode cX11_child 29 = .ok (.iload_n 2, 1) := by decide +kernel
theorem dX11_child_30 : decode cX11_child 30 = .ok (.invokevirtual 116, 3) := by decide +kernel
theorem dX11_child_33 : decode cX11_child 33 = .ok (.ifCond .eq 5, 3) := by decide +kernel
theorem dX11_child_36 : decode cX11_child 36 = .ok (.iload_n 3, 1) := by decide +kernel
theorem dX11_child_37 : decode cX11_child 37 = .ok (.ireturn, 1) := by decide +kernel
theorem dX11_child_38 : decode cX11_child 38 = .ok (.iinc 3 1, 3) := by decide +kernel
theorem dX11_child_41 : decode cX11_child 41 = .ok (.goto (-39), 3) := by decide +kernel
theorem dX11_child_44 : decode cX11_child 44 = .ok (.iconst (-1), 1) := by decide +kernel
theorem dX11_child_45 : decode cX11_child 45 = .ok (.ireturn, 1) := by decide +kernel
theorem dX11_go_0 : decode cX11_go 0 = .ok (.bipush 60, 2) := by decide +kernel
theorem dX11_go_2 : decode cX11_go 2 = .ok (.istore_n 1, 1) := by decide +kernel
theorem dX11_go_3 : decode cX11_go 3 = .ok (.aload_n 0, 1) := by decide +kernel
theorem dX11_go_4 : decode cX11_go 4 = .ok (.iconst 0, 1) := by decide +kernel
theorem dX11_go_5 : decode cX11_go 5 = .ok (.putfield 120, 3) := by decide +kernel
theorem dX11_go_8 : decode cX11_go 8 = .ok (.iconst 1, 1) := by decide +kernel
theorem dX11_go_9 : decode cX11_go 9 = .ok (.istore_n 2, 1) := by decide +kernel
theorem dX11_go_10 : decode cX11_go 10 = .ok (.iload_n 2, 1) := by decide +kernel
theorem dX11_go_11 : decode cX11_go 11 = .ok (.ifCond .eq 68, 3) := by decide +kernel
theorem dX11_go_14 : decode cX11_go 14 = .ok (.aload_n 0, 1) := by decide +kernel
theorem dX11_go_15 : decode cX11_go 15 = .ok (.getfield 120, 3) := by decide +kernel
theorem dX11_go_18 : decode cX11_go 18 = .ok (.aload_n 0, 1) := by decide +kernel
theorem dX11_go_19 : decode cX11_go 19 = .ok (.getfield 109, 3) := by decide +kernel
theorem dX11_go_22 : decode cX11_go 22 = .ok (.if_icmp .ge 57, 3) := by decide +kernel
theorem dX11_go_25 : decode cX11_go 25 = .ok (.aload_n 0, 1) := by decide +kernel
theorem dX11_go_26 : decode cX11_go 26 = .ok (.getfield 20, 3) := by decide +kernel
theorem dX11_go_29 : decode cX11_go 29 = .ok (.iload_n 1, 1) := by decide +kernel
theorem dX11_go_30 : decode cX11_go 30 = .ok (.iaload, 1) := by decide +kernel
theorem dX11_go_31 : decode cX11_go 31 = .ok (.iconst 2, 1) := by decide +kernel
theorem dX11_go_32 : decode cX11_go 32 = .ok (.if_icmp .ne 15, 3) := by decide +kernel
theorem dX11_go_35 : decode cX11_go 35 = .ok (.aload_n 0, 1) := by decide +kernel
theorem dX11_go_36 : decode cX11_go 36 = .ok (.iload_n 1, 1) := by decide +kernel
theorem dX11_go_37 : decode cX11_go 37 = .ok (.aload_n 0, 1) := by decide +kernel
theorem dX11_go_38 : decode cX11_go 38 = .ok (.getfield 120, 3) := by decide +kernel
theorem dX11_go_41 : decode cX11_go 41 = .ok (.invokevirtual 123, 3) := by decide +kernel
theorem dX11_go_44 : decode cX11_go 44 = .ok (.goto 4, 3) := by decide +kernel
theorem dX11_go_47 : decode cX11_go 47 = .ok (.iconst (-1), 1) := by decide +kernel
theorem dX11_go_48 : decode cX11_go 48 = .ok (.istore_n 3, 1) := by decide +kernel
theorem dX11_go_49 : decode cX11_go 49 = .ok (.iload_n 3, 1) := by decide +kernel
theorem dX11_go_50 : decode cX11_go 50 = .ok (.iconst (-1), 1) := by decide +kernel
theorem dX11_go_51 : decode cX11_go 51 = .ok (.if_icmp .eq 7, 3) := by decide +kernel
theorem dX11_go_54 : decode cX11_go 54 = .ok (.iconst 1, 1) := by decide +kernel
theorem dX11_go_55 : decode cX11_go 55 = .ok (.goto 4, 3) := by decide +kernel
theorem dX11_go_58 : decode cX11_go 58 = .ok (.iconst 0, 1) := by decide +kernel
theorem dX11_go_59 : decode cX11_go 59 = .ok (.istore_n 2, 1) := by decide +kernel
theorem dX11_go_60 : decode cX11_go 60 = .ok (.iload_n 2, 1) := by decide +kernel
theorem dX11_go_61 : decode cX11_go 61 = .ok (.ifCond .eq 15, 3) := by decide +kernel
theorem dX11_go_64 : decode cX11_go 64 = .ok (.iload_n 3, 1) := by decide +kernel
theorem dX11_go_65 : decode cX11_go 65 = .ok (.istore_n 1, 1) := by decide +kernel
theorem dX11_go_66 : decode cX11_go 66 = .ok (.aload_n 0, 1) := by decide +kernel
theorem dX11_go_67 : decode cX11_go 67 = .ok (.dup, 1) := by decide +kernel
theorem dX11_go_68 : decode cX11_go 68 = .ok (.getfield 120, 3) := by decide +kernel
theorem dX11_go_71 : decode cX11_go 71 = .ok (.iconst 1, 1) := by decide +kernel
theorem dX11_go_72 : decode cX11_go 72 = .ok (.iadd, 1) := by decide +kernel
theorem dX11_go_73 : decode cX11_go 73 = .ok (.putfield 120, 3) := by decide +kernel
theorem dX11_go_76 : decode cX11_go 76 = .ok (.goto (-66), 3) := by decide +kernel
theorem dX11_go_79 : decode cX11_go 79 = .ok (.iload_n 1, 1) := by decide +kernel
theorem dX11_go_80 : decode cX11_go 80 = .ok (.ireturn, 1) := by decide +kernel
theorem dX11_many_0 : decode cX11_many 0 = .ok (.iconst 0, 1) := by decide +kernel
theorem dX11_many_1 : decode cX11_many 1 = .ok (.istore_n 1, 1) := by decide +kernel
theorem dX11_many_2 : decode cX11_many 2 = .ok (.iconst 0, 1) := by decide +kernel
theorem dX11_many_3 : decode cX11_many 3 = .ok (.istore_n 2, 1) := by decide +kernel
theorem dX11_many_4 : decode cX11_many 4 = .ok (.iload_n 2, 1) := by decide +kernel
theorem dX11_many_5 : decode cX11_many 5 = .ok (.bipush 60, 2) := by decide +kernel
theorem dX11_many_7 : decode cX11_many 7 = .ok (.if_icmp .ge 26, 3) := by decide +kernel
theorem dX11_many_10 : decode cX11_many 10 = .ok (.iload_n 1, 1) := by decide +kernel
theorem dX11_many_11 : decode cX11_many 11 = .ok (.aload_n 0, 1) := by decide +kernel
theorem dX11_many_12 : decode cX11_many 12 = .ok (.getfield 20, 3) := by decide +kernel
theorem dX11_many_15 : decode cX11_many 15 = .ok (.iload_n 2, 1) := by decide +kernel
theorem dX11_many_16 : decode cX11_many 16 = .ok (.iaload, 1) := by decide +kernel
theorem dX11_many_17 : decode cX11_many 17 = .ok (.ifCond .le 7, 3) := by decide +kernel
theorem dX11_many_20 : decode cX11_many 20 = .ok (.iconst 1, 1) := by decide +kernel
theorem dX11_many_21 : decode cX11_many 21 = .ok (.goto 4, 3) := by decide +kernel
theorem dX11_many_24 : decode cX11_many 24 = .ok (.iconst 0, 1) := by decide +kernel
theorem dX11_many_25 : decode cX11_many 25 = .ok (.iadd, 1) := by decide +kernel
theorem dX11_many_26 : decode cX11_many 26 = .ok (.istore_n 1, 1) := by decide +kernel
theorem dX11_many_27 : decode cX11_many 27 = .ok (.iinc 2 1, 3) := by decide +kernel
theorem dX11_many_30 : decode cX11_many 30 = .ok (.goto (-26), 3) := by decide +kernel
theorem dX11_many_33 : decode cX11_many 33 = .ok (.iload_n 1, 1) := by decide +kernel
theorem dX11_many_34 : decode cX11_many 34 = .ok (.ireturn, 1) := by decide +kernel
theorem dX11_touch_0 : decode cX11_touch 0 = .ok (.aload_n 0, 1) := by decide +kernel
theorem dX11_touch_1 : decode cX11_touch 1 = .ok (.dup, 1) := by decide +kernel
theorem dX11_touch_2 : decode cX11_touch 2 = .ok (.getfield 127, 3) := by decide +kernel
theorem dX11_touch_5 : decode cX11_touch 5 = .ok (.iconst 1, 1) := by decide +kernel
theorem dX11_touch_6 : decode cX11_touch 6 = .ok (.iadd, 1) := by decide +kernel
theorem dX11_touch_7 : decode cX11_touch 7 = .ok (.putfield 127, 3) := by decide +kernel
theorem dX11_touch_10 : decode cX11_touch 10 = .ok (.aload_n 0, 1) := by decide +kernel
theorem dX11_touch_11 : decode cX11_touch 11 = .ok (.getfield 29, 3) := by decide +kernel
theorem dX11_touch_14 : decode cX11_touch 14 = .ok (.iload_n 1, 1) := by decide +kernel
theorem dX11_touch_15 : decode cX11_touch 15 = .ok (.aload_n 0, 1) := by decide +kernel
theorem dX11_touch_16 : decode cX11_touch 16 = .ok (.getfield 127, 3) := by decide +kernel
theorem dX11_touch_19 : decode cX11_touch 19 = .ok (.iastore, 1) := by decide +kernel
theorem dX11_touch_20 : decode cX11_touch 20 = .ok (.return_, 1) := by decide +kernel
theorem dX11_add_0 : decode cX11_add 0 = .ok (.iconst 0, 1) := by decide +kernel
theorem dX11_add_1 : decode cX11_add 1 = .ok (.istore 4, 2) := by decide +kernel
theorem dX11_add_3 : decode cX11_add 3 = .ok (.aload_n 0, 1) := by decide +kernel
theorem dX11_add_4 : decode cX11_add 4 = .ok (.getfield 20, 3) := by decide +kernel
theorem dX11_add_7 : decode cX11_add 7 = .ok (.iload 4, 2) := by decide +kernel
theorem dX11_add_9 : decode cX11_add 9 = .ok (.iaload, 1) := by decide +kernel
theorem dX11_add_10 : decode cX11_add 10 = .ok (.ifCond .le 9, 3) := by decide +kernel
theorem dX11_add_13 : decode cX11_add 13 = .ok (.iinc 4 1, 3) := by decide +kernel
theorem dX11_add_16 : decode cX11_add 16 = .ok (.goto (-13), 3) := by decide +kernel
theorem dX11_add_19 : decode cX11_add 19 = .ok (.aload_n 0, 1) := by decide +kernel
theorem dX11_add_20 : decode cX11_add 20 = .ok (.getfield 20, 3) := by decide +kernel
theorem dX11_add_23 : decode cX11_add 23 = .ok (.iload 4, 2) := by decide +kernel
theorem dX11_add_25 : decode cX11_add 25 = .ok (.iload_n 3, 1) := by decide +kernel
theorem dX11_add_26 : decode cX11_add 26 = .ok (.iastore, 1) := by decide +kernel
theorem dX11_add_27 : decode cX11_add 27 = .ok (.aload_n 0, 1) := by decide +kernel
theorem dX11_add_28 : decode cX11_add 28 = .ok (.getfield 23, 3) := by decide +kernel
theorem dX11_add_31 : decode cX11_add 31 = .ok (.iload 4, 2) := by decide +kernel
theorem dX11_add_33 : decode cX11_add 33 = .ok (.iload_n 1, 1) := by decide +kernel
theorem dX11_add_34 : decode cX11_add 34 = .ok (.iastore, 1) := by decide +kernel
theorem dX11_add_35 : decode cX11_add 35 = .ok (.aload_n 0, 1) := by decide +kernel
theorem dX11_add_36 : decode cX11_add 36 = .ok (.getfield 26, 3) := by decide +kernel
theorem dX11_add_39 : decode cX11_add 39 = .ok (.iload 4, 2) := by decide +kernel
theorem dX11_add_41 : decode cX11_add 41 = .ok (.aload_n 0, 1) := by decide +kernel
theorem dX11_add_42 : decode cX11_add 42 = .ok (.getfield 17, 3) := by decide +kernel
theorem dX11_add_45 : decode cX11_add 45 = .ok (.iload_n 2, 1) := by decide +kernel
theorem dX11_add_46 : decode cX11_add 46 = .ok (.iaload, 1) := by decide +kernel
theorem dX11_add_47 : decode cX11_add 47 = .ok (.iastore, 1) := by decide +kernel
theorem dX11_add_48 : decode cX11_add 48 = .ok (.iconst 0, 1) := by decide +kernel
theorem dX11_add_49 : decode cX11_add 49 = .ok (.istore 5, 2) := by decide +kernel
theorem dX11_add_51 : decode cX11_add 51 = .ok (.iload 5, 2) := by decide +kernel
theorem dX11_add_53 : decode cX11_add 53 = .ok (.aload_n 0, 1) := by decide +kernel
theorem dX11_add_54 : decode cX11_add 54 = .ok (.getfield 17, 3) := by decide +kernel
theorem dX11_add_57 : decode cX11_add 57 = .ok (.iload_n 2, 1) := by decide +kernel
theorem dX11_add_58 : decode cX11_add 58 = .ok (.iaload, 1) := by decide +kernel
theorem dX11_add_59 : decode cX11_add 59 = .ok (.if_icmp .ge 36, 3) := by decide +kernel
theorem dX11_add_62 : decode cX11_add 62 = .ok (.aload_n 0, 1) := by decide +kernel
theorem dX11_add_63 : decode cX11_add 63 = .ok (.getfield 39, 3) := by decide +kernel
theorem dX11_add_66 : decode cX11_add 66 = .ok (.bipush 8, 2) := by decide +kernel
theorem dX11_add_68 : decode cX11_add 68 = .ok (.iload 4, 2) := by decide +kernel
theorem dX11_add_70 : decode cX11_add 70 = .ok (.imul, 1) := by decide +kernel
theorem dX11_add_71 : decode cX11_add 71 = .ok (.iload 5, 2) := by decide +kernel
theorem dX11_add_73 : decode cX11_add 73 = .ok (.iadd, 1) := by decide +kernel
theorem dX11_add_74 : decode cX11_add 74 = .ok (.aload_n 0, 1) := by decide +kernel
theorem dX11_add_75 : decode cX11_add 75 = .ok (.getfield 7, 3) := by decide +kernel
theorem dX11_add_78 : decode cX11_add 78 = .ok (.aload_n 0, 1) := by decide +kernel
theorem dX11_add_79 : decode cX11_add 79 = .ok (.getfield 13, 3) := by decide +kernel
theorem dX11_add_82 : decode cX11_add 82 = .ok (.iload_n 2, 1) := by decide +kernel
theorem dX11_add_83 : decode cX11_add 83 = .ok (.iaload, 1) := by decide +kernel
theorem dX11_add_84 : decode cX11_add 84 = .ok (.iload 5, 2) := by decide +kernel
theorem dX11_add_86 : decode cX11_add 86 = .ok (.iadd, 1) := by decide +kernel
theorem dX11_add_87 : decode cX11_add 87 = .ok (.baload, 1) := by decide +kernel
theorem dX11_add_88 : decode cX11_add 88 = .ok (.bastore, 1) := by decide +kernel
theorem dX11_add_89 : decode cX11_add 89 = .ok (.iinc 5 1, 3) := by decide +kernel
theorem dX11_add_92 : decode cX11_add 92 = .ok (.goto (-41), 3) := by decide +kernel
theorem dX11_add_95 : decode cX11_add 95 = .ok (.aload_n 0, 1) := by decide +kernel
theorem dX11_add_96 : decode cX11_add 96 = .ok (.dup, 1) := by decide +kernel
theorem dX11_add_97 : decode cX11_add 97 = .ok (.getfield 100, 3) := by decide +kernel
theorem dX11_add_100 : decode cX11_add 100 = .ok (.iconst 1, 1) := by decide +kernel
theorem dX11_add_101 : decode cX11_add 101 = .ok (.iadd, 1) := by decide +kernel
theorem dX11_add_102 : decode cX11_add 102 = .ok (.putfield 100, 3) := by decide +kernel
theorem dX11_add_105 : decode cX11_add 105 = .ok (.aload_n 0, 1) := by decide +kernel
theorem dX11_add_106 : decode cX11_add 106 = .ok (.getfield 32, 3) := by decide +kernel
theorem dX11_add_109 : decode cX11_add 109 = .ok (.iload 4, 2) := by decide +kernel
theorem dX11_add_111 : decode cX11_add 111 = .ok (.aload_n 0, 1) := by decide +kernel
theorem dX11_add_112 : decode cX11_add 112 = .ok (.getfield 100, 3) := by decide +kernel
theorem dX11_add_115 : decode cX11_add 115 = .ok (.iastore, 1) := by decide +kernel
theorem dX11_add_116 : decode cX11_add 116 = .ok (.aload_n 0, 1) := by decide +kernel
theorem dX11_add_117 : decode cX11_add 117 = .ok (.getfield 35, 3) := by decide +kernel
theorem dX11_add_120 : decode cX11_add 120 = .ok (.iload 4, 2) := by decide +kernel
theorem dX11_add_122 : decode cX11_add 122 = .ok (.iconst 0, 1) := by decide +kernel
theorem dX11_add_123 : decode cX11_add 123 = .ok (.bastore, 1) := by decide +kernel
theorem dX11_add_124 : decode cX11_add 124 = .ok (.aload_n 0, 1) := by decide +kernel
theorem dX11_add_125 : decode cX11_add 125 = .ok (.iload_n 1, 1) := by decide +kernel
theorem dX11_add_126 : decode cX11_add 126 = .ok (.invokevirtual 130, 3) := by decide +kernel
theorem dX11_add_129 : decode cX11_add 129 = .ok (.iload 4, 2) := by decide +kernel
theorem dX11_add_131 : decode cX11_add 131 = .ok (.ireturn, 1) := by decide +kernel
theorem dX11_takes_0 : decode cX11_takes 0 = .ok (.aload_n 0, 1) := by decide +kernel
theorem dX11_takes_1 : decode cX11_takes 1 = .ok (.aload_n 0, 1) := by decide +kernel
theorem dX11_takes_2 : decode cX11_takes 2 = .ok (.invokevirtual 134, 3) := by decide +kernel
theorem dX11_takes_5 : decode cX11_takes 5 = .ok (.ifCond .eq 7, 3) := by decide +kernel
theorem dX11_takes_8 : decode cX11_takes 8 = .ok (.iconst 0, 1) := by decide +kernel
theorem dX11_takes_9 : decode cX11_takes 9 = .ok (.goto 4, 3) := by decide +kernel
theorem dX11_takes_12 : decode cX11_takes 12 = .ok (.iconst 1, 1) := by decide +kernel
theorem dX11_takes_13 : decode cX11_takes 13 = .ok (.putfield 103, 3) := by decide +kernel
theorem dX11_takes_16 : decode cX11_takes 16 = .ok (.aload_n 0, 1) := by decide +kernel
theorem dX11_takes_17 : decode cX11_takes 17 = .ok (.getfield 103, 3) := by decide +kernel
theorem dX11_takes_20 : decode cX11_takes 20 = .ok (.ifCond .ne 7, 3) := by decide +kernel
theorem dX11_takes_23 : decode cX11_takes 23 = .ok (.iconst 1, 1) := by decide +kernel
theorem dX11_takes_24 : decode cX11_takes 24 = .ok (.goto 4, 3) := by decide +kernel
theorem dX11_takes_27 : decode cX11_takes 27 = .ok (.iconst 0, 1) := by decide +kernel
theorem dX11_takes_28 : decode cX11_takes 28 = .ok (.ireturn, 1) := by decide +kernel
theorem dX11_put_0 : decode cX11_put 0 = .ok (.iconst 0, 1) := by decide +kernel
theorem dX11_put_1 : decode cX11_put 1 = .ok (.istore_n 2, 1) := by decide +kernel
theorem dX11_put_2 : decode cX11_put 2 = .ok (.aload_n 0, 1) := by decide +kernel
theorem dX11_put_3 : decode cX11_put 3 = .ok (.invokevirtual 138, 3) := by decide +kernel
theorem dX11_put_6 : decode cX11_put 6 = .ok (.ifCond .eq 143, 3) := by decide +kernel
theorem dX11_put_9 : decode cX11_put 9 = .ok (.aload_n 0, 1) := by decide +kernel
theorem dX11_put_10 : decode cX11_put 10 = .ok (.invokevirtual 141, 3) := by decide +kernel
theorem dX11_put_13 : decode cX11_put 13 = .ok (.istore_n 3, 1) := by decide +kernel
theorem dX11_put_14 : decode cX11_put 14 = .ok (.aload_n 0, 1) := by decide +kernel
theorem dX11_put_15 : decode cX11_put 15 = .ok (.getfield 120, 3) := by decide +kernel
theorem dX11_put_18 : decode cX11_put 18 = .ok (.aload_n 0, 1) := by decide +kernel
theorem dX11_put_19 : decode cX11_put 19 = .ok (.getfield 109, 3) := by decide +kernel
theorem dX11_put_22 : decode cX11_put 22 = .ok (.if_icmp .ne 7, 3) := by decide +kernel
theorem dX11_put_25 : decode cX11_put 25 = .ok (.iconst 1, 1) := by decide +kernel
theorem dX11_put_26 : decode cX11_put 26 = .ok (.goto 4, 3) := by decide +kernel
theorem dX11_put_29 : decode cX11_put 29 = .ok (.iconst 0, 1) := by decide +kernel
theorem dX11_put_30 : decode cX11_put 30 = .ok (.istore 4, 2) := by decide +kernel
theorem dX11_put_32 : decode cX11_put 32 = .ok (.iload 4, 2) := by decide +kernel
theorem dX11_put_34 : decode cX11_put 34 = .ok (.ifCond .eq 16, 3) := by decide +kernel
theorem dX11_put_37 : decode cX11_put 37 = .ok (.aload_n 0, 1) := by decide +kernel
theorem dX11_put_38 : decode cX11_put 38 = .ok (.getfield 20, 3) := by decide +kernel
theorem dX11_put_41 : decode cX11_put 41 = .ok (.iload_n 3, 1) := by decide +kernel
theorem dX11_put_42 : decode cX11_put 42 = .ok (.iaload, 1) := by decide +kernel
theorem dX11_put_43 : decode cX11_put 43 = .ok (.iload_n 1, 1) := by decide +kernel
theorem dX11_put_44 : decode cX11_put 44 = .ok (.if_icmp .eq 43, 3) := by decide +kernel
theorem dX11_put_47 : decode cX11_put 47 = .ok (.goto 32, 3) := by decide +kernel
theorem dX11_put_50 : decode cX11_put 50 = .ok (.aload_n 0, 1) := by decide +kernel
theorem dX11_put_51 : decode cX11_put 51 = .ok (.getfield 20, 3) := by decide +kernel
theorem dX11_put_54 : decode cX11_put 54 = .ok (.iload_n 3, 1) := by decide +kernel
theorem dX11_put_55 : decode cX11_put 55 = .ok (.iaload, 1) := by decide +kernel
theorem dX11_put_56 : decode cX11_put 56 = .ok (.iconst 2, 1) := by decide +kernel
theorem dX11_put_57 : decode cX11_put 57 = .ok (.if_icmp .ne 22, 3) := by decide +kernel
theorem dX11_put_60 : decode cX11_put 60 = .ok (.aload_n 0, 1) := by decide +kernel
theorem dX11_put_61 : decode cX11_put 61 = .ok (.invokevirtual 145, 3) := by decide +kernel
theorem dX11_put_64 : decode cX11_put 64 = .ok (.aload_n 0, 1) := by decide +kernel
theorem dX11_put_65 : decode cX11_put 65 = .ok (.getfield 109, 3) := by decide +kernel
theorem dX11_put_68 : decode cX11_put 68 = .ok (.iadd, 1) := by decide +kernel
theorem dX11_put_69 : decode cX11_put 69 = .ok (.aload_n 0, 1) := by decide +kernel
theorem dX11_put_70 : decode cX11_put 70 = .ok (.getfield 120, 3) := by decide +kernel
theorem dX11_put_73 : decode cX11_put 73 = .ok (.isub, 1) := by decide +kernel
theorem dX11_put_74 : decode cX11_put 74 = .ok (.bipush 60, 2) := by decide +kernel
theorem dX11_put_76 : decode cX11_put 76 = .ok (.if_icmp .le 11, 3) := by decide +kernel
theorem dX11_put_79 : decode cX11_put 79 = .ok (.aload_n 0, 1) := by decide +kernel
theorem dX11_put_80 : decode cX11_put 80 = .ok (.iconst 2, 1) := by decide +kernel
theorem dX11_put_81 : decode cX11_put 81 = .ok (.putfield 103, 3) := by decide +kernel
theorem dX11_put_84 : decode cX11_put 84 = .ok (.goto 65, 3) := by decide +kernel
theorem dX11_put_87 : decode cX11_put 87 = .ok (.aload_n 0, 1) := by decide +kernel
theorem dX11_put_88 : decode cX11_put 88 = .ok (.getfield 109, 3) := by decide +kernel
theorem dX11_put_91 : decode cX11_put 91 = .ok (.aload_n 0, 1) := by decide +kernel
theorem dX11_put_92 : decode cX11_put 92 = .ok (.getfield 120, 3) := by decide +kernel
theorem dX11_put_95 : decode cX11_put 95 = .ok (.isub, 1) := by decide +kernel
theorem dX11_put_96 : decode cX11_put 96 = .ok (.istore_n 2, 1) := by decide +kernel
theorem dX11_put_97 : decode cX11_put 97 = .ok (.aload_n 0, 1) := by decide +kernel
theorem dX11_put_98 : decode cX11_put 98 = .ok (.getfield 120, 3) := by decide +kernel
theorem dX11_put_101 : decode cX11_put 101 = .ok (.aload_n 0, 1) := by decide +kernel
theorem dX11_put_102 : decode cX11_put 102 = .ok (.getfield 109, 3) := by decide +kernel
theorem dX11_put_105 : decode cX11_put 105 = .ok (.if_icmp .ge 44, 3) := by decide +kernel
theorem dX11_put_108 : decode cX11_put 108 = .ok (.aload_n 0, 1) := by decide +kernel
theorem dX11_put_109 : decode cX11_put 109 = .ok (.iload_n 3, 1) := by decide +kernel
theorem dX11_put_110 : decode cX11_put 110 = .ok (.aload_n 0, 1) := by decide +kernel
theorem dX11_put_111 : decode cX11_put 111 = .ok (.getfield 120, 3) := by decide +kernel
theorem dX11_put_114 : decode cX11_put 114 = .ok (.aload_n 0, 1) := by decide +kernel
theorem dX11_put_115 : decode cX11_put 115 = .ok (.getfield 120, 3) := by decide +kernel
theorem dX11_put_118 : decode cX11_put 118 = .ok (.iconst 1, 1) := by decide +kernel
theorem dX11_put_119 : decode cX11_put 119 = .ok (.iadd, 1) := by decide +kernel
theorem dX11_put_120 : decode cX11_put 120 = .ok (.aload_n 0, 1) := by decide +kernel
theorem dX11_put_121 : decode cX11_put 121 = .ok (.getfield 109, 3) := by decide +kernel
theorem dX11_put_124 : decode cX11_put 124 = .ok (.if_icmp .ge 7, 3) := by decide +kernel
theorem dX11_put_127 : decode cX11_put 127 = .ok (.iconst 2, 1) := by decide +kernel
theorem dX11_put_128 : decode cX11_put 128 = .ok (.goto 4, 3) := by decide +kernel
theorem dX11_put_131 : decode cX11_put 131 = .ok (.iload_n 1, 1) := by decide +kernel
theorem dX11_put_132 : decode cX11_put 132 = .ok (.invokevirtual 148, 3) := by decide +kernel
theorem dX11_put_135 : decode cX11_put 135 = .ok (.istore_n 3, 1) := by decide +kernel
theorem dX11_put_136 : decode cX11_put 136 = .ok (.aload_n 0, 1) := by decide +kernel
theorem dX11_put_137 : decode cX11_put 137 = .ok (.dup, 1) := by decide +kernel
theorem dX11_put_138 : decode cX11_put 138 = .ok (.getfield 120, 3) := by decide +kernel
theorem dX11_put_141 : decode cX11_put 141 = .ok (.iconst 1, 1) := by decide +kernel
theorem dX11_put_142 : decode cX11_put 142 = .ok (.iadd, 1) := by decide +kernel
theorem dX11_put_143 : decode cX11_put 143 = .ok (.putfield 120, 3) := by decide +kernel
theorem dX11_put_146 : decode cX11_put 146 = .ok (.goto (-49), 3) := by decide +kernel
theorem dX11_put_149 : decode cX11_put 149 = .ok (.aload_n 0, 1) := by decide +kernel
theorem dX11_put_150 : decode cX11_put 150 = .ok (.iconst 0, 1) := by decide +kernel
theorem dX11_put_151 : decode cX11_put 151 = .ok (.putfield 106, 3) := by decide +kernel
theorem dX11_put_154 : decode cX11_put 154 = .ok (.iload_n 2, 1) := by decide +kernel
theorem dX11_put_155 : decode cX11_put 155 = .ok (.ireturn, 1) := by decide +kernel
theorem dX11_file_0 : decode cX11_file 0 = .ok (.aload_n 0, 1) := by decide +kernel
theorem dX11_file_1 : decode cX11_file 1 = .ok (.iconst 1, 1) := by decide +kernel
theorem dX11_file_2 : decode cX11_file 2 = .ok (.invokevirtual 152, 3) := by decide +kernel
theorem dX11_file_5 : decode cX11_file 5 = .ok (.ireturn, 1) := by decide +kernel
theorem dX11_folder_0 : decode cX11_folder 0 = .ok (.aload_n 0, 1) := by decide +kernel
theorem dX11_folder_1 : decode cX11_folder 1 = .ok (.iconst 2, 1) := by decide +kernel
theorem dX11_folder_2 : decode cX11_folder 2 = .ok (.invokevirtual 152, 3) := by decide +kernel
theorem dX11_folder_5 : decode cX11_folder 5 = .ok (.ireturn, 1) := by decide +kernel
theorem dX11_remove_0 : decode cX11_remove 0 = .ok (.iconst 0, 1) := by decide +kernel
theorem dX11_remove_1 : decode cX11_remove 1 = .ok (.istore_n 1, 1) := by decide +kernel
theorem dX11_remove_2 : decode cX11_remove 2 = .ok (.aload_n 0, 1) := by decide +kernel
theorem dX11_remove_3 : decode cX11_remove 3 = .ok (.invokevirtual 138, 3) := by decide +kernel
theorem dX11_remove_6 : decode cX11_remove 6 = .ok (.ifCond .eq 51, 3) := by decide +kernel
theorem dX11_remove_9 : decode cX11_remove 9 = .ok (.aload_n 0, 1) := by decide +kernel
theorem dX11_remove_10 : decode cX11_remove 10 = .ok (.invokevirtual 141, 3) := by decide +kernel
theorem dX11_remove_13 : decode cX11_remove 13 = .ok (.istore_n 2, 1) := by decide +kernel
theorem dX11_remove_14 : decode cX11_remove 14 = .ok (.aload_n 0, 1) := by decide +kernel
theorem dX11_remove_15 : decode cX11_remove 15 = .ok (.getfield 120, 3) := by decide +kernel
theorem dX11_remove_18 : decode cX11_remove 18 = .ok (.aload_n 0, 1) := by decide +kernel
theorem dX11_remove_19 : decode cX11_remove 19 = .ok (.getfield 109, 3) := by decide +kernel
theorem dX11_remove_22 : decode cX11_remove 22 = .ok (.if_icmp .ge 11, 3) := by decide +kernel
theorem dX11_remove_25 : decode cX11_remove 25 = .ok (.aload_n 0, 1) := by decide +kernel
theorem dX11_remove_26 : decode cX11_remove 26 = .ok (.iconst 2, 1) := by decide +kernel
theorem dX11_remove_27 : decode cX11_remove 27 = .ok (.putfield 103, 3) := by decide +kernel
theorem dX11_remove_30 : decode cX11_remove 30 = .ok (.goto 27, 3) := by decide +kernel
theorem dX11_remove_33 : decode cX11_remove 33 = .ok (.aload_n 0, 1) := by decide +kernel
theorem dX11_remove_34 : decode cX11_remove 34 = .ok (.aload_n 0, 1) := by decide +kernel
theorem dX11_remove_35 : decode cX11_remove 35 = .ok (.getfield 23, 3) := by decide +kernel
theorem dX11_remove_38 : decode cX11_remove 38 = .ok (.iload_n 2, 1) := by decide +kernel
theorem dX11_remove_39 : decode cX11_remove 39 = .ok (.iaload, 1) := by decide +kernel
theorem dX11_remove_40 : decode cX11_remove 40 = .ok (.invokevirtual 130, 3) := by decide +kernel
theorem dX11_remove_43 : decode cX11_remove 43 = .ok (.aload_n 0, 1) := by decide +kernel
theorem dX11_remove_44 : decode cX11_remove 44 = .ok (.getfield 20, 3) := by decide +kernel
theorem dX11_remove_47 : decode cX11_remove 47 = .ok (.iload_n 2, 1) := by decide +kernel
theorem dX11_remove_48 : decode cX11_remove 48 = .ok (.iconst 0, 1) := by decide +kernel
theorem dX11_remove_49 : decode cX11_remove 49 = .ok (.iastore, 1) := by decide +kernel
theorem dX11_remove_50 : decode cX11_remove 50 = .ok (.iconst 1, 1) := by decide +kernel
theorem dX11_remove_51 : decode cX11_remove 51 = .ok (.aload_n 0, 1) := by decide +kernel
theorem dX11_remove_52 : decode cX11_remove 52 = .ok (.invokevirtual 156, 3) := by decide +kernel
theorem dX11_remove_55 : decode cX11_remove 55 = .ok (.iadd, 1) := by decide +kernel
theorem dX11_remove_56 : decode cX11_remove 56 = .ok (.istore_n 1, 1) := by decide +kernel
theorem dX11_remove_57 : decode cX11_remove 57 = .ok (.aload_n 0, 1) := by decide +kernel
theorem dX11_remove_58 : decode cX11_remove 58 = .ok (.iconst 0, 1) := by decide +kernel
theorem dX11_remove_59 : decode cX11_remove 59 = .ok (.putfield 106, 3) := by decide +kernel
theorem dX11_remove_62 : decode cX11_remove 62 = .ok (.iload_n 1, 1) := by decide +kernel
theorem dX11_remove_63 : decode cX11_remove 63 = .ok (.ireturn, 1) := by decide +kernel
theorem dX11_orphans_0 : decode cX11_orphans 0 = .ok (.iconst 0, 1) := by decide +kernel
theorem dX11_orphans_1 : decode cX11_orphans 1 = .ok (.istore_n 1, 1) := by decide +kernel
theorem dX11_orphans_2 : decode cX11_orphans 2 = .ok (.iconst 1, 1) := by decide +kernel
theorem dX11_orphans_3 : decode cX11_orphans 3 = .ok (.istore_n 2, 1) := by decide +kernel
theorem dX11_orphans_4 : decode cX11_orphans 4 = .ok (.iload_n 2, 1) := by decide +kernel
theorem dX11_orphans_5 : decode cX11_orphans 5 = .ok (.ifCond .eq 57, 3) := by decide +kernel
theorem dX11_orphans_8 : decode cX11_orphans 8 = .ok (.iconst 0, 1) := by decide +kernel
theorem dX11_orphans_9 : decode cX11_orphans 9 = .ok (.istore_n 2, 1) := by decide +kernel
theorem dX11_orphans_10 : decode cX11_orphans 10 = .ok (.iconst 0, 1) := by decide +kernel
theorem dX11_orphans_11 : decode cX11_orphans 11 = .ok (.istore_n 3, 1) := by decide +kernel
theorem dX11_orphans_12 : decode cX11_orphans 12 = .ok (.iload_n 3, 1) := by decide +kernel
theorem dX11_orphans_13 : decode cX11_orphans 13 = .ok (.bipush 60, 2) := by decide +kernel
theorem dX11_orphans_15 : decode cX11_orphans 15 = .ok (.if_icmp .ge 44, 3) := by decide +kernel
theorem dX11_orphans_18 : decode cX11_orphans 18 = .ok (.aload_n 0, 1) := by decide +kernel
theorem dX11_orphans_19 : decode cX11_orphans 19 = .ok (.getfield 20, 3) := by decide +kernel
theorem dX11_orphans_22 : decode cX11_orphans 22 = .ok (.iload_n 3, 1) := by decide +kernel
theorem dX11_orphans_23 : decode cX11_orphans 23 = .ok (.iaload, 1) := by decide +kernel
theorem dX11_orphans_24 : decode cX11_orphans 24 = .ok (.ifCond .le 29, 3) := by decide +kernel
theorem dX11_orphans_27 : decode cX11_orphans 27 = .ok (.aload_n 0, 1) := by decide +kernel
theorem dX11_orphans_28 : decode cX11_orphans 28 = .ok (.getfield 20, 3) := by decide +kernel
theorem dX11_orphans_31 : decode cX11_orphans 31 = .ok (.aload_n 0, 1) := by decide +kernel
theorem dX11_orphans_32 : decode cX11_orphans 32 = .ok (.getfield 23, 3) := by decide +kernel
theorem dX11_orphans_35 : decode cX11_orphans 35 = .ok (.iload_n 3, 1) := by decide +kernel
theorem dX11_orphans_36 : decode cX11_orphans 36 = .ok (.iaload, 1) := by decide +kernel
theorem dX11_orphans_37 : decode cX11_orphans 37 = .ok (.iaload, 1) := by decide +kernel
theorem dX11_orphans_38 : decode cX11_orphans 38 = .ok (.ifCond .ne 15, 3) := by decide +kernel
theorem dX11_orphans_41 : decode cX11_orphans 41 = .ok (.aload_n 0, 1) := by decide +kernel
theorem dX11_orphans_42 : decode cX11_orphans 42 = .ok (.getfield 20, 3) := by decide +kernel
theorem dX11_orphans_45 : decode cX11_orphans 45 = .ok (.iload_n 3, 1) := by decide +kernel
theorem dX11_orphans_46 : decode cX11_orphans 46 = .ok (.iconst 0, 1) := by decide +kernel
theorem dX11_orphans_47 : decode cX11_orphans 47 = .ok (.iastore, 1) := by decide +kernel
theorem dX11_orphans_48 : decode cX11_orphans 48 = .ok (.iinc 1 1, 3) := by decide +kernel
theorem dX11_orphans_51 : decode cX11_orphans 51 = .ok (.iconst 1, 1) := by decide +kernel
theorem dX11_orphans_52 : decode cX11_orphans 52 = .ok (.istore_n 2, 1) := by decide +kernel
theorem dX11_orphans_53 : decode cX11_orphans 53 = .ok (.iinc 3 1, 3) := by decide +kernel
theorem dX11_orphans_56 : decode cX11_orphans 56 = .ok (.goto (-44), 3) := by decide +kernel
theorem dX11_orphans_59 : decode cX11_orphans 59 = .ok (.goto (-55), 3) := by decide +kernel
theorem dX11_orphans_62 : decode cX11_orphans 62 = .ok (.iload_n 1, 1) := by decide +kernel
theorem dX11_orphans_63 : decode cX11_orphans 63 = .ok (.ireturn, 1) := by decide +kernel
theorem dX11_pack_0 : decode cX11_pack 0 = .ok (.aload_n 0, 1) := by decide +kernel
theorem dX11_pack_1 : decode cX11_pack 1 = .ok (.invokevirtual 138, 3) := by decide +kernel
theorem dX11_pack_4 : decode cX11_pack 4 = .ok (.ifCond .eq 64, 3) := by decide +kernel
theorem dX11_pack_7 : decode cX11_pack 7 = .ok (.aload_n 0, 1) := by decide +kernel
theorem dX11_pack_8 : decode cX11_pack 8 = .ok (.invokevirtual 141, 3) := by decide +kernel
theorem dX11_pack_11 : decode cX11_pack 11 = .ok (.istore_n 2, 1) := by decide +kernel
theorem dX11_pack_12 : decode cX11_pack 12 = .ok (.aload_n 0, 1) := by decide +kernel
theorem dX11_pack_13 : decode cX11_pack 13 = .ok (.getfield 120, 3) := by decide +kernel
theorem dX11_pack_16 : decode cX11_pack 16 = .ok (.aload_n 0, 1) := by decide +kernel
theorem dX11_pack_17 : decode cX11_pack 17 = .ok (.getfield 109, 3) := by decide +kernel
theorem dX11_pack_20 : decode cX11_pack 20 = .ok (.if_icmp .lt 23, 3) := by decide +kernel
theorem dX11_pack_23 : decode cX11_pack 23 = .ok (.aload_n 0, 1) := by decide +kernel
theorem dX11_pack_24 : decode cX11_pack 24 = .ok (.getfield 20, 3) := by decide +kernel
theorem dX11_pack_27 : decode cX11_pack 27 = .ok (.iload_n 2, 1) := by decide +kernel
theorem dX11_pack_28 : decode cX11_pack 28 = .ok (.iaload, 1) := by decide +kernel
theorem dX11_pack_29 : decode cX11_pack 29 = .ok (.iconst 2, 1) := by decide +kernel
theorem dX11_pack_30 : decode cX11_pack 30 = .ok (.if_icmp .ne 13, 3) := by decide +kernel
theorem dX11_pack_33 : decode cX11_pack 33 = .ok (.aload_n 0, 1) := by decide +kernel
theorem dX11_pack_34 : decode cX11_pack 34 = .ok (.getfield 35, 3) := by decide +kernel
theorem dX11_pack_37 : decode cX11_pack 37 = .ok (.iload_n 2, 1) := by decide +kernel
theorem dX11_pack_38 : decode cX11_pack 38 = .ok (.baload, 1) := by decide +kernel
theorem dX11_pack_39 : decode cX11_pack 39 = .ok (.iload_n 1, 1) := by decide +kernel
theorem dX11_pack_40 : decode cX11_pack 40 = .ok (.if_icmp .ne 11, 3) := by decide +kernel
theorem dX11_pack_43 : decode cX11_pack 43 = .ok (.aload_n 0, 1) := by decide +kernel
theorem dX11_pack_44 : decode cX11_pack 44 = .ok (.iconst 2, 1) := by decide +kernel
theorem dX11_pack_45 : decode cX11_pack 45 = .ok (.putfield 103, 3) := by decide +kernel
theorem dX11_pack_48 : decode cX11_pack 48 = .ok (.goto 20, 3) := by decide +kernel
theorem dX11_pack_51 : decode cX11_pack 51 = .ok (.aload_n 0, 1) := by decide +kernel
theorem dX11_pack_52 : decode cX11_pack 52 = .ok (.getfield 35, 3) := by decide +kernel
theorem dX11_pack_55 : decode cX11_pack 55 = .ok (.iload_n 2, 1) := by decide +kernel
theorem dX11_pack_56 : decode cX11_pack 56 = .ok (.iload_n 1, 1) := by decide +kernel
theorem dX11_pack_57 : decode cX11_pack 57 = .ok (.bastore, 1) := by decide +kernel
theorem dX11_pack_58 : decode cX11_pack 58 = .ok (.aload_n 0, 1) := by decide +kernel
theorem dX11_pack_59 : decode cX11_pack 59 = .ok (.aload_n 0, 1) := by decide +kernel
theorem dX11_pack_60 : decode cX11_pack 60 = .ok (.getfield 23, 3) := by decide +kernel
theorem dX11_pack_63 : decode cX11_pack 63 = .ok (.iload_n 2, 1) := by decide +kernel
