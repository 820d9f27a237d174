theorem dX11_pack_64 : decode cX11_pack 64 = .ok (.iaload, 1) := by decide +kernel
theorem dX11_pack_65 : decode cX11_pack 65 = .ok (.invokevirtual 130, 3) := by decide +kernel
theorem dX11_pack_68 : decode cX11_pack 68 = .ok (.aload_n 0, 1) := by decide +kernel
theorem dX11_pack_69 : decode cX11_pack 69 = .ok (.iconst 0, 1) := by decide +kernel
theorem dX11_pack_70 : decode cX11_pack 70 = .ok (.putfield 106, 3) := by decide +kernel
theorem dX11_pack_73 : decode cX11_pack 73 = .ok (.return_, 1) := by decide +kernel
theorem dX11_query_0 : decode cX11_query 0 = .ok (.aload_n 0, 1) := by decide +kernel
theorem dX11_query_1 : decode cX11_query 1 = .ok (.aload_n 0, 1) := by decide +kernel
theorem dX11_query_2 : decode cX11_query 2 = .ok (.getfield 106, 3) := by decide +kernel
theorem dX11_query_5 : decode cX11_query 5 = .ok (.ifCond .le 14, 3) := by decide +kernel
theorem dX11_query_8 : decode cX11_query 8 = .ok (.aload_n 0, 1) := by decide +kernel
theorem dX11_query_9 : decode cX11_query 9 = .ok (.invokevirtual 134, 3) := by decide +kernel
theorem dX11_query_12 : decode cX11_query 12 = .ok (.ifCond .ne 7, 3) := by decide +kernel
theorem dX11_query_15 : decode cX11_query 15 = .ok (.iconst 1, 1) := by decide +kernel
theorem dX11_query_16 : decode cX11_query 16 = .ok (.goto 17, 3) := by decide +kernel
theorem dX11_query_19 : decode cX11_query 19 = .ok (.aload_n 0, 1) := by decide +kernel
theorem dX11_query_20 : decode cX11_query 20 = .ok (.getfield 159, 3) := by decide +kernel
theorem dX11_query_23 : decode cX11_query 23 = .ok (.bipush 6, 2) := by decide +kernel
theorem dX11_query_25 : decode cX11_query 25 = .ok (.if_icmp .ne 7, 3) := by decide +kernel
theorem dX11_query_28 : decode cX11_query 28 = .ok (.iconst 2, 1) := by decide +kernel
theorem dX11_query_29 : decode cX11_query 29 = .ok (.goto 4, 3) := by decide +kernel
theorem dX11_query_32 : decode cX11_query 32 = .ok (.iconst 0, 1) := by decide +kernel
theorem dX11_query_33 : decode cX11_query 33 = .ok (.putfield 103, 3) := by decide +kernel
theorem dX11_query_36 : decode cX11_query 36 = .ok (.iconst 0, 1) := by decide +kernel
theorem dX11_query_37 : decode cX11_query 37 = .ok (.istore_n 1, 1) := by decide +kernel
theorem dX11_query_38 : decode cX11_query 38 = .ok (.aload_n 0, 1) := by decide +kernel
theorem dX11_query_39 : decode cX11_query 39 = .ok (.getfield 103, 3) := by decide +kernel
theorem dX11_query_42 : decode cX11_query 42 = .ok (.ifCond .ne 68, 3) := by decide +kernel
theorem dX11_query_45 : decode cX11_query 45 = .ok (.aload_n 0, 1) := by decide +kernel
theorem dX11_query_46 : decode cX11_query 46 = .ok (.getfield 159, 3) := by decide +kernel
theorem dX11_query_49 : decode cX11_query 49 = .ok (.istore_n 1, 1) := by decide +kernel
theorem dX11_query_50 : decode cX11_query 50 = .ok (.aload_n 0, 1) := by decide +kernel
theorem dX11_query_51 : decode cX11_query 51 = .ok (.getfield 42, 3) := by decide +kernel
theorem dX11_query_54 : decode cX11_query 54 = .ok (.iload_n 1, 1) := by decide +kernel
theorem dX11_query_55 : decode cX11_query 55 = .ok (.aload_n 0, 1) := by decide +kernel
theorem dX11_query_56 : decode cX11_query 56 = .ok (.getfield 106, 3) := by decide +kernel
theorem dX11_query_59 : decode cX11_query 59 = .ok (.iastore, 1) := by decide +kernel
theorem dX11_query_60 : decode cX11_query 60 = .ok (.iconst 0, 1) := by decide +kernel
theorem dX11_query_61 : decode cX11_query 61 = .ok (.istore_n 2, 1) := by decide +kernel
theorem dX11_query_62 : decode cX11_query 62 = .ok (.iload_n 2, 1) := by decide +kernel
theorem dX11_query_63 : decode cX11_query 63 = .ok (.aload_n 0, 1) := by decide +kernel
theorem dX11_query_64 : decode cX11_query 64 = .ok (.getfield 106, 3) := by decide +kernel
theorem dX11_query_67 : decode cX11_query 67 = .ok (.if_icmp .ge 26, 3) := by decide +kernel
theorem dX11_query_70 : decode cX11_query 70 = .ok (.aload_n 0, 1) := by decide +kernel
theorem dX11_query_71 : decode cX11_query 71 = .ok (.getfield 57, 3) := by decide +kernel
theorem dX11_query_74 : decode cX11_query 74 = .ok (.bipush 60, 2) := by decide +kernel
theorem dX11_query_76 : decode cX11_query 76 = .ok (.iload_n 1, 1) := by decide +kernel
theorem dX11_query_77 : decode cX11_query 77 = .ok (.imul, 1) := by decide +kernel
theorem dX11_query_78 : decode cX11_query 78 = .ok (.iload_n 2, 1) := by decide +kernel
theorem dX11_query_79 : decode cX11_query 79 = .ok (.iadd, 1) := by decide +kernel
theorem dX11_query_80 : decode cX11_query 80 = .ok (.aload_n 0, 1) := by decide +kernel
theorem dX11_query_81 : decode cX11_query 81 = .ok (.getfield 7, 3) := by decide +kernel
theorem dX11_query_84 : decode cX11_query 84 = .ok (.iload_n 2, 1) := by decide +kernel
theorem dX11_query_85 : decode cX11_query 85 = .ok (.baload, 1) := by decide +kernel
theorem dX11_query_86 : decode cX11_query 86 = .ok (.bastore, 1) := by decide +kernel
theorem dX11_query_87 : decode cX11_query 87 = .ok (.iinc 2 1, 3) := by decide +kernel
theorem dX11_query_90 : decode cX11_query 90 = .ok (.goto (-28), 3) := by decide +kernel
theorem dX11_query_93 : decode cX11_query 93 = .ok (.aload_n 0, 1) := by decide +kernel
theorem dX11_query_94 : decode cX11_query 94 = .ok (.getfield 63, 3) := by decide +kernel
theorem dX11_query_97 : decode cX11_query 97 = .ok (.iload_n 1, 1) := by decide +kernel
theorem dX11_query_98 : decode cX11_query 98 = .ok (.iconst 1, 1) := by decide +kernel
theorem dX11_query_99 : decode cX11_query 99 = .ok (.bastore, 1) := by decide +kernel
theorem dX11_query_100 : decode cX11_query 100 = .ok (.aload_n 0, 1) := by decide +kernel
theorem dX11_query_101 : decode cX11_query 101 = .ok (.dup, 1) := by decide +kernel
theorem dX11_query_102 : decode cX11_query 102 = .ok (.getfield 159, 3) := by decide +kernel
theorem dX11_query_105 : decode cX11_query 105 = .ok (.iconst 1, 1) := by decide +kernel
theorem dX11_query_106 : decode cX11_query 106 = .ok (.iadd, 1) := by decide +kernel
theorem dX11_query_107 : decode cX11_query 107 = .ok (.putfield 159, 3) := by decide +kernel
theorem dX11_query_110 : decode cX11_query 110 = .ok (.aload_n 0, 1) := by decide +kernel
theorem dX11_query_111 : decode cX11_query 111 = .ok (.iconst 0, 1) := by decide +kernel
theorem dX11_query_112 : decode cX11_query 112 = .ok (.putfield 106, 3) := by decide +kernel
theorem dX11_query_115 : decode cX11_query 115 = .ok (.iload_n 1, 1) := by decide +kernel
theorem dX11_query_116 : decode cX11_query 116 = .ok (.ireturn, 1) := by decide +kernel
theorem dX11_at_0 : decode cX11_at 0 = .ok (.iload_n 1, 1) := by decide +kernel
theorem dX11_at_1 : decode cX11_at 1 = .ok (.aload_n 0, 1) := by decide +kernel
theorem dX11_at_2 : decode cX11_at 2 = .ok (.getfield 106, 3) := by decide +kernel
theorem dX11_at_5 : decode cX11_at 5 = .ok (.if_icmp .ge 12, 3) := by decide +kernel
theorem dX11_at_8 : decode cX11_at 8 = .ok (.aload_n 0, 1) := by decide +kernel
theorem dX11_at_9 : decode cX11_at 9 = .ok (.getfield 7, 3) := by decide +kernel
theorem dX11_at_12 : decode cX11_at 12 = .ok (.iload_n 1, 1) := by decide +kernel
theorem dX11_at_13 : decode cX11_at 13 = .ok (.baload, 1) := by decide +kernel
theorem dX11_at_14 : decode cX11_at 14 = .ok (.goto 4, 3) := by decide +kernel
theorem dX11_at_17 : decode cX11_at 17 = .ok (.iconst (-1), 1) := by decide +kernel
theorem dX11_at_18 : decode cX11_at 18 = .ok (.ireturn, 1) := by decide +kernel
theorem dX11_part_0 : decode cX11_part 0 = .ok (.aload_n 0, 1) := by decide +kernel
theorem dX11_part_1 : decode cX11_part 1 = .ok (.iload_n 1, 1) := by decide +kernel
theorem dX11_part_2 : decode cX11_part 2 = .ok (.invokevirtual 162, 3) := by decide +kernel
theorem dX11_part_5 : decode cX11_part 5 = .ok (.istore_n 2, 1) := by decide +kernel
theorem dX11_part_6 : decode cX11_part 6 = .ok (.iload_n 2, 1) := by decide +kernel
theorem dX11_part_7 : decode cX11_part 7 = .ok (.invokestatic 112, 3) := by decide +kernel
theorem dX11_part_10 : decode cX11_part 10 = .ok (.ifCond .ne 9, 3) := by decide +kernel
theorem dX11_part_13 : decode cX11_part 13 = .ok (.iload_n 2, 1) := by decide +kernel
theorem dX11_part_14 : decode cX11_part 14 = .ok (.bipush 42, 2) := by decide +kernel
theorem dX11_part_16 : decode cX11_part 16 = .ok (.if_icmp .ne 7, 3) := by decide +kernel
theorem dX11_part_19 : decode cX11_part 19 = .ok (.iload_n 1, 1) := by decide +kernel
theorem dX11_part_20 : decode cX11_part 20 = .ok (.iconst 1, 1) := by decide +kernel
theorem dX11_part_21 : decode cX11_part 21 = .ok (.iadd, 1) := by decide +kernel
theorem dX11_part_22 : decode cX11_part 22 = .ok (.ireturn, 1) := by decide +kernel
theorem dX11_part_23 : decode cX11_part 23 = .ok (.iload_n 2, 1) := by decide +kernel
theorem dX11_part_24 : decode cX11_part 24 = .ok (.bipush 91, 2) := by decide +kernel
theorem dX11_part_26 : decode cX11_part 26 = .ok (.if_icmp .eq 7, 3) := by decide +kernel
theorem dX11_part_29 : decode cX11_part 29 = .ok (.iconst (-1), 1) := by decide +kernel
theorem dX11_part_30 : decode cX11_part 30 = .ok (.iload_n 1, 1) := by decide +kernel
theorem dX11_part_31 : decode cX11_part 31 = .ok (.isub, 1) := by decide +kernel
theorem dX11_part_32 : decode cX11_part 32 = .ok (.ireturn, 1) := by decide +kernel
theorem dX11_part_33 : decode cX11_part 33 = .ok (.iload_n 1, 1) := by decide +kernel
theorem dX11_part_34 : decode cX11_part 34 = .ok (.iconst 1, 1) := by decide +kernel
theorem dX11_part_35 : decode cX11_part 35 = .ok (.iadd, 1) := by decide +kernel
theorem dX11_part_36 : decode cX11_part 36 = .ok (.istore_n 3, 1) := by decide +kernel
theorem dX11_part_37 : decode cX11_part 37 = .ok (.iload_n 3, 1) := by decide +kernel
theorem dX11_part_38 : decode cX11_part 38 = .ok (.iload_n 1, 1) := by decide +kernel
theorem dX11_part_39 : decode cX11_part 39 = .ok (.bipush 7, 2) := by decide +kernel
theorem dX11_part_41 : decode cX11_part 41 = .ok (.iadd, 1) := by decide +kernel
theorem dX11_part_42 : decode cX11_part 42 = .ok (.if_icmp .ge 20, 3) := by decide +kernel
theorem dX11_part_45 : decode cX11_part 45 = .ok (.aload_n 0, 1) := by decide +kernel
theorem dX11_part_46 : decode cX11_part 46 = .ok (.iload_n 3, 1) := by decide +kernel
theorem dX11_part_47 : decode cX11_part 47 = .ok (.invokevirtual 162, 3) := by decide +kernel
theorem dX11_part_50 : decode cX11_part 50 = .ok (.invokestatic 112, 3) := by decide +kernel
theorem dX11_part_53 : decode cX11_part 53 = .ok (.ifCond .eq 9, 3) := by decide +kernel
theorem dX11_part_56 : decode cX11_part 56 = .ok (.iinc 3 1, 3) := by decide +kernel
theorem dX11_part_59 : decode cX11_part 59 = .ok (.goto (-22), 3) := by decide +kernel
theorem dX11_part_62 : decode cX11_part 62 = .ok (.iload_n 3, 1) := by decide +kernel
theorem dX11_part_63 : decode cX11_part 63 = .ok (.iload_n 1, 1) := by decide +kernel
theorem dX11_part_64 : decode cX11_part 64 = .ok (.iconst 1, 1) := by decide +kernel
theorem dX11_part_65 : decode cX11_part 65 = .ok (.iadd, 1) := by decide +kernel
theorem dX11_part_66 : decode cX11_part 66 = .ok (.if_icmp .le 19, 3) := by decide +kernel
theorem dX11_part_69 : decode cX11_part 69 = .ok (.aload_n 0, 1) := by decide +kernel
theorem dX11_part_70 : decode cX11_part 70 = .ok (.iload_n 3, 1) := by decide +kernel
theorem dX11_part_71 : decode cX11_part 71 = .ok (.invokevirtual 162, 3) := by decide +kernel
theorem dX11_part_74 : decode cX11_part 74 = .ok (.bipush 93, 2) := by decide +kernel
theorem dX11_part_76 : decode cX11_part 76 = .ok (.if_icmp .ne 9, 3) := by decide +kernel
theorem dX11_part_79 : decode cX11_part 79 = .ok (.iload_n 3, 1) := by decide +kernel
theorem dX11_part_80 : decode cX11_part 80 = .ok (.iconst 1, 1) := by decide +kernel
theorem dX11_part_81 : decode cX11_part 81 = .ok (.iadd, 1) := by decide +kernel
theorem dX11_part_82 : decode cX11_part 82 = .ok (.goto 6, 3) := by decide +kernel
theorem dX11_part_85 : decode cX11_part 85 = .ok (.iconst (-1), 1) := by decide +kernel
theorem dX11_part_86 : decode cX11_part 86 = .ok (.iload_n 3, 1) := by decide +kernel
theorem dX11_part_87 : decode cX11_part 87 = .ok (.isub, 1) := by decide +kernel
theorem dX11_part_88 : decode cX11_part 88 = .ok (.ireturn, 1) := by decide +kernel
theorem dX11_piece_0 : decode cX11_piece 0 = .ok (.aload_n 0, 1) := by decide +kernel
theorem dX11_piece_1 : decode cX11_piece 1 = .ok (.iload_n 1, 1) := by decide +kernel
theorem dX11_piece_2 : decode cX11_piece 2 = .ok (.invokevirtual 162, 3) := by decide +kernel
theorem dX11_piece_5 : decode cX11_piece 5 = .ok (.bipush 42, 2) := by decide +kernel
theorem dX11_piece_7 : decode cX11_piece 7 = .ok (.if_icmp .ne 69, 3) := by decide +kernel
theorem dX11_piece_10 : decode cX11_piece 10 = .ok (.aload_n 0, 1) := by decide +kernel
theorem dX11_piece_11 : decode cX11_piece 11 = .ok (.iload_n 1, 1) := by decide +kernel
theorem dX11_piece_12 : decode cX11_piece 12 = .ok (.iconst 1, 1) := by decide +kernel
theorem dX11_piece_13 : decode cX11_piece 13 = .ok (.iadd, 1) := by decide +kernel
theorem dX11_piece_14 : decode cX11_piece 14 = .ok (.invokevirtual 162, 3) := by decide +kernel
theorem dX11_piece_17 : decode cX11_piece 17 = .ok (.bipush 42, 2) := by decide +kernel
theorem dX11_piece_19 : decode cX11_piece 19 = .ok (.if_icmp .ne 57, 3) := by decide +kernel
theorem dX11_piece_22 : decode cX11_piece 22 = .ok (.aload_n 0, 1) := by decide +kernel
theorem dX11_piece_23 : decode cX11_piece 23 = .ok (.iload_n 1, 1) := by decide +kernel
theorem dX11_piece_24 : decode cX11_piece 24 = .ok (.iconst 2, 1) := by decide +kernel
theorem dX11_piece_25 : decode cX11_piece 25 = .ok (.iadd, 1) := by decide +kernel
theorem dX11_piece_26 : decode cX11_piece 26 = .ok (.invokevirtual 162, 3) := by decide +kernel
theorem dX11_piece_29 : decode cX11_piece 29 = .ok (.iconst (-1), 1) := by decide +kernel
theorem dX11_piece_30 : decode cX11_piece 30 = .ok (.if_icmp .eq 15, 3) := by decide +kernel
theorem dX11_piece_33 : decode cX11_piece 33 = .ok (.aload_n 0, 1) := by decide +kernel
theorem dX11_piece_34 : decode cX11_piece 34 = .ok (.iload_n 1, 1) := by decide +kernel
theorem dX11_piece_35 : decode cX11_piece 35 = .ok (.iconst 2, 1) := by decide +kernel
theorem dX11_piece_36 : decode cX11_piece 36 = .ok (.iadd, 1) := by decide +kernel
theorem dX11_piece_37 : decode cX11_piece 37 = .ok (.invokevirtual 162, 3) := by decide +kernel
theorem dX11_piece_40 : decode cX11_piece 40 = .ok (.bipush 47, 2) := by decide +kernel
theorem dX11_piece_42 : decode cX11_piece 42 = .ok (.if_icmp .ne 7, 3) := by decide +kernel
theorem dX11_piece_45 : decode cX11_piece 45 = .ok (.iconst 1, 1) := by decide +kernel
theorem dX11_piece_46 : decode cX11_piece 46 = .ok (.goto 4, 3) := by decide +kernel
theorem dX11_piece_49 : decode cX11_piece 49 = .ok (.iconst 0, 1) := by decide +kernel
theorem dX11_piece_50 : decode cX11_piece 50 = .ok (.istore_n 3, 1) := by decide +kernel
theorem dX11_piece_51 : decode cX11_piece 51 = .ok (.iload_n 2, 1) := by decide +kernel
theorem dX11_piece_52 : decode cX11_piece 52 = .ok (.ifCond .eq 9, 3) := by decide +kernel
theorem dX11_piece_55 : decode cX11_piece 55 = .ok (.iconst (-1), 1) := by decide +kernel
theorem dX11_piece_56 : decode cX11_piece 56 = .ok (.iload_n 1, 1) := by decide +kernel
theorem dX11_piece_57 : decode cX11_piece 57 = .ok (.isub, 1) := by decide +kernel
theorem dX11_piece_58 : decode cX11_piece 58 = .ok (.goto 17, 3) := by decide +kernel
theorem dX11_piece_61 : decode cX11_piece 61 = .ok (.iload_n 3, 1) := by decide +kernel
theorem dX11_piece_62 : decode cX11_piece 62 = .ok (.ifCond .eq 9, 3) := by decide +kernel
theorem dX11_piece_65 : decode cX11_piece 65 = .ok (.iload_n 1, 1) := by decide +kernel
theorem dX11_piece_66 : decode cX11_piece 66 = .ok (.iconst 2, 1) := by decide +kernel
theorem dX11_piece_67 : decode cX11_piece 67 = .ok (.iadd, 1) := by decide +kernel
theorem dX11_piece_68 : decode cX11_piece 68 = .ok (.goto 7, 3) := by decide +kernel
theorem dX11_piece_71 : decode cX11_piece 71 = .ok (.bipush (-3), 2) := by decide +kernel
theorem dX11_piece_73 : decode cX11_piece 73 = .ok (.iload_n 1, 1) := by decide +kernel
theorem dX11_piece_74 : decode cX11_piece 74 = .ok (.isub, 1) := by decide +kernel
theorem dX11_piece_75 : decode cX11_piece 75 = .ok (.ireturn, 1) := by decide +kernel
theorem dX11_piece_76 : decode cX11_piece 76 = .ok (.iload_n 1, 1) := by decide +kernel
theorem dX11_piece_77 : decode cX11_piece 77 = .ok (.istore_n 3, 1) := by decide +kernel
theorem dX11_piece_78 : decode cX11_piece 78 = .ok (.iconst 0, 1) := by decide +kernel
theorem dX11_piece_79 : decode cX11_piece 79 = .ok (.istore 4, 2) := by decide +kernel
theorem dX11_piece_81 : decode cX11_piece 81 = .ok (.iload_n 3, 1) := by decide +kernel
theorem dX11_piece_82 : decode cX11_piece 82 = .ok (.ifCond .lt 52, 3) := by decide +kernel
theorem dX11_piece_85 : decode cX11_piece 85 = .ok (.iload 4, 2) := by decide +kernel
theorem dX11_piece_87 : decode cX11_piece 87 = .ok (.ifCond .eq 22, 3) := by decide +kernel
theorem dX11_piece_90 : decode cX11_piece 90 = .ok (.aload_n 0, 1) := by decide +kernel
theorem dX11_piece_91 : decode cX11_piece 91 = .ok (.iload_n 3, 1) := by decide +kernel
theorem dX11_piece_92 : decode cX11_piece 92 = .ok (.invokevirtual 162, 3) := by decide +kernel
theorem dX11_piece_95 : decode cX11_piece 95 = .ok (.iconst (-1), 1) := by decide +kernel
theorem dX11_piece_96 : decode cX11_piece 96 = .ok (.if_icmp .eq 38, 3) := by decide +kernel
theorem dX11_piece_99 : decode cX11_piece 99 = .ok (.aload_n 0, 1) := by decide +kernel
theorem dX11_piece_100 : decode cX11_piece 100 = .ok (.iload_n 3, 1) := by decide +kernel
theorem dX11_piece_101 : decode cX11_piece 101 = .ok (.invokevirtual 162, 3) := by decide +kernel
theorem dX11_piece_104 : decode cX11_piece 104 = .ok (.bipush 47, 2) := by decide +kernel
theorem dX11_piece_106 : decode cX11_piece 106 = .ok (.if_icmp .eq 28, 3) := by decide +kernel
theorem dX11_piece_109 : decode cX11_piece 109 = .ok (.iload 4, 2) := by decide +kernel
theorem dX11_piece_111 : decode cX11_piece 111 = .ok (.bipush 8, 2) := by decide +kernel
theorem dX11_piece_113 : decode cX11_piece 113 = .ok (.if_icmp .ne 9, 3) := by decide +kernel
theorem dX11_piece_116 : decode cX11_piece 116 = .ok (.iconst (-1), 1) := by decide +kernel
theorem dX11_piece_117 : decode cX11_piece 117 = .ok (.iload_n 3, 1) := by decide +kernel
theorem dX11_piece_118 : decode cX11_piece 118 = .ok (.isub, 1) := by decide +kernel
theorem dX11_piece_119 : decode cX11_piece 119 = .ok (.goto 8, 3) := by decide +kernel
theorem dX11_piece_122 : decode cX11_piece 122 = .ok (.aload_n 0, 1) := by decide +kernel
theorem dX11_piece_123 : decode cX11_piece 123 = .ok (.iload_n 3, 1) := by decide +kernel
theorem dX11_piece_124 : decode cX11_piece 124 = .ok (.invokevirtual 165, 3) := by decide +kernel
theorem dX11_piece_127 : decode cX11_piece 127 = .ok (.istore_n 3, 1) := by decide +kernel
theorem dX11_piece_128 : decode cX11_piece 128 = .ok (.iinc 4 1, 3) := by decide +kernel
theorem dX11_piece_131 : decode cX11_piece 131 = .ok (.goto (-50), 3) := by decide +kernel
theorem dX11_piece_134 : decode cX11_piece 134 = .ok (.iload_n 3, 1) := by decide +kernel
theorem dX11_piece_135 : decode cX11_piece 135 = .ok (.iload_n 1, 1) := by decide +kernel
theorem dX11_piece_136 : decode cX11_piece 136 = .ok (.iconst 1, 1) := by decide +kernel
theorem dX11_piece_137 : decode cX11_piece 137 = .ok (.iadd, 1) := by decide +kernel
theorem dX11_piece_138 : decode cX11_piece 138 = .ok (.if_icmp .ne 13, 3) := by decide +kernel
theorem dX11_piece_141 : decode cX11_piece 141 = .ok (.aload_n 0, 1) := by decide +kernel
theorem dX11_piece_142 : decode cX11_piece 142 = .ok (.iload_n 1, 1) := by decide +kernel
theorem dX11_piece_143 : decode cX11_piece 143 = .ok (.invokevirtual 162, 3) := by decide +kernel
theorem dX11_piece_146 : decode cX11_piece 146 = .ok (.bipush 46, 2) := by decide +kernel
theorem dX11_piece_148 : decode cX11_piece 148 = .ok (.if_icmp .eq 32, 3) := by decide +kernel
theorem dX11_piece_151 : decode cX11_piece 151 = .ok (.iload_n 3, 1) := by decide +kernel
theorem dX11_piece_152 : decode cX11_piece 152 = .ok (.iload_n 1, 1) := by decide +kernel
theorem dX11_piece_153 : decode cX11_piece 153 = .ok (.iconst 2, 1) := by decide +kernel
theorem dX11_piece_154 : decode cX11_piece 154 = .ok (.iadd, 1) := by decide +kernel
theorem dX11_piece_155 : decode cX11_piece 155 = .ok (.if_icmp .ne 29, 3) := by decide +kernel
theorem dX11_piece_158 : decode cX11_piece 158 = .ok (.aload_n 0, 1) := by decide +kernel
theorem dX11_piece_159 : decode cX11_piece 159 = .ok (.iload_n 1, 1) := by decide +kernel
theorem dX11_piece_160 : decode cX11_piece 160 = .ok (.invokevirtual 162, 3) := by decide +kernel
theorem dX11_piece_163 : decode cX11_piece 163 = .ok (.bipush 46, 2) := by decide +kernel
theorem dX11_piece_165 : decode cX11_piece 165 = .ok (.if_icmp .ne 19, 3) := by decide +kernel
theorem dX11_piece_168 : decode cX11_piece 168 = .ok (.aload_n 0, 1) := by decide +kernel
theorem dX11_piece_169 : decode cX11_piece 169 = .ok (.iload_n 1, 1) := by decide +kernel
theorem dX11_piece_170 : decode cX11_piece 170 = .ok (.iconst 1, 1) := by decide +kernel
theorem dX11_piece_171 : decode cX11_piece 171 = .ok (.iadd, 1) := by decide +kernel
theorem dX11_piece_172 : decode cX11_piece 172 = .ok (.invokevirtual 162, 3) := by decide +kernel
theorem dX11_piece_175 : decode cX11_piece 175 = .ok (.bipush 46, 2) := by decide +kernel
theorem dX11_piece_177 : decode cX11_piece 177 = .ok (.if_icmp .ne 7, 3) := by decide +kernel
theorem dX11_piece_180 : decode cX11_piece 180 = .ok (.iconst 1, 1) := by decide +kernel
theorem dX11_piece_181 : decode cX11_piece 181 = .ok (.goto 4, 3) := by decide +kernel
theorem dX11_piece_184 : decode cX11_piece 184 = .ok (.iconst 0, 1) := by decide +kernel
theorem dX11_piece_185 : decode cX11_piece 185 = .ok (.istore 5, 2) := by decide +kernel
theorem dX11_piece_187 : decode cX11_piece 187 = .ok (.iload 5, 2) := by decide +kernel
theorem dX11_piece_189 : decode cX11_piece 189 = .ok (.ifCond .eq 9, 3) := by decide +kernel
theorem dX11_piece_192 : decode cX11_piece 192 = .ok (.iconst (-1), 1) := by decide +kernel
theorem dX11_piece_193 : decode cX11_piece 193 = .ok (.iload_n 1, 1) := by decide +kernel
theorem dX11_piece_194 : decode cX11_piece 194 = .ok (.isub, 1) := by decide +kernel
theorem dX11_piece_195 : decode cX11_piece 195 = .ok (.goto 4, 3) := by decide +kernel
theorem dX11_piece_198 : decode cX11_piece 198 = .ok (.iload_n 3, 1) := by decide +kernel
theorem dX11_piece_199 : decode cX11_piece 199 = .ok (.ireturn, 1) := by decide +kernel
theorem dX11_ill_0 : decode cX11_ill 0 = .ok (.iconst 0, 1) := by decide +kernel
theorem dX11_ill_1 : decode cX11_ill 1 = .ok (.istore_n 1, 1) := by decide +kernel
theorem dX11_ill_2 : decode cX11_ill 2 = .ok (.iconst 0, 1) := by decide +kernel
theorem dX11_ill_3 : decode cX11_ill 3 = .ok (.istore_n 2, 1) := by decide +kernel
theorem dX11_ill_4 : decode cX11_ill 4 = .ok (.iconst 0, 1) := by decide +kernel
theorem dX11_ill_5 : decode cX11_ill 5 = .ok (.istore_n 3, 1) := by decide +kernel
theorem dX11_ill_6 : decode cX11_ill 6 = .ok (.iconst 1, 1) := by decide +kernel
theorem dX11_ill_7 : decode cX11_ill 7 = .ok (.istore 4, 2) := by decide +kernel
theorem dX11_ill_9 : decode cX11_ill 9 = .ok (.iload 4, 2) := by decide +kernel
theorem dX11_ill_11 : decode cX11_ill 11 = .ok (.ifCond .eq 98, 3) := by decide +kernel
theorem dX11_ill_14 : decode cX11_ill 14 = .ok (.iload_n 2, 1) := by decide +kernel
theorem dX11_ill_15 : decode cX11_ill 15 = .ok (.bipush 6, 2) := by decide +kernel
theorem dX11_ill_17 : decode cX11_ill 17 = .ok (.if_icmp .ne 9, 3) := by decide +kernel
theorem dX11_ill_20 : decode cX11_ill 20 = .ok (.iconst (-1), 1) := by decide +kernel
theorem dX11_ill_21 : decode cX11_ill 21 = .ok (.iload_n 1, 1) := by decide +kernel
theorem dX11_ill_22 : decode cX11_ill 22 = .ok (.isub, 1) := by decide +kernel
theorem dX11_ill_23 : decode cX11_ill 23 = .ok (.goto 9, 3) := by decide +kernel
theorem dX11_ill_26 : decode cX11_ill 26 = .ok (.aload_n 0, 1) := by decide +kernel
theorem dX11_ill_27 : decode cX11_ill 27 = .ok (.iload_n 1, 1) := by decide +kernel
theorem dX11_ill_28 : decode cX11_ill 28 = .ok (.iload_n 3, 1) := by decide +kernel
theorem dX11_ill_29 : decode cX11_ill 29 = .ok (.invokevirtual 168, 3) := by decide +kernel
theorem dX11_ill_32 : decode cX11_ill 32 = .ok (.istore 5, 2) := by decide +kernel
theorem dX11_ill_34 : decode cX11_ill 34 = .ok (.iload 5, 2) := by decide +kernel
theorem dX11_ill_36 : decode cX11_ill 36 = .ok (.ifCond .ge 8, 3) := by decide +kernel
theorem dX11_ill_39 : decode cX11_ill 39 = .ok (.iconst (-1), 1) := by decide +kernel
theorem dX11_ill_40 : decode cX11_ill 40 = .ok (.iload 5, 2) := by decide +kernel
theorem dX11_ill_42 : decode cX11_ill 42 = .ok (.isub, 1) := by decide +kernel
theorem dX11_ill_43 : decode cX11_ill 43 = .ok (.ireturn, 1) := by decide +kernel
theorem dX11_ill_44 : decode cX11_ill 44 = .ok (.aload_n 0, 1) := by decide +kernel
theorem dX11_ill_45 : decode cX11_ill 45 = .ok (.iload_n 1, 1) := by decide +kernel
theorem dX11_ill_46 : decode cX11_ill 46 = .ok (.invokevirtual 162, 3) := by decide +kernel
theorem dX11_ill_49 : decode cX11_ill 49 = .ok (.bipush 42, 2) := by decide +kernel
theorem dX11_ill_51 : decode cX11_ill 51 = .ok (.if_icmp .ne 19, 3) := by decide +kernel
theorem dX11_ill_54 : decode cX11_ill 54 = .ok (.aload_n 0, 1) := by decide +kernel
theorem dX11_ill_55 : decode cX11_ill 55 = .ok (.iload_n 1, 1) := by decide +kernel
theorem dX11_ill_56 : decode cX11_ill 56 = .ok (.iconst 1, 1) := by decide +kernel
theorem dX11_ill_57 : decode cX11_ill 57 = .ok (.iadd, 1) := by decide +kernel
theorem dX11_ill_58 : decode cX11_ill 58 = .ok (.invokevirtual 162, 3) := by decide +kernel
theorem dX11_ill_61 : decode cX11_ill 61 = .ok (.bipush 42, 2) := by decide +kernel
theorem dX11_ill_63 : decode cX11_ill 63 = .ok (.if_icmp .ne 7, 3) := by decide +kernel
theorem dX11_ill_66 : decode cX11_ill 66 = .ok (.iconst 1, 1) := by decide +kernel
theorem dX11_ill_67 : decode cX11_ill 67 = .ok (.goto 4, 3) := by decide +kernel
theorem dX11_ill_70 : decode cX11_ill 70 = .ok (.iconst 0, 1) := by decide +kernel
theorem dX11_ill_71 : decode cX11_ill 71 = .ok (.istore_n 3, 1) := by decide +kernel
theorem dX11_ill_72 : decode cX11_ill 72 = .ok (.iinc 2 1, 3) := by decide +kernel
theorem dX11_ill_75 : decode cX11_ill 75 = .ok (.iload 5, 2) := by decide +kernel
theorem dX11_ill_77 : decode cX11_ill 77 = .ok (.iconst 1, 1) := by decide +kernel
theorem dX11_ill_78 : decode cX11_ill 78 = .ok (.iadd, 1) := by decide +kernel
theorem dX11_ill_79 : decode cX11_ill 79 = .ok (.istore_n 1, 1) := by decide +kernel
theorem dX11_ill_80 : decode cX11_ill 80 = .ok (.aload_n 0, 1) := by decide +kernel
theorem dX11_ill_81 : decode cX11_ill 81 = .ok (.iload 5, 2) := by decide +kernel
theorem dX11_ill_83 : decode cX11_ill 83 = .ok (.invokevirtual 162, 3) := by decide +kernel
theorem dX11_ill_86 : decode cX11_ill 86 = .ok (.bipush 47, 2) := by decide +kernel
theorem dX11_ill_88 : decode cX11_ill 88 = .ok (.if_icmp .ne 15, 3) := by decide +kernel
theorem dX11_ill_91 : decode cX11_ill 91 = .ok (.iload_n 1, 1) := by decide +kernel
theorem dX11_ill_92 : decode cX11_ill 92 = .ok (.aload_n 0, 1) := by decide +kernel
theorem dX11_ill_93 : decode cX11_ill 93 = .ok (.getfield 106, 3) := by decide +kernel
theorem dX11_ill_96 : decode cX11_ill 96 = .ok (.if_icmp .ge 7, 3) := by decide +kernel
theorem dX11_ill_99 : decode cX11_ill 99 = .ok (.iconst 1, 1) := by decide +kernel
theorem dX11_ill_100 : decode cX11_ill 100 = .ok (.goto 4, 3) := by decide +kernel
theorem dX11_ill_103 : decode cX11_ill 103 = .ok (.iconst 0, 1) := by decide +kernel
theorem dX11_ill_104 : decode cX11_ill 104 = .ok (.istore 4, 2) := by decide +kernel
theorem dX11_ill_106 : decode cX11_ill 106 = .ok (.goto (-97), 3) := by decide +kernel
theorem dX11_ill_109 : decode cX11_ill 109 = .ok (.iconst (-1), 1) := by decide +kernel
theorem dX11_ill_110 : decode cX11_ill 110 = .ok (.ireturn, 1) := by decide +kernel
theorem dX11_pattern_0 : decode cX11_pattern 0 = .ok (.aload_n 0, 1) := by decide +kernel
theorem dX11_pattern_1 : decode cX11_pattern 1 = .ok (.aload_n 0, 1) := by decide +kernel
theorem dX11_pattern_2 : decode cX11_pattern 2 = .ok (.invokevirtual 172, 3) := by decide +kernel
theorem dX11_pattern_5 : decode cX11_pattern 5 = .ok (.putfield 69, 3) := by decide +kernel
theorem dX11_pattern_8 : decode cX11_pattern 8 = .ok (.iload_n 1, 1) := by decide +kernel
theorem dX11_pattern_9 : decode cX11_pattern 9 = .ok (.ifCond .lt 15, 3) := by decide +kernel
theorem dX11_pattern_12 : decode cX11_pattern 12 = .ok (.iload_n 1, 1) := by decide +kernel
theorem dX11_pattern_13 : decode cX11_pattern 13 = .ok (.aload_n 0, 1) := by decide +kernel
theorem dX11_pattern_14 : decode cX11_pattern 14 = .ok (.getfield 159, 3) := by decide +kernel
theorem dX11_pattern_17 : decode cX11_pattern 17 = .ok (.if_icmp .ge 7, 3) := by decide +kernel
theorem dX11_pattern_20 : decode cX11_pattern 20 = .ok (.iconst 1, 1) := by decide +kernel
theorem dX11_pattern_21 : decode cX11_pattern 21 = .ok (.goto 4, 3) := by decide +kernel
theorem dX11_pattern_24 : decode cX11_pattern 24 = .ok (.iconst 0, 1) := by decide +kernel
theorem dX11_pattern_25 : decode cX11_pattern 25 = .ok (.istore_n 3, 1) := by decide +kernel
theorem dX11_pattern_26 : decode cX11_pattern 26 = .ok (.aload_n 0, 1) := by decide +kernel
theorem dX11_pattern_27 : decode cX11_pattern 27 = .ok (.iload_n 3, 1) := by decide +kernel
theorem dX11_pattern_28 : decode cX11_pattern 28 = .ok (.ifCond .eq 11, 3) := by decide +kernel
theorem dX11_pattern_31 : decode cX11_pattern 31 = .ok (.aload_n 0, 1) := by decide +kernel
theorem dX11_pattern_32 : decode cX11_pattern 32 = .ok (.getfield 69, 3) := by decide +kernel
theorem dX11_pattern_35 : decode cX11_pattern 35 = .ok (.iconst (-1), 1) := by decide +kernel
theorem dX11_pattern_36 : decode cX11_pattern 36 = .ok (.if_icmp .eq 7, 3) := by decide +kernel
theorem dX11_pattern_39 : decode cX11_pattern 39 = .ok (.iconst 1, 1) := by decide +kernel
theorem dX11_pattern_40 : decode cX11_pattern 40 = .ok (.goto 31, 3) := by decide +kernel
theorem dX11_pattern_43 : decode cX11_pattern 43 = .ok (.iload_n 2, 1) := by decide +kernel
theorem dX11_pattern_44 : decode cX11_pattern 44 = .ok (.ifCond .eq 12, 3) := by decide +kernel
theorem dX11_pattern_47 : decode cX11_pattern 47 = .ok (.aload_n 0, 1) := by decide +kernel
theorem dX11_pattern_48 : decode cX11_pattern 48 = .ok (.getfield 48, 3) := by decide +kernel
theorem dX11_pattern_51 : decode cX11_pattern 51 = .ok (.iload_n 1, 1) := by decide +kernel
theorem dX11_pattern_52 : decode cX11_pattern 52 = .ok (.iaload, 1) := by decide +kernel
theorem dX11_pattern_53 : decode cX11_pattern 53 = .ok (.goto 9, 3) := by decide +kernel
theorem dX11_pattern_56 : decode cX11_pattern 56 = .ok (.aload_n 0, 1) := by decide +kernel
theorem dX11_pattern_57 : decode cX11_pattern 57 = .ok (.getfield 45, 3) := by decide +kernel
theorem dX11_pattern_60 : decode cX11_pattern 60 = .ok (.iload_n 1, 1) := by decide +kernel
theorem dX11_pattern_61 : decode cX11_pattern 61 = .ok (.iaload, 1) := by decide +kernel
theorem dX11_pattern_62 : decode cX11_pattern 62 = .ok (.iconst 4, 1) := by decide +kernel
theorem dX11_pattern_63 : decode cX11_pattern 63 = .ok (.if_icmp .ne 7, 3) := by decide +kernel
theorem dX11_pattern_66 : decode cX11_pattern 66 = .ok (.iconst 2, 1) := by decide +kernel
theorem dX11_pattern_67 : decode cX11_pattern 67 = .ok (.goto 4, 3) := by decide +kernel
theorem dX11_pattern_70 : decode cX11_pattern 70 = .ok (.iconst 0, 1) := by decide +kernel
theorem dX11_pattern_71 : decode cX11_pattern 71 = .ok (.putfield 103, 3) := by decide +kernel
theorem dX11_pattern_74 : decode cX11_pattern 74 = .ok (.aload_n 0, 1) := by decide +kernel
theorem dX11_pattern_75 : decode cX11_pattern 75 = .ok (.getfield 103, 3) := by decide +kernel
theorem dX11_pattern_78 : decode cX11_pattern 78 = .ok (.ifCond .ne 123, 3) := by decide +kernel
theorem dX11_pattern_81 : decode cX11_pattern 81 = .ok (.bipush 8, 2) := by decide +kernel
theorem dX11_pattern_83 : decode cX11_pattern 83 = .ok (.iload_n 1, 1) := by decide +kernel
theorem dX11_pattern_84 : decode cX11_pattern 84 = .ok (.imul, 1) := by decide +kernel
theorem dX11_pattern_85 : decode cX11_pattern 85 = .ok (.iload_n 2, 1) := by decide +kernel
theorem dX11_pattern_86 : decode cX11_pattern 86 = .ok (.ifCond .eq 14, 3) := by decide +kernel
theorem dX11_pattern_89 : decode cX11_pattern 89 = .ok (.iconst 4, 1) := by decide +kernel
theorem dX11_pattern_90 : decode cX11_pattern 90 = .ok (.aload_n 0, 1) := by decide +kernel
theorem dX11_pattern_91 : decode cX11_pattern 91 = .ok (.getfield 48, 3) := by decide +kernel
theorem dX11_pattern_94 : decode cX11_pattern 94 = .ok (.iload_n 1, 1) := by decide +kernel
theorem dX11_pattern_95 : decode cX11_pattern 95 = .ok (.iaload, 1) := by decide +kernel
theorem dX11_pattern_96 : decode cX11_pattern 96 = .ok (.iadd, 1) := by decide +kernel
theorem dX11_pattern_97 : decode cX11_pattern 97 = .ok (.goto 9, 3) := by decide +kernel
theorem dX11_pattern_100 : decode cX11_pattern 100 = .ok (.aload_n 0, 1) := by decide +kernel
theorem dX11_pattern_101 : decode cX11_pattern 101 = .ok (.getfield 45, 3) := by decide +kernel
theorem dX11_pattern_104 : decode cX11_pattern 104 = .ok (.iload_n 1, 1) := by decide +kernel
theorem dX11_pattern_105 : decode cX11_pattern 105 = .ok (.iaload, 1) := by decide +kernel
theorem dX11_pattern_106 : decode cX11_pattern 106 = .ok (.iadd, 1) := by decide +kernel
theorem dX11_pattern_107 : decode cX11_pattern 107 = .ok (.istore 4, 2) := by decide +kernel
theorem dX11_pattern_109 : decode cX11_pattern 109 = .ok (.aload_n 0, 1) := by decide +kernel
theorem dX11_pattern_110 : decode cX11_pattern 110 = .ok (.getfield 48, 3) := by decide +kernel
theorem dX11_pattern_113 : decode cX11_pattern 113 = .ok (.iload_n 1, 1) := by decide +kernel
theorem dX11_pattern_114 : decode cX11_pattern 114 = .ok (.dup2, 1) := by decide +kernel
theorem dX11_pattern_115 : decode cX11_pattern 115 = .ok (.iaload, 1) := by decide +kernel
theorem dX11_pattern_116 : decode cX11_pattern 116 = .ok (.iload_n 2, 1) := by decide +kernel
theorem dX11_pattern_117 : decode cX11_pattern 117 = .ok (.ifCond .eq 7, 3) := by decide +kernel
theorem dX11_pattern_120 : decode cX11_pattern 120 = .ok (.iconst 1, 1) := by decide +kernel
theorem dX11_pattern_121 : decode cX11_pattern 121 = .ok (.goto 4, 3) := by decide +kernel
theorem dX11_pattern_124 : decode cX11_pattern 124 = .ok (.iconst 0, 1) := by decide +kernel
theorem dX11_pattern_125 : decode cX11_pattern 125 = .ok (.iadd, 1) := by decide +kernel
theorem dX11_pattern_126 : decode cX11_pattern 126 = .ok (.iastore, 1) := by decide +kernel
theorem dX11_pattern_127 : decode cX11_pattern 127 = .ok (.aload_n 0, 1) := by decide +kernel
theorem dX11_pattern_128 : decode cX11_pattern 128 = .ok (.getfield 45, 3) := by decide +kernel
theorem dX11_pattern_131 : decode cX11_pattern 131 = .ok (.iload_n 1, 1) := by decide +kernel
theorem dX11_pattern_132 : decode cX11_pattern 132 = .ok (.dup2, 1) := by decide +kernel
theorem dX11_pattern_133 : decode cX11_pattern 133 = .ok (.iaload, 1) := by decide +kernel
theorem dX11_pattern_134 : decode cX11_pattern 134 = .ok (.iload_n 2, 1) := by decide +kernel
theorem dX11_pattern_135 : decode cX11_pattern 135 = .ok (.ifCond .eq 7, 3) := by decide +kernel
theorem dX11_pattern_138 : decode cX11_pattern 138 = .ok (.iconst 0, 1) := by decide +kernel
theorem dX11_pattern_139 : decode cX11_pattern 139 = .ok (.goto 4, 3) := by decide +kernel
theorem dX11_pattern_142 : decode cX11_pattern 142 = .ok (.iconst 1, 1) := by decide +kernel
theorem dX11_pattern_143 : decode cX11_pattern 143 = .ok (.iadd, 1) := by decide +kernel
theorem dX11_pattern_144 : decode cX11_pattern 144 = .ok (.iastore, 1) := by decide +kernel
theorem dX11_pattern_145 : decode cX11_pattern 145 = .ok (.aload_n 0, 1) := by decide +kernel
theorem dX11_pattern_146 : decode cX11_pattern 146 = .ok (.getfield 54, 3) := by decide +kernel
theorem dX11_pattern_149 : decode cX11_pattern 149 = .ok (.iload 4, 2) := by decide +kernel
theorem dX11_pattern_151 : decode cX11_pattern 151 = .ok (.aload_n 0, 1) := by decide +kernel
theorem dX11_pattern_152 : decode cX11_pattern 152 = .ok (.getfield 106, 3) := by decide +kernel
theorem dX11_pattern_155 : decode cX11_pattern 155 = .ok (.iastore, 1) := by decide +kernel
theorem dX11_pattern_156 : decode cX11_pattern 156 = .ok (.iconst 0, 1) := by decide +kernel
theorem dX11_pattern_157 : decode cX11_pattern 157 = .ok (.istore 5, 2) := by decide +kernel
theorem dX11_pattern_159 : decode cX11_pattern 159 = .ok (.iload 5, 2) := by decide +kernel
theorem dX11_pattern_161 : decode cX11_pattern 161 = .ok (.aload_n 0, 1) := by decide +kernel
theorem dX11_pattern_162 : decode cX11_pattern 162 = .ok (.getfield 106, 3) := by decide +kernel
theorem dX11_pattern_165 : decode cX11_pattern 165 = .ok (.if_icmp .ge 29, 3) := by decide +kernel
theorem dX11_pattern_168 : decode cX11_pattern 168 = .ok (.aload_n 0, 1) := by decide +kernel
theorem dX11_pattern_169 : decode cX11_pattern 169 = .ok (.getfield 60, 3) := by decide +kernel
theorem dX11_pattern_172 : decode cX11_pattern 172 = .ok (.bipush 60, 2) := by decide +kernel
theorem dX11_pattern_174 : decode cX11_pattern 174 = .ok (.iload 4, 2) := by decide +kernel
theorem dX11_pattern_176 : decode cX11_pattern 176 = .ok (.imul, 1) := by decide +kernel
theorem dX11_pattern_177 : decode cX11_pattern 177 = .ok (.iload 5, 2) := by decide +kernel
theorem dX11_pattern_179 : decode cX11_pattern 179 = .ok (.iadd, 1) := by decide +kernel
theorem dX11_pattern_180 : decode cX11_pattern 180 = .ok (.aload_n 0, 1) := by decide +kernel
theorem dX11_pattern_181 : decode cX11_pattern 181 = .ok (.getfield 7, 3) := by decide +kernel
theorem dX11_pattern_184 : decode cX11_pattern 184 = .ok (.iload 5, 2) := by decide +kernel
theorem dX11_pattern_186 : decode cX11_pattern 186 = .ok (.baload, 1) := by decide +kernel
theorem dX11_pattern_187 : decode cX11_pattern 187 = .ok (.bastore, 1) := by decide +kernel
theorem dX11_pattern_188 : decode cX11_pattern 188 = .ok (.iinc 5 1, 3) := by decide +kernel
theorem dX11_pattern_191 : decode cX11_pattern 191 = .ok (.goto (-32), 3) := by decide +kernel
theorem dX11_pattern_194 : decode cX11_pattern 194 = .ok (.aload_n 0, 1) := by decide +kernel
theorem dX11_pattern_195 : decode cX11_pattern 195 = .ok (.getfield 63, 3) := by decide +kernel
theorem dX11_pattern_198 : decode cX11_pattern 198 = .ok (.iload_n 1, 1) := by decide +kernel
theorem dX11_pattern_199 : decode cX11_pattern 199 = .ok (.iconst 1, 1) := by decide +kernel
theorem dX11_pattern_200 : decode cX11_pattern 200 = .ok (.bastore, 1) := by decide +kernel
theorem dX11_pattern_201 : decode cX11_pattern 201 = .ok (.aload_n 0, 1) := by decide +kernel
theorem dX11_pattern_202 : decode cX11_pattern 202 = .ok (.iconst 0, 1) := by decide +kernel
theorem dX11_pattern_203 : decode cX11_pattern 203 = .ok (.putfield 106, 3) := by decide +kernel
theorem dX11_pattern_206 : decode cX11_pattern 206 = .ok (.return_, 1) := by decide +kernel
theorem dX11_place_0 : decode cX11_place 0 = .ok (.aload_n 0, 1) := by decide +kernel
theorem dX11_place_1 : decode cX11_place 1 = .ok (.iconst 0, 1) := by decide +kernel
theorem dX11_place_2 : decode cX11_place 2 = .ok (.putfield 103, 3) := by decide +kernel
theorem dX11_place_5 : decode cX11_place 5 = .ok (.aload_n 0, 1) := by decide +kernel
theorem dX11_place_6 : decode cX11_place 6 = .ok (.getfield 69, 3) := by decide +kernel
theorem dX11_place_9 : decode cX11_place 9 = .ok (.ireturn, 1) := by decide +kernel
theorem dX11_byteOf_0 : decode cX11_byteOf 0 = .ok (.iload_n 2, 1) := by decide +kernel
theorem dX11_byteOf_1 : decode cX11_byteOf 1 = .ok (.aload_n 0, 1) := by decide +kernel
theorem dX11_byteOf_2 : decode cX11_byteOf 2 = .ok (.getfield 54, 3) := by decide +kernel
theorem dX11_byteOf_5 : decode cX11_byteOf 5 = .ok (.iload_n 1, 1) := by decide +kernel
theorem dX11_byteOf_6 : decode cX11_byteOf 6 = .ok (.iaload, 1) := by decide +kernel
theorem dX11_byteOf_7 : decode cX11_byteOf 7 = .ok (.if_icmp .ge 17, 3) := by decide +kernel
theorem dX11_byteOf_10 : decode cX11_byteOf 10 = .ok (.aload_n 0, 1) := by decide +kernel
theorem dX11_byteOf_11 : decode cX11_byteOf 11 = .ok (.getfield 60, 3) := by decide +kernel
theorem dX11_byteOf_14 : decode cX11_byteOf 14 = .ok (.bipush 60, 2) := by decide +kernel
theorem dX11_byteOf_16 : decode cX11_byteOf 16 = .ok (.iload_n 1, 1) := by decide +kernel
theorem dX11_byteOf_17 : decode cX11_byteOf 17 = .ok (.imul, 1) := by decide +kernel
theorem dX11_byteOf_18 : decode cX11_byteOf 18 = .ok (.iload_n 2, 1) := by decide +kernel
theorem dX11_byteOf_19 : decode cX11_byteOf 19 = .ok (.iadd, 1) := by decide +kernel
theorem dX11_byteOf_20 : decode cX11_byteOf 20 = .ok (.baload, 1) := by decide +kernel
theorem dX11_byteOf_21 : decode cX11_byteOf 21 = .ok (.goto 4, 3) := by decide +kernel
theorem dX11_byteOf_24 : decode cX11_byteOf 24 = .ok (.iconst (-1), 1) := by decide +kernel
theorem dX11_byteOf_25 : decode cX11_byteOf 25 = .ok (.ireturn, 1) := by decide +kernel
theorem dX11_fitsName_0 : decode cX11_fitsName 0 = .ok (.aload_n 0, 1) := by decide +kernel
theorem dX11_fitsName_1 : decode cX11_fitsName 1 = .ok (.getfield 26, 3) := by decide +kernel
theorem dX11_fitsName_4 : decode cX11_fitsName 4 = .ok (.iload 4, 2) := by decide +kernel
theorem dX11_fitsName_6 : decode cX11_fitsName 6 = .ok (.iaload, 1) := by decide +kernel
theorem dX11_fitsName_7 : decode cX11_fitsName 7 = .ok (.istore 5, 2) := by decide +kernel
theorem dX11_fitsName_9 : decode cX11_fitsName 9 = .ok (.iconst 1, 1) := by decide +kernel
theorem dX11_fitsName_10 : decode cX11_fitsName 10 = .ok (.istore 6, 2) := by decide +kernel
theorem dX11_fitsName_12 : decode cX11_fitsName 12 = .ok (.iload_n 2, 1) := by decide +kernel
theorem dX11_fitsName_13 : decode cX11_fitsName 13 = .ok (.istore 7, 2) := by decide +kernel
theorem dX11_fitsName_15 : decode cX11_fitsName 15 = .ok (.iload 7, 2) := by decide +kernel
theorem dX11_fitsName_17 : decode cX11_fitsName 17 = .ok (.iload_n 3, 1) := by decide +kernel
theorem dX11_fitsName_18 : decode cX11_fitsName 18 = .ok (.if_icmp .ge 183, 3) := by decide +kernel
theorem dX11_fitsName_21 : decode cX11_fitsName 21 = .ok (.aload_n 0, 1) := by decide +kernel
theorem dX11_fitsName_22 : decode cX11_fitsName 22 = .ok (.iload_n 1, 1) := by decide +kernel
theorem dX11_fitsName_23 : decode cX11_fitsName 23 = .ok (.iload 7, 2) := by decide +kernel
theorem dX11_fitsName_25 : decode cX11_fitsName 25 = .ok (.invokevirtual 175, 3) := by decide +kernel
theorem dX11_fitsName_28 : decode cX11_fitsName 28 = .ok (.istore 8, 2) := by decide +kernel
theorem dX11_fitsName_30 : decode cX11_fitsName 30 = .ok (.iload 7, 2) := by decide +kernel
theorem dX11_fitsName_32 : decode cX11_fitsName 32 = .ok (.iconst 1, 1) := by decide +kernel
theorem dX11_fitsName_33 : decode cX11_fitsName 33 = .ok (.iadd, 1) := by decide +kernel
theorem dX11_fitsName_34 : decode cX11_fitsName 34 = .ok (.istore 9, 2) := by decide +kernel
theorem dX11_fitsName_36 : decode cX11_fitsName 36 = .ok (.iload 8, 2) := by decide +kernel
theorem dX11_fitsName_38 : decode cX11_fitsName 38 = .ok (.bipush 91, 2) := by decide +kernel
theorem dX11_fitsName_40 : decode cX11_fitsName 40 = .ok (.if_icmp .ne 23, 3) := by decide +kernel
theorem dX11_fitsName_43 : decode cX11_fitsName 43 = .ok (.aload_n 0, 1) := by decide +kernel
theorem dX11_fitsName_44 : decode cX11_fitsName 44 = .ok (.iload_n 1, 1) := by decide +kernel
theorem dX11_fitsName_45 : decode cX11_fitsName 45 = .ok (.iload 9, 2) := by decide +kernel
theorem dX11_fitsName_47 : decode cX11_fitsName 47 = .ok (.iconst 1, 1) := by decide +kernel
theorem dX11_fitsName_48 : decode cX11_fitsName 48 = .ok (.isub, 1) := by decide +kernel
theorem dX11_fitsName_49 : decode cX11_fitsName 49 = .ok (.invokevirtual 175, 3) := by decide +kernel
theorem dX11_fitsName_52 : decode cX11_fitsName 52 = .ok (.bipush 93, 2) := by decide +kernel
theorem dX11_fitsName_54 : decode cX11_fitsName 54 = .ok (.if_icmp .eq 9, 3) := by decide +kernel
theorem dX11_fitsName_57 : decode cX11_fitsName 57 = .ok (.iinc 9 1, 3) := by decide +kernel
theorem dX11_fitsName_60 : decode cX11_fitsName 60 = .ok (.goto (-24), 3) := by decide +kernel
theorem dX11_fitsName_63 : decode cX11_fitsName 63 = .ok (.iconst 0, 1) := by decide +kernel
theorem dX11_fitsName_64 : decode cX11_fitsName 64 = .ok (.istore 10, 2) := by decide +kernel
theorem dX11_fitsName_66 : decode cX11_fitsName 66 = .ok (.iconst 0, 1) := by decide +kernel
theorem dX11_fitsName_67 : decode cX11_fitsName 67 = .ok (.istore 11, 2) := by decide +kernel
theorem dX11_fitsName_69 : decode cX11_fitsName 69 = .ok (.iload 11, 2) := by decide +kernel
theorem dX11_fitsName_71 : decode cX11_fitsName 71 = .ok (.iload 5, 2) := by decide +kernel
theorem dX11_fitsName_73 : decode cX11_fitsName 73 = .ok (.if_icmp .gt 117, 3) := by decide +kernel
theorem dX11_fitsName_76 : decode cX11_fitsName 76 = .ok (.iload 8, 2) := by decide +kernel
theorem dX11_fitsName_78 : decode cX11_fitsName 78 = .ok (.bipush 42, 2) := by decide +kernel
theorem dX11_fitsName_80 : decode cX11_fitsName 80 = .ok (.if_icmp .ne 19, 3) := by decide +kernel
theorem dX11_fitsName_83 : decode cX11_fitsName 83 = .ok (.iload 6, 2) := by decide +kernel
theorem dX11_fitsName_85 : decode cX11_fitsName 85 = .ok (.iconst 2, 1) := by decide +kernel
theorem dX11_fitsName_86 : decode cX11_fitsName 86 = .ok (.iload 11, 2) := by decide +kernel
theorem dX11_fitsName_88 : decode cX11_fitsName 88 = .ok (.ishl, 1) := by decide +kernel
theorem dX11_fitsName_89 : decode cX11_fitsName 89 = .ok (.iconst 1, 1) := by decide +kernel
theorem dX11_fitsName_90 : decode cX11_fitsName 90 = .ok (.isub, 1) := by decide +kernel
theorem dX11_fitsName_91 : decode cX11_fitsName 91 = .ok (.iand, 1) := by decide +kernel
theorem dX11_fitsName_92 : decode cX11_fitsName 92 = .ok (.ifCond .eq 7, 3) := by decide +kernel
theorem dX11_fitsName_95 : decode cX11_fitsName 95 = .ok (.iconst 1, 1) := by decide +kernel
theorem dX11_fitsName_96 : decode cX11_fitsName 96 = .ok (.goto 4, 3) := by decide +kernel
theorem dX11_fitsName_99 : decode cX11_fitsName 99 = .ok (.iconst 0, 1) := by decide +kernel
theorem dX11_fitsName_100 : decode cX11_fitsName 100 = .ok (.istore 12, 2) := by decide +kernel
theorem dX11_fitsName_102 : decode cX11_fitsName 102 = .ok (.iload 8, 2) := by decide +kernel
theorem dX11_fitsName_104 : decode cX11_fitsName 104 = .ok (.bipush 42, 2) := by decide +kernel
theorem dX11_fitsName_106 : decode cX11_fitsName 106 = .ok (.if_icmp .eq 52, 3) := by decide +kernel
theorem dX11_fitsName_109 : decode cX11_fitsName 109 = .ok (.iload 11, 2) := by decide +kernel
theorem dX11_fitsName_111 : decode cX11_fitsName 111 = .ok (.ifCond .le 47, 3) := by decide +kernel
theorem dX11_fitsName_114 : decode cX11_fitsName 114 = .ok (.iload 6, 2) := by decide +kernel
theorem dX11_fitsName_116 : decode cX11_fitsName 116 = .ok (.iload 11, 2) := by decide +kernel
theorem dX11_fitsName_118 : decode cX11_fitsName 118 = .ok (.iconst 1, 1) := by decide +kernel
theorem dX11_fitsName_119 : decode cX11_fitsName 119 = .ok (.isub, 1) := by decide +kernel
theorem dX11_fitsName_120 : decode cX11_fitsName 120 = .ok (.ishr, 1) := by decide +kernel
theorem dX11_fitsName_121 : decode cX11_fitsName 121 = .ok (.iconst 1, 1) := by decide +kernel
theorem dX11_fitsName_122 : decode cX11_fitsName 122 = .ok (.iand, 1) := by decide +kernel
theorem dX11_fitsName_123 : decode cX11_fitsName 123 = .ok (.iconst 1, 1) := by decide +kernel
theorem dX11_fitsName_124 : decode cX11_fitsName 124 = .ok (.if_icmp .ne 34, 3) := by decide +kernel
theorem dX11_fitsName_127 : decode cX11_fitsName 127 = .ok (.aload_n 0, 1) := by decide +kernel
theorem dX11_fitsName_128 : decode cX11_fitsName 128 = .ok (.iload_n 1, 1) := by decide +kernel
theorem dX11_fitsName_129 : decode cX11_fitsName 129 = .ok (.iload 7, 2) := by decide +kernel
theorem dX11_fitsName_131 : decode cX11_fitsName 131 = .ok (.iload 9, 2) := by decide +kernel
theorem dX11_fitsName_133 : decode cX11_fitsName 133 = .ok (.aload_n 0, 1) := by decide +kernel
theorem dX11_fitsName_134 : decode cX11_fitsName 134 = .ok (.getfield 39, 3) := by decide +kernel
theorem dX11_fitsName_137 : decode cX11_fitsName 137 = .ok (.bipush 8, 2) := by decide +kernel
theorem dX11_fitsName_139 : decode cX11_fitsName 139 = .ok (.iload 4, 2) := by decide +kernel
theorem dX11_fitsName_141 : decode cX11_fitsName 141 = .ok (.imul, 1) := by decide +kernel
theorem dX11_fitsName_142 : decode cX11_fitsName 142 = .ok (.iload 11, 2) := by decide +kernel
theorem dX11_fitsName_144 : decode cX11_fitsName 144 = .ok (.iadd, 1) := by decide +kernel
theorem dX11_fitsName_145 : decode cX11_fitsName 145 = .ok (.iconst 1, 1) := by decide +kernel
theorem dX11_fitsName_146 : decode cX11_fitsName 146 = .ok (.isub, 1) := by decide +kernel
theorem dX11_fitsName_147 : decode cX11_fitsName 147 = .ok (.baload, 1) := by decide +kernel
theorem dX11_fitsName_148 : decode cX11_fitsName 148 = .ok (.invokevirtual 178, 3) := by decide +kernel
theorem dX11_fitsName_151 : decode cX11_fitsName 151 = .ok (.ifCond .eq 7, 3) := by decide +kernel
theorem dX11_fitsName_154 : decode cX11_fitsName 154 = .ok (.iconst 1, 1) := by decide +kernel
theorem dX11_fitsName_155 : decode cX11_fitsName 155 = .ok (.goto 4, 3) := by decide +kernel
theorem dX11_fitsName_158 : decode cX11_fitsName 158 = .ok (.iconst 0, 1) := by decide +kernel
theorem dX11_fitsName_159 : decode cX11_fitsName 159 = .ok (.istore 13, 2) := by decide +kernel
theorem dX11_fitsName_161 : decode cX11_fitsName 161 = .ok (.iload 10, 2) := by decide +kernel
theorem dX11_fitsName_163 : decode cX11_fitsName 163 = .ok (.iload 12, 2) := by decide +kernel
theorem dX11_fitsName_165 : decode cX11_fitsName 165 = .ok (.ifCond .ne 8, 3) := by decide +kernel
theorem dX11_fitsName_168 : decode cX11_fitsName 168 = .ok (.iload 13, 2) := by decide +kernel
theorem dX11_fitsName_170 : decode cX11_fitsName 170 = .ok (.ifCond .eq 10, 3) := by decide +kernel
theorem dX11_fitsName_173 : decode cX11_fitsName 173 = .ok (.iconst 1, 1) := by decide +kernel
theorem dX11_fitsName_174 : decode cX11_fitsName 174 = .ok (.iload 11, 2) := by decide +kernel
theorem dX11_fitsName_176 : decode cX11_fitsName 176 = .ok (.ishl, 1) := by decide +kernel
theorem dX11_fitsName_177 : decode cX11_fitsName 177 = .ok (.goto 4, 3) := by decide +kernel
theorem dX11_fitsName_180 : decode cX11_fitsName 180 = .ok (.iconst 0, 1) := by decide +kernel
theorem dX11_fitsName_181 : decode cX11_fitsName 181 = .ok (.ior, 1) := by decide +kernel
theorem dX11_fitsName_182 : decode cX11_fitsName 182 = .ok (.istore 10, 2) := by decide +kernel
theorem dX11_fitsName_184 : decode cX11_fitsName 184 = .ok (.iinc 11 1, 3) := by decide +kernel
theorem dX11_fitsName_187 : decode cX11_fitsName 187 = .ok (.goto (-118), 3) := by decide +kernel
theorem dX11_fitsName_190 : decode cX11_fitsName 190 = .ok (.iload 10, 2) := by decide +kernel
theorem dX11_fitsName_192 : decode cX11_fitsName 192 = .ok (.istore 6, 2) := by decide +kernel
theorem dX11_fitsName_194 : decode cX11_fitsName 194 = .ok (.iload 9, 2) := by decide +kernel
theorem dX11_fitsName_196 : decode cX11_fitsName 196 = .ok (.istore 7, 2) := by decide +kernel
theorem dX11_fitsName_198 : decode cX11_fitsName 198 = .ok (.goto (-183), 3) := by decide +kernel
theorem dX11_fitsName_201 : decode cX11_fitsName 201 = .ok (.iload 6, 2) := by decide +kernel
theorem dX11_fitsName_203 : decode cX11_fitsName 203 = .ok (.iload 5, 2) := by decide +kernel
theorem dX11_fitsName_205 : decode cX11_fitsName 205 = .ok (.ishr, 1) := by decide +kernel
theorem dX11_fitsName_206 : decode cX11_fitsName 206 = .ok (.iconst 1, 1) := by decide +kernel
theorem dX11_fitsName_207 : decode cX11_fitsName 207 = .ok (.iand, 1) := by decide +kernel
theorem dX11_fitsName_208 : decode cX11_fitsName 208 = .ok (.iconst 1, 1) := by decide +kernel
theorem dX11_fitsName_209 : decode cX11_fitsName 209 = .ok (.if_icmp .ne 7, 3) := by decide +kernel
theorem dX11_fitsName_212 : decode cX11_fitsName 212 = .ok (.iconst 1, 1) := by decide +kernel
theorem dX11_fitsName_213 : decode cX11_fitsName 213 = .ok (.goto 4, 3) := by decide +kernel
theorem dX11_fitsName_216 : decode cX11_fitsName 216 = .ok (.iconst 0, 1) := by decide +kernel
theorem dX11_fitsName_217 : decode cX11_fitsName 217 = .ok (.ireturn, 1) := by decide +kernel
theorem dX11_isOne_0 : decode cX11_isOne 0 = .ok (.iload_n 3, 1) := by decide +kernel
theorem dX11_isOne_1 : decode cX11_isOne 1 = .ok (.iload_n 2, 1) := by decide +kernel
theorem dX11_isOne_2 : decode cX11_isOne 2 = .ok (.iconst 1, 1) := by decide +kernel
theorem dX11_isOne_3 : decode cX11_isOne 3 = .ok (.iadd, 1) := by decide +kernel
theorem dX11_isOne_4 : decode cX11_isOne 4 = .ok (.if_icmp .ne 20, 3) := by decide +kernel
theorem dX11_isOne_7 : decode cX11_isOne 7 = .ok (.aload_n 0, 1) := by decide +kernel
theorem dX11_isOne_8 : decode cX11_isOne 8 = .ok (.iload_n 1, 1) := by decide +kernel
theorem dX11_isOne_9 : decode cX11_isOne 9 = .ok (.iload_n 2, 1) := by decide +kernel
theorem dX11_isOne_10 : decode cX11_isOne 10 = .ok (.invokevirtual 175, 3) := by decide +kernel
theorem dX11_isOne_13 : decode cX11_isOne 13 = .ok (.iload 4, 2) := by decide +kernel
theorem dX11_isOne_15 : decode cX11_isOne 15 = .ok (.if_icmp .ne 7, 3) := by decide +kernel
theorem dX11_isOne_18 : decode cX11_isOne 18 = .ok (.iconst 1, 1) := by decide +kernel
theorem dX11_isOne_19 : decode cX11_isOne 19 = .ok (.goto 4, 3) := by decide +kernel
theorem dX11_isOne_22 : decode cX11_isOne 22 = .ok (.iconst 0, 1) := by decide +kernel
theorem dX11_isOne_23 : decode cX11_isOne 23 = .ok (.ireturn, 1) := by decide +kernel
theorem dX11_isOne_24 : decode cX11_isOne 24 = .ok (.iconst 0, 1) := by decide +kernel
theorem dX11_isOne_25 : decode cX11_isOne 25 = .ok (.istore 5, 2) := by decide +kernel
theorem dX11_isOne_27 : decode cX11_isOne 27 = .ok (.iload_n 2, 1) := by decide +kernel
theorem dX11_isOne_28 : decode cX11_isOne 28 = .ok (.iconst 1, 1) := by decide +kernel
theorem dX11_isOne_29 : decode cX11_isOne 29 = .ok (.iadd, 1) := by decide +kernel
theorem dX11_isOne_30 : decode cX11_isOne 30 = .ok (.istore 6, 2) := by decide +kernel
theorem dX11_isOne_32 : decode cX11_isOne 32 = .ok (.iload 6, 2) := by decide +kernel
theorem dX11_isOne_34 : decode cX11_isOne 34 = .ok (.iload_n 3, 1) := by decide +kernel
theorem dX11_isOne_35 : decode cX11_isOne 35 = .ok (.iconst 1, 1) := by decide +kernel
theorem dX11_isOne_36 : decode cX11_isOne 36 = .ok (.isub, 1) := by decide +kernel
theorem dX11_isOne_37 : decode cX11_isOne 37 = .ok (.if_icmp .ge 33, 3) := by decide +kernel
theorem dX11_isOne_40 : decode cX11_isOne 40 = .ok (.iload 5, 2) := by decide +kernel
theorem dX11_isOne_42 : decode cX11_isOne 42 = .ok (.ifCond .ne 15, 3) := by decide +kernel
theorem dX11_isOne_45 : decode cX11_isOne 45 = .ok (.aload_n 0, 1) := by decide +kernel
theorem dX11_isOne_46 : decode cX11_isOne 46 = .ok (.iload_n 1, 1) := by decide +kernel
theorem dX11_isOne_47 : decode cX11_isOne 47 = .ok (.iload 6, 2) := by decide +kernel
theorem dX11_isOne_49 : decode cX11_isOne 49 = .ok (.invokevirtual 175, 3) := by decide +kernel
theorem dX11_isOne_52 : decode cX11_isOne 52 = .ok (.iload 4, 2) := by decide +kernel
theorem dX11_isOne_54 : decode cX11_isOne 54 = .ok (.if_icmp .ne 7, 3) := by decide +kernel
theorem dX11_isOne_57 : decode cX11_isOne 57 = .ok (.iconst 1, 1) := by decide +kernel
theorem dX11_isOne_58 : decode cX11_isOne 58 = .ok (.goto 4, 3) := by decide +kernel
theorem dX11_isOne_61 : decode cX11_isOne 61 = .ok (.iconst 0, 1) := by decide +kernel
theorem dX11_isOne_62 : decode cX11_isOne 62 = .ok (.istore 5, 2) := by decide +kernel
theorem dX11_isOne_64 : decode cX11_isOne 64 = .ok (.iinc 6 1, 3) := by decide +kernel
theorem dX11_isOne_67 : decode cX11_isOne 67 = .ok (.goto (-35), 3) := by decide +kernel
theorem dX11_isOne_70 : decode cX11_isOne 70 = .ok (.iload 5, 2) := by decide +kernel
theorem dX11_isOne_72 : decode cX11_isOne 72 = .ok (.ireturn, 1) := by decide +kernel
theorem dX11_pieceEnd_0 : decode cX11_pieceEnd 0 = .ok (.iload_n 2, 1) := by decide +kernel
theorem dX11_pieceEnd_1 : decode cX11_pieceEnd 1 = .ok (.istore_n 3, 1) := by decide +kernel
theorem dX11_pieceEnd_2 : decode cX11_pieceEnd 2 = .ok (.aload_n 0, 1) := by decide +kernel
theorem dX11_pieceEnd_3 : decode cX11_pieceEnd 3 = .ok (.iload_n 1, 1) := by decide +kernel
theorem dX11_pieceEnd_4 : decode cX11_pieceEnd 4 = .ok (.iload_n 3, 1) := by decide +kernel
theorem dX11_pieceEnd_5 : decode cX11_pieceEnd 5 = .ok (.invokevirtual 175, 3) := by decide +kernel
theorem dX11_pieceEnd_8 : decode cX11_pieceEnd 8 = .ok (.iconst (-1), 1) := by decide +kernel
theorem dX11_pieceEnd_9 : decode cX11_pieceEnd 9 = .ok (.if_icmp .eq 20, 3) := by decide +kernel
theorem dX11_pieceEnd_12 : decode cX11_pieceEnd 12 = .ok (.aload_n 0, 1) := by decide +kernel
theorem dX11_pieceEnd_13 : decode cX11_pieceEnd 13 = .ok (.iload_n 1, 1) := by decide +kernel
theorem dX11_pieceEnd_14 : decode cX11_pieceEnd 14 = .ok (.iload_n 3, 1) := by decide +kernel
theorem dX11_pieceEnd_15 : decode cX11_pieceEnd 15 = .ok (.invokevirtual 175, 3) := by decide +kernel
theorem dX11_pieceEnd_18 : decode cX11_pieceEnd 18 = .ok (.bipush 47, 2) := by decide +kernel
theorem dX11_pieceEnd_20 : decode cX11_pieceEnd 20 = .ok (.if_icmp .eq 9, 3) := by decide +kernel
theorem dX11_pieceEnd_23 : decode cX11_pieceEnd 23 = .ok (.iinc 3 1, 3) := by decide +kernel
theorem dX11_pieceEnd_26 : decode cX11_pieceEnd 26 = .ok (.goto (-24), 3) := by decide +kernel
theorem dX11_pieceEnd_29 : decode cX11_pieceEnd 29 = .ok (.iload_n 3, 1) := by decide +kernel
theorem dX11_pieceEnd_30 : decode cX11_pieceEnd 30 = .ok (.ireturn, 1) := by decide +kernel
theorem dX11_isStars_0 : decode cX11_isStars 0 = .ok (.iload_n 3, 1) := by decide +kernel
theorem dX11_isStars_1 : decode cX11_isStars 1 = .ok (.iload_n 2, 1) := by decide +kernel
theorem dX11_isStars_2 : decode cX11_isStars 2 = .ok (.iconst 2, 1) := by decide +kernel
theorem dX11_isStars_3 : decode cX11_isStars 3 = .ok (.iadd, 1) := by decide +kernel
theorem dX11_isStars_4 : decode cX11_isStars 4 = .ok (.if_icmp .ne 31, 3) := by decide +kernel
theorem dX11_isStars_7 : decode cX11_isStars 7 = .ok (.aload_n 0, 1) := by decide +kernel
theorem dX11_isStars_8 : decode cX11_isStars 8 = .ok (.iload_n 1, 1) := by decide +kernel
theorem dX11_isStars_9 : decode cX11_isStars 9 = .ok (.iload_n 2, 1) := by decide +kernel
theorem dX11_isStars_10 : decode cX11_isStars 10 = .ok (.invokevirtual 175, 3) := by decide +kernel
theorem dX11_isStars_13 : decode cX11_isStars 13 = .ok (.bipush 42, 2) := by decide +kernel
theorem dX11_isStars_15 : decode cX11_isStars 15 = .ok (.if_icmp .ne 20, 3) := by decide +kernel
theorem dX11_isStars_18 : decode cX11_isStars 18 = .ok (.aload_n 0, 1) := by decide +kernel
theorem dX11_isStars_19 : decode cX11_isStars 19 = .ok (.iload_n 1, 1) := by decide +kernel
theorem dX11_isStars_20 : decode cX11_isStars 20 = .ok (.iload_n 2, 1) := by decide +kernel
theorem dX11_isStars_21 : decode cX11_isStars 21 = .ok (.iconst 1, 1) := by decide +kernel
theorem dX11_isStars_22 : decode cX11_isStars 22 = .ok (.iadd, 1) := by decide +kernel
theorem dX11_isStars_23 : decode cX11_isStars 23 = .ok (.invokevirtual 175, 3) := by decide +kernel
theorem dX11_isStars_26 : decode cX11_isStars 26 = .ok (.bipush 42, 2) := by decide +kernel
theorem dX11_isStars_28 : decode cX11_isStars 28 = .ok (.if_icmp .ne 7, 3) := by decide +kernel
theorem dX11_isStars_31 : decode cX11_isStars 31 = .ok (.iconst 1, 1) := by decide +kernel
theorem dX11_isStars_32 : decode cX11_isStars 32 = .ok (.goto 4, 3) := by decide +kernel
theorem dX11_isStars_35 : decode cX11_isStars 35 = .ok (.iconst 0, 1) := by decide +kernel
theorem dX11_isStars_36 : decode cX11_isStars 36 = .ok (.ireturn, 1) := by decide +kernel
theorem dX11_pieces_0 : decode cX11_pieces 0 = .ok (.iconst 1, 1) := by decide +kernel
theorem dX11_pieces_1 : decode cX11_pieces 1 = .ok (.istore_n 2, 1) := by decide +kernel
theorem dX11_pieces_2 : decode cX11_pieces 2 = .ok (.iconst 0, 1) := by decide +kernel
theorem dX11_pieces_3 : decode cX11_pieces 3 = .ok (.istore_n 3, 1) := by decide +kernel
theorem dX11_pieces_4 : decode cX11_pieces 4 = .ok (.iload_n 3, 1) := by decide +kernel
theorem dX11_pieces_5 : decode cX11_pieces 5 = .ok (.iconst 1, 1) := by decide +kernel
theorem dX11_pieces_6 : decode cX11_pieces 6 = .ok (.iadd, 1) := by decide +kernel
theorem dX11_pieces_7 : decode cX11_pieces 7 = .ok (.aload_n 0, 1) := by decide +kernel
theorem dX11_pieces_8 : decode cX11_pieces 8 = .ok (.getfield 54, 3) := by decide +kernel
theorem dX11_pieces_11 : decode cX11_pieces 11 = .ok (.iload_n 1, 1) := by decide +kernel
theorem dX11_pieces_12 : decode cX11_pieces 12 = .ok (.iaload, 1) := by decide +kernel
theorem dX11_pieces_13 : decode cX11_pieces 13 = .ok (.if_icmp .ge 28, 3) := by decide +kernel
theorem dX11_pieces_16 : decode cX11_pieces 16 = .ok (.iload_n 2, 1) := by decide +kernel
theorem dX11_pieces_17 : decode cX11_pieces 17 = .ok (.aload_n 0, 1) := by decide +kernel
theorem dX11_pieces_18 : decode cX11_pieces 18 = .ok (.iload_n 1, 1) := by decide +kernel
theorem dX11_pieces_19 : decode cX11_pieces 19 = .ok (.iload_n 3, 1) := by decide +kernel
theorem dX11_pieces_20 : decode cX11_pieces 20 = .ok (.invokevirtual 175, 3) := by decide +kernel
theorem dX11_pieces_23 : decode cX11_pieces 23 = .ok (.bipush 47, 2) := by decide +kernel
theorem dX11_pieces_25 : decode cX11_pieces 25 = .ok (.if_icmp .ne 7, 3) := by decide +kernel
theorem dX11_pieces_28 : decode cX11_pieces 28 = .ok (.iconst 1, 1) := by decide +kernel
theorem dX11_pieces_29 : decode cX11_pieces 29 = .ok (.goto 4, 3) := by decide +kernel
theorem dX11_pieces_32 : decode cX11_pieces 32 = .ok (.iconst 0, 1) := by decide +kernel
theorem dX11_pieces_33 : decode cX11_pieces 33 = .ok (.iadd, 1) := by decide +kernel
theorem dX11_pieces_34 : decode cX11_pieces 34 = .ok (.istore_n 2, 1) := by decide +kernel
theorem dX11_pieces_35 : decode cX11_pieces 35 = .ok (.iinc 3 1, 3) := by decide +kernel
theorem dX11_pieces_38 : decode cX11_pieces 38 = .ok (.goto (-34), 3) := by decide +kernel
theorem dX11_pieces_41 : decode cX11_pieces 41 = .ok (.iload_n 2, 1) := by decide +kernel
theorem dX11_pieces_42 : decode cX11_pieces 42 = .ok (.ireturn, 1) := by decide +kernel
theorem dX11_isForFolders_0 : decode cX11_isForFolders 0 = .ok (.aload_n 0, 1) := by decide +kernel
theorem dX11_isForFolders_1 : decode cX11_isForFolders 1 = .ok (.iload_n 1, 1) := by decide +kernel
theorem dX11_isForFolders_2 : decode cX11_isForFolders 2 = .ok (.aload_n 0, 1) := by decide +kernel
theorem dX11_isForFolders_3 : decode cX11_isForFolders 3 = .ok (.getfield 54, 3) := by decide +kernel
theorem dX11_isForFolders_6 : decode cX11_isForFolders 6 = .ok (.iload_n 1, 1) := by decide +kernel
theorem dX11_isForFolders_7 : decode cX11_isForFolders 7 = .ok (.iaload, 1) := by decide +kernel
theorem dX11_isForFolders_8 : decode cX11_isForFolders 8 = .ok (.iconst 1, 1) := by decide +kernel
theorem dX11_isForFolders_9 : decode cX11_isForFolders 9 = .ok (.isub, 1) := by decide +kernel
theorem dX11_isForFolders_10 : decode cX11_isForFolders 10 = .ok (.invokevirtual 175, 3) := by decide +kernel
theorem dX11_isForFolders_13 : decode cX11_isForFolders 13 = .ok (.bipush 47, 2) := by decide +kernel
theorem dX11_isForFolders_15 : decode cX11_isForFolders 15 = .ok (.if_icmp .ne 7, 3) := by decide +kernel
theorem dX11_isForFolders_18 : decode cX11_isForFolders 18 = .ok (.iconst 1, 1) := by decide +kernel
theorem dX11_isForFolders_19 : decode cX11_isForFolders 19 = .ok (.goto 4, 3) := by decide +kernel
theorem dX11_isForFolders_22 : decode cX11_isForFolders 22 = .ok (.iconst 0, 1) := by decide +kernel
theorem dX11_isForFolders_23 : decode cX11_isForFolders 23 = .ok (.ireturn, 1) := by decide +kernel
theorem dX11_closed_0 : decode cX11_closed 0 = .ok (.iload_n 2, 1) := by decide +kernel
theorem dX11_closed_1 : decode cX11_closed 1 = .ok (.istore_n 3, 1) := by decide +kernel
theorem dX11_closed_2 : decode cX11_closed 2 = .ok (.iconst 0, 1) := by decide +kernel
theorem dX11_closed_3 : decode cX11_closed 3 = .ok (.istore 4, 2) := by decide +kernel
theorem dX11_closed_5 : decode cX11_closed 5 = .ok (.iconst 0, 1) := by decide +kernel
theorem dX11_closed_6 : decode cX11_closed 6 = .ok (.istore 5, 2) := by decide +kernel
theorem dX11_closed_8 : decode cX11_closed 8 = .ok (.iload 5, 2) := by decide +kernel
theorem dX11_closed_10 : decode cX11_closed 10 = .ok (.aload_n 0, 1) := by decide +kernel
theorem dX11_closed_11 : decode cX11_closed 11 = .ok (.iload_n 1, 1) := by decide +kernel
theorem dX11_closed_12 : decode cX11_closed 12 = .ok (.invokevirtual 182, 3) := by decide +kernel
theorem dX11_closed_15 : decode cX11_closed 15 = .ok (.if_icmp .ge 53, 3) := by decide +kernel
theorem dX11_closed_18 : decode cX11_closed 18 = .ok (.aload_n 0, 1) := by decide +kernel
theorem dX11_closed_19 : decode cX11_closed 19 = .ok (.iload_n 1, 1) := by decide +kernel
theorem dX11_closed_20 : decode cX11_closed 20 = .ok (.iload 4, 2) := by decide +kernel
theorem dX11_closed_22 : decode cX11_closed 22 = .ok (.invokevirtual 185, 3) := by decide +kernel
theorem dX11_closed_25 : decode cX11_closed 25 = .ok (.istore 6, 2) := by decide +kernel
theorem dX11_closed_27 : decode cX11_closed 27 = .ok (.aload_n 0, 1) := by decide +kernel
theorem dX11_closed_28 : decode cX11_closed 28 = .ok (.iload_n 1, 1) := by decide +kernel
theorem dX11_closed_29 : decode cX11_closed 29 = .ok (.iload 4, 2) := by decide +kernel
theorem dX11_closed_31 : decode cX11_closed 31 = .ok (.iload 6, 2) := by decide +kernel
theorem dX11_closed_33 : decode cX11_closed 33 = .ok (.invokevirtual 188, 3) := by decide +kernel
theorem dX11_closed_36 : decode cX11_closed 36 = .ok (.ifCond .eq 20, 3) := by decide +kernel
theorem dX11_closed_39 : decode cX11_closed 39 = .ok (.iload_n 3, 1) := by decide +kernel
theorem dX11_closed_40 : decode cX11_closed 40 = .ok (.iload 5, 2) := by decide +kernel
theorem dX11_closed_42 : decode cX11_closed 42 = .ok (.ishr, 1) := by decide +kernel
theorem dX11_closed_43 : decode cX11_closed 43 = .ok (.iconst 1, 1) := by decide +kernel
theorem dX11_closed_44 : decode cX11_closed 44 = .ok (.iand, 1) := by decide +kernel
theorem dX11_closed_45 : decode cX11_closed 45 = .ok (.iconst 1, 1) := by decide +kernel
theorem dX11_closed_46 : decode cX11_closed 46 = .ok (.if_icmp .ne 10, 3) := by decide +kernel
theorem dX11_closed_49 : decode cX11_closed 49 = .ok (.iload_n 3, 1) := by decide +kernel
theorem dX11_closed_50 : decode cX11_closed 50 = .ok (.iconst 2, 1) := by decide +kernel
theorem dX11_closed_51 : decode cX11_closed 51 = .ok (.iload 5, 2) := by decide +kernel
theorem dX11_closed_53 : decode cX11_closed 53 = .ok (.ishl, 1) := by decide +kernel
theorem dX11_closed_54 : decode cX11_closed 54 = .ok (.ior, 1) := by decide +kernel
theorem dX11_closed_55 : decode cX11_closed 55 = .ok (.istore_n 3, 1) := by decide +kernel
theorem dX11_closed_56 : decode cX11_closed 56 = .ok (.iload 6, 2) := by decide +kernel
theorem dX11_closed_58 : decode cX11_closed 58 = .ok (.iconst 1, 1) := by decide +kernel
theorem dX11_closed_59 : decode cX11_closed 59 = .ok (.iadd, 1) := by decide +kernel
theorem dX11_closed_60 : decode cX11_closed 60 = .ok (.istore 4, 2) := by decide +kernel
theorem dX11_closed_62 : decode cX11_closed 62 = .ok (.iinc 5 1, 3) := by decide +kernel
theorem dX11_closed_65 : decode cX11_closed 65 = .ok (.goto (-57), 3) := by decide +kernel
theorem dX11_closed_68 : decode cX11_closed 68 = .ok (.iload_n 3, 1) := by decide +kernel
theorem dX11_closed_69 : decode cX11_closed 69 = .ok (.ireturn, 1) := by decide +kernel
theorem dX11_on_0 : decode cX11_on 0 = .ok (.iconst 0, 1) := by decide +kernel
theorem dX11_on_1 : decode cX11_on 1 = .ok (.istore 4, 2) := by decide +kernel
theorem dX11_on_3 : decode cX11_on 3 = .ok (.iconst 0, 1) := by decide +kernel
theorem dX11_on_4 : decode cX11_on 4 = .ok (.istore 5, 2) := by decide +kernel
theorem dX11_on_6 : decode cX11_on 6 = .ok (.iconst 0, 1) := by decide +kernel
theorem dX11_on_7 : decode cX11_on 7 = .ok (.istore 6, 2) := by decide +kernel
theorem dX11_on_9 : decode cX11_on 9 = .ok (.iload 6, 2) := by decide +kernel
theorem dX11_on_11 : decode cX11_on 11 = .ok (.aload_n 0, 1) := by decide +kernel
theorem dX11_on_12 : decode cX11_on 12 = .ok (.iload_n 1, 1) := by decide +kernel
theorem dX11_on_13 : decode cX11_on 13 = .ok (.invokevirtual 182, 3) := by decide +kernel
theorem dX11_on_16 : decode cX11_on 16 = .ok (.if_icmp .ge 83, 3) := by decide +kernel
theorem dX11_on_19 : decode cX11_on 19 = .ok (.aload_n 0, 1) := by decide +kernel
theorem dX11_on_20 : decode cX11_on 20 = .ok (.iload_n 1, 1) := by decide +kernel
theorem dX11_on_21 : decode cX11_on 21 = .ok (.iload 5, 2) := by decide +kernel
theorem dX11_on_23 : decode cX11_on 23 = .ok (.invokevirtual 185, 3) := by decide +kernel
theorem dX11_on_26 : decode cX11_on 26 = .ok (.istore 7, 2) := by decide +kernel
theorem dX11_on_28 : decode cX11_on 28 = .ok (.iload_n 2, 1) := by decide +kernel
theorem dX11_on_29 : decode cX11_on 29 = .ok (.iload 6, 2) := by decide +kernel
theorem dX11_on_31 : decode cX11_on 31 = .ok (.ishr, 1) := by decide +kernel
theorem dX11_on_32 : decode cX11_on 32 = .ok (.iconst 1, 1) := by decide +kernel
theorem dX11_on_33 : decode cX11_on 33 = .ok (.iand, 1) := by decide +kernel
theorem dX11_on_34 : decode cX11_on 34 = .ok (.iconst 1, 1) := by decide +kernel
theorem dX11_on_35 : decode cX11_on 35 = .ok (.if_icmp .ne 52, 3) := by decide +kernel
theorem dX11_on_38 : decode cX11_on 38 = .ok (.aload_n 0, 1) := by decide +kernel
theorem dX11_on_39 : decode cX11_on 39 = .ok (.iload_n 1, 1) := by decide +kernel
theorem dX11_on_40 : decode cX11_on 40 = .ok (.iload 5, 2) := by decide +kernel
theorem dX11_on_42 : decode cX11_on 42 = .ok (.iload 7, 2) := by decide +kernel
theorem dX11_on_44 : decode cX11_on 44 = .ok (.invokevirtual 188, 3) := by decide +kernel
theorem dX11_on_47 : decode cX11_on 47 = .ok (.istore 8, 2) := by decide +kernel
theorem dX11_on_49 : decode cX11_on 49 = .ok (.iload 4, 2) := by decide +kernel
theorem dX11_on_51 : decode cX11_on 51 = .ok (.iload 8, 2) := by decide +kernel
theorem dX11_on_53 : decode cX11_on 53 = .ok (.ifCond .eq 10, 3) := by decide +kernel
theorem dX11_on_56 : decode cX11_on 56 = .ok (.iconst 1, 1) := by decide +kernel
theorem dX11_on_57 : decode cX11_on 57 = .ok (.iload 6, 2) := by decide +kernel
theorem dX11_on_59 : decode cX11_on 59 = .ok (.ishl, 1) := by decide +kernel
theorem dX11_on_60 : decode cX11_on 60 = .ok (.goto 24, 3) := by decide +kernel
theorem dX11_on_63 : decode cX11_on 63 = .ok (.aload_n 0, 1) := by decide +kernel
theorem dX11_on_64 : decode cX11_on 64 = .ok (.iload_n 1, 1) := by decide +kernel
theorem dX11_on_65 : decode cX11_on 65 = .ok (.iload 5, 2) := by decide +kernel
theorem dX11_on_67 : decode cX11_on 67 = .ok (.iload 7, 2) := by decide +kernel
theorem dX11_on_69 : decode cX11_on 69 = .ok (.iload_n 3, 1) := by decide +kernel
theorem dX11_on_70 : decode cX11_on 70 = .ok (.invokevirtual 192, 3) := by decide +kernel
theorem dX11_on_73 : decode cX11_on 73 = .ok (.ifCond .eq 10, 3) := by decide +kernel
theorem dX11_on_76 : decode cX11_on 76 = .ok (.iconst 2, 1) := by decide +kernel
theorem dX11_on_77 : decode cX11_on 77 = .ok (.iload 6, 2) := by decide +kernel
theorem dX11_on_79 : decode cX11_on 79 = .ok (.ishl, 1) := by decide +kernel
theorem dX11_on_80 : decode cX11_on 80 = .ok (.goto 4, 3) := by decide +kernel
theorem dX11_on_83 : decode cX11_on 83 = .ok (.iconst 0, 1) := by decide +kernel
theorem dX11_on_84 : decode cX11_on 84 = .ok (.ior, 1) := by decide +kernel
theorem dX11_on_85 : decode cX11_on 85 = .ok (.istore 4, 2) := by decide +kernel
theorem dX11_on_87 : decode cX11_on 87 = .ok (.iload 7, 2) := by decide +kernel
theorem dX11_on_89 : decode cX11_on 89 = .ok (.iconst 1, 1) := by decide +kernel
theorem dX11_on_90 : decode cX11_on 90 = .ok (.iadd, 1) := by decide +kernel
theorem dX11_on_91 : decode cX11_on 91 = .ok (.istore 5, 2) := by decide +kernel
theorem dX11_on_93 : decode cX11_on 93 = .ok (.iinc 6 1, 3) := by decide +kernel
theorem dX11_on_96 : decode cX11_on 96 = .ok (.goto (-87), 3) := by decide +kernel
theorem dX11_on_99 : decode cX11_on 99 = .ok (.aload_n 0, 1) := by decide +kernel
theorem dX11_on_100 : decode cX11_on 100 = .ok (.iload_n 1, 1) := by decide +kernel
theorem dX11_on_101 : decode cX11_on 101 = .ok (.iload 4, 2) := by decide +kernel
theorem dX11_on_103 : decode cX11_on 103 = .ok (.invokevirtual 195, 3) := by decide +kernel
theorem dX11_on_106 : decode cX11_on 106 = .ok (.ireturn, 1) := by decide +kernel
theorem dX11_bitsOf_0 : decode cX11_bitsOf 0 = .ok (.aload_n 0, 1) := by decide +kernel
theorem dX11_bitsOf_1 : decode cX11_bitsOf 1 = .ok (.iload_n 1, 1) := by decide +kernel
theorem dX11_bitsOf_2 : decode cX11_bitsOf 2 = .ok (.iconst 1, 1) := by decide +kernel
theorem dX11_bitsOf_3 : decode cX11_bitsOf 3 = .ok (.invokevirtual 195, 3) := by decide +kernel
theorem dX11_bitsOf_6 : decode cX11_bitsOf 6 = .ok (.istore_n 3, 1) := by decide +kernel
theorem dX11_bitsOf_7 : decode cX11_bitsOf 7 = .ok (.iconst 1, 1) := by decide +kernel
theorem dX11_bitsOf_8 : decode cX11_bitsOf 8 = .ok (.istore 4, 2) := by decide +kernel
theorem dX11_bitsOf_10 : decode cX11_bitsOf 10 = .ok (.iload 4, 2) := by decide +kernel
theorem dX11_bitsOf_12 : decode cX11_bitsOf 12 = .ok (.aload_n 0, 1) := by decide +kernel
theorem dX11_bitsOf_13 : decode cX11_bitsOf 13 = .ok (.getfield 198, 3) := by decide +kernel
theorem dX11_bitsOf_16 : decode cX11_bitsOf 16 = .ok (.if_icmp .gt 23, 3) := by decide +kernel
theorem dX11_bitsOf_19 : decode cX11_bitsOf 19 = .ok (.aload_n 0, 1) := by decide +kernel
theorem dX11_bitsOf_20 : decode cX11_bitsOf 20 = .ok (.iload_n 1, 1) := by decide +kernel
theorem dX11_bitsOf_21 : decode cX11_bitsOf 21 = .ok (.iload_n 3, 1) := by decide +kernel
theorem dX11_bitsOf_22 : decode cX11_bitsOf 22 = .ok (.aload_n 0, 1) := by decide +kernel
theorem dX11_bitsOf_23 : decode cX11_bitsOf 23 = .ok (.getfield 88, 3) := by decide +kernel
theorem dX11_bitsOf_26 : decode cX11_bitsOf 26 = .ok (.iload 4, 2) := by decide +kernel
theorem dX11_bitsOf_28 : decode cX11_bitsOf 28 = .ok (.iaload, 1) := by decide +kernel
theorem dX11_bitsOf_29 : decode cX11_bitsOf 29 = .ok (.invokevirtual 201, 3) := by decide +kernel
theorem dX11_bitsOf_32 : decode cX11_bitsOf 32 = .ok (.istore_n 3, 1) := by decide +kernel
theorem dX11_bitsOf_33 : decode cX11_bitsOf 33 = .ok (.iinc 4 1, 3) := by decide +kernel
theorem dX11_bitsOf_36 : decode cX11_bitsOf 36 = .ok (.goto (-26), 3) := by decide +kernel
theorem dX11_bitsOf_39 : decode cX11_bitsOf 39 = .ok (.iload_n 2, 1) := by decide +kernel
theorem dX11_bitsOf_40 : decode cX11_bitsOf 40 = .ok (.iconst (-1), 1) := by decide +kernel
theorem dX11_bitsOf_41 : decode cX11_bitsOf 41 = .ok (.if_icmp .ne 7, 3) := by decide +kernel
theorem dX11_bitsOf_44 : decode cX11_bitsOf 44 = .ok (.iload_n 3, 1) := by decide +kernel
theorem dX11_bitsOf_45 : decode cX11_bitsOf 45 = .ok (.goto 10, 3) := by decide +kernel
theorem dX11_bitsOf_48 : decode cX11_bitsOf 48 = .ok (.aload_n 0, 1) := by decide +kernel
theorem dX11_bitsOf_49 : decode cX11_bitsOf 49 = .ok (.iload_n 1, 1) := by decide +kernel
theorem dX11_bitsOf_50 : decode cX11_bitsOf 50 = .ok (.iload_n 3, 1) := by decide +kernel
theorem dX11_bitsOf_51 : decode cX11_bitsOf 51 = .ok (.iload_n 2, 1) := by decide +kernel
theorem dX11_bitsOf_52 : decode cX11_bitsOf 52 = .ok (.invokevirtual 201, 3) := by decide +kernel
theorem dX11_bitsOf_55 : decode cX11_bitsOf 55 = .ok (.ireturn, 1) := by decide +kernel
theorem dX11_fits_0 : decode cX11_fits 0 = .ok (.aload_n 0, 1) := by decide +kernel
theorem dX11_fits_1 : decode cX11_fits 1 = .ok (.iload_n 1, 1) := by decide +kernel
theorem dX11_fits_2 : decode cX11_fits 2 = .ok (.invokevirtual 204, 3) := by decide +kernel
theorem dX11_fits_5 : decode cX11_fits 5 = .ok (.aload_n 0, 1) := by decide +kernel
theorem dX11_fits_6 : decode cX11_fits 6 = .ok (.getfield 20, 3) := by decide +kernel
theorem dX11_fits_9 : decode cX11_fits 9 = .ok (.iload_n 2, 1) := by decide +kernel
theorem dX11_fits_10 : decode cX11_fits 10 = .ok (.iaload, 1) := by decide +kernel
theorem dX11_fits_11 : decode cX11_fits 11 = .ok (.iconst 2, 1) := by decide +kernel
theorem dX11_fits_12 : decode cX11_fits 12 = .ok (.if_icmp .ne 7, 3) := by decide +kernel
theorem dX11_fits_15 : decode cX11_fits 15 = .ok (.iconst 1, 1) := by decide +kernel
theorem dX11_fits_16 : decode cX11_fits 16 = .ok (.goto 4, 3) := by decide +kernel
theorem dX11_fits_19 : decode cX11_fits 19 = .ok (.iconst 0, 1) := by decide +kernel
theorem dX11_fits_20 : decode cX11_fits 20 = .ok (.if_icmp .ne 25, 3) := by decide +kernel
theorem dX11_fits_23 : decode cX11_fits 23 = .ok (.aload_n 0, 1) := by decide +kernel
theorem dX11_fits_24 : decode cX11_fits 24 = .ok (.iload_n 1, 1) := by decide +kernel
theorem dX11_fits_25 : decode cX11_fits 25 = .ok (.iload_n 2, 1) := by decide +kernel
theorem dX11_fits_26 : decode cX11_fits 26 = .ok (.invokevirtual 207, 3) := by decide +kernel
theorem dX11_fits_29 : decode cX11_fits 29 = .ok (.aload_n 0, 1) := by decide +kernel
theorem dX11_fits_30 : decode cX11_fits 30 = .ok (.iload_n 1, 1) := by decide +kernel
theorem dX11_fits_31 : decode cX11_fits 31 = .ok (.invokevirtual 182, 3) := by decide +kernel
theorem dX11_fits_34 : decode cX11_fits 34 = .ok (.ishr, 1) := by decide +kernel
theorem dX11_fits_35 : decode cX11_fits 35 = .ok (.iconst 1, 1) := by decide +kernel
theorem dX11_fits_36 : decode cX11_fits 36 = .ok (.iand, 1) := by decide +kernel
theorem dX11_fits_37 : decode cX11_fits 37 = .ok (.iconst 1, 1) := by decide +kernel
theorem dX11_fits_38 : decode cX11_fits 38 = .ok (.if_icmp .ne 7, 3) := by decide +kernel
theorem dX11_fits_41 : decode cX11_fits 41 = .ok (.iconst 1, 1) := by decide +kernel
theorem dX11_fits_42 : decode cX11_fits 42 = .ok (.goto 4, 3) := by decide +kernel
theorem dX11_fits_45 : decode cX11_fits 45 = .ok (.iconst 0, 1) := by decide +kernel
theorem dX11_fits_46 : decode cX11_fits 46 = .ok (.ireturn, 1) := by decide +kernel
theorem dX11_isAnswer_0 : decode cX11_isAnswer 0 = .ok (.iconst 0, 1) := by decide +kernel
theorem dX11_isAnswer_1 : decode cX11_isAnswer 1 = .ok (.istore_n 3, 1) := by decide +kernel
theorem dX11_isAnswer_2 : decode cX11_isAnswer 2 = .ok (.iconst 0, 1) := by decide +kernel
theorem dX11_isAnswer_3 : decode cX11_isAnswer 3 = .ok (.istore 4, 2) := by decide +kernel
theorem dX11_isAnswer_5 : decode cX11_isAnswer 5 = .ok (.iconst 0, 1) := by decide +kernel
theorem dX11_isAnswer_6 : decode cX11_isAnswer 6 = .ok (.istore 5, 2) := by decide +kernel
theorem dX11_isAnswer_8 : decode cX11_isAnswer 8 = .ok (.iload 5, 2) := by decide +kernel
theorem dX11_isAnswer_10 : decode cX11_isAnswer 10 = .ok (.aload_n 0, 1) := by decide +kernel
theorem dX11_isAnswer_11 : decode cX11_isAnswer 11 = .ok (.getfield 45, 3) := by decide +kernel
theorem dX11_isAnswer_14 : decode cX11_isAnswer 14 = .ok (.iload_n 1, 1) := by decide +kernel
theorem dX11_isAnswer_15 : decode cX11_isAnswer 15 = .ok (.iaload, 1) := by decide +kernel
theorem dX11_isAnswer_16 : decode cX11_isAnswer 16 = .ok (.if_icmp .ge 34, 3) := by decide +kernel
theorem dX11_isAnswer_19 : decode cX11_isAnswer 19 = .ok (.iload_n 3, 1) := by decide +kernel
theorem dX11_isAnswer_20 : decode cX11_isAnswer 20 = .ok (.ifCond .ne 18, 3) := by decide +kernel
theorem dX11_isAnswer_23 : decode cX11_isAnswer 23 = .ok (.aload_n 0, 1) := by decide +kernel
theorem dX11_isAnswer_24 : decode cX11_isAnswer 24 = .ok (.bipush 8, 2) := by decide +kernel
theorem dX11_isAnswer_26 : decode cX11_isAnswer 26 = .ok (.iload_n 1, 1) := by decide +kernel
theorem dX11_isAnswer_27 : decode cX11_isAnswer 27 = .ok (.imul, 1) := by decide +kernel
theorem dX11_isAnswer_28 : decode cX11_isAnswer 28 = .ok (.iload 5, 2) := by decide +kernel
theorem dX11_isAnswer_30 : decode cX11_isAnswer 30 = .ok (.iadd, 1) := by decide +kernel
theorem dX11_isAnswer_31 : decode cX11_isAnswer 31 = .ok (.iload_n 2, 1) := by decide +kernel
theorem dX11_isAnswer_32 : decode cX11_isAnswer 32 = .ok (.invokevirtual 210, 3) := by decide +kernel
theorem dX11_isAnswer_35 : decode cX11_isAnswer 35 = .ok (.ifCond .eq 7, 3) := by decide +kernel
theorem dX11_isAnswer_38 : decode cX11_isAnswer 38 = .ok (.iconst 1, 1) := by decide +kernel
theorem dX11_isAnswer_39 : decode cX11_isAnswer 39 = .ok (.goto 4, 3) := by decide +kernel
theorem dX11_isAnswer_42 : decode cX11_isAnswer 42 = .ok (.iconst 0, 1) := by decide +kernel
theorem dX11_isAnswer_43 : decode cX11_isAnswer 43 = .ok (.istore_n 3, 1) := by decide +kernel
theorem dX11_isAnswer_44 : decode cX11_isAnswer 44 = .ok (.iinc 5 1, 3) := by decide +kernel
theorem dX11_isAnswer_47 : decode cX11_isAnswer 47 = .ok (.goto (-39), 3) := by decide +kernel
theorem dX11_isAnswer_50 : decode cX11_isAnswer 50 = .ok (.iconst 0, 1) := by decide +kernel
theorem dX11_isAnswer_51 : decode cX11_isAnswer 51 = .ok (.istore 5, 2) := by decide +kernel
theorem dX11_isAnswer_53 : decode cX11_isAnswer 53 = .ok (.iload 5, 2) := by decide +kernel
theorem dX11_isAnswer_55 : decode cX11_isAnswer 55 = .ok (.aload_n 0, 1) := by decide +kernel
theorem dX11_isAnswer_56 : decode cX11_isAnswer 56 = .ok (.getfield 48, 3) := by decide +kernel
theorem dX11_isAnswer_59 : decode cX11_isAnswer 59 = .ok (.iload_n 1, 1) := by decide +kernel
theorem dX11_isAnswer_60 : decode cX11_isAnswer 60 = .ok (.iaload, 1) := by decide +kernel
theorem dX11_isAnswer_61 : decode cX11_isAnswer 61 = .ok (.if_icmp .ge 38, 3) := by decide +kernel
theorem dX11_isAnswer_64 : decode cX11_isAnswer 64 = .ok (.iload 4, 2) := by decide +kernel
theorem dX11_isAnswer_66 : decode cX11_isAnswer 66 = .ok (.ifCond .ne 20, 3) := by decide +kernel
theorem dX11_isAnswer_69 : decode cX11_isAnswer 69 = .ok (.aload_n 0, 1) := by decide +kernel
theorem dX11_isAnswer_70 : decode cX11_isAnswer 70 = .ok (.bipush 8, 2) := by decide +kernel
theorem dX11_isAnswer_72 : decode cX11_isAnswer 72 = .ok (.iload_n 1, 1) := by decide +kernel
theorem dX11_isAnswer_73 : decode cX11_isAnswer 73 = .ok (.imul, 1) := by decide +kernel
theorem dX11_isAnswer_74 : decode cX11_isAnswer 74 = .ok (.iconst 4, 1) := by decide +kernel
theorem dX11_isAnswer_75 : decode cX11_isAnswer 75 = .ok (.iadd, 1) := by decide +kernel
theorem dX11_isAnswer_76 : decode cX11_isAnswer 76 = .ok (.iload 5, 2) := by decide +kernel
theorem dX11_isAnswer_78 : decode cX11_isAnswer 78 = .ok (.iadd, 1) := by decide +kernel
theorem dX11_isAnswer_79 : decode cX11_isAnswer 79 = .ok (.iload_n 2, 1) := by decide +kernel
theorem dX11_isAnswer_80 : decode cX11_isAnswer 80 = .ok (.invokevirtual 210, 3) := by decide +kernel
theorem dX11_isAnswer_83 : decode cX11_isAnswer 83 = .ok (.ifCond .eq 7, 3) := by decide +kernel
theorem dX11_isAnswer_86 : decode cX11_isAnswer 86 = .ok (.iconst 1, 1) := by decide +kernel
theorem dX11_isAnswer_87 : decode cX11_isAnswer 87 = .ok (.goto 4, 3) := by decide +kernel
theorem dX11_isAnswer_90 : decode cX11_isAnswer 90 = .ok (.iconst 0, 1) := by decide +kernel
theorem dX11_isAnswer_91 : decode cX11_isAnswer 91 = .ok (.istore 4, 2) := by decide +kernel
theorem dX11_isAnswer_93 : decode cX11_isAnswer 93 = .ok (.iinc 5 1, 3) := by decide +kernel
theorem dX11_isAnswer_96 : decode cX11_isAnswer 96 = .ok (.goto (-43), 3) := by decide +kernel
theorem dX11_isAnswer_99 : decode cX11_isAnswer 99 = .ok (.iload_n 3, 1) := by decide +kernel
theorem dX11_isAnswer_100 : decode cX11_isAnswer 100 = .ok (.ifCond .eq 12, 3) := by decide +kernel
theorem dX11_isAnswer_103 : decode cX11_isAnswer 103 = .ok (.iload 4, 2) := by decide +kernel
theorem dX11_isAnswer_105 : decode cX11_isAnswer 105 = .ok (.ifCond .ne 7, 3) := by decide +kernel
theorem dX11_isAnswer_108 : decode cX11_isAnswer 108 = .ok (.iconst 1, 1) := by decide +kernel
theorem dX11_isAnswer_109 : decode cX11_isAnswer 109 = .ok (.goto 4, 3) := by decide +kernel
theorem dX11_isAnswer_112 : decode cX11_isAnswer 112 = .ok (.iconst 0, 1) := by decide +kernel
theorem dX11_isAnswer_113 : decode cX11_isAnswer 113 = .ok (.ireturn, 1) := by decide +kernel
theorem dX11_isLooked_0 : decode cX11_isLooked 0 = .ok (.aload_n 0, 1) := by decide +kernel
theorem dX11_isLooked_1 : decode cX11_isLooked 1 = .ok (.getfield 198, 3) := by decide +kernel
theorem dX11_isLooked_4 : decode cX11_isLooked 4 = .ok (.ifCond .ne 7, 3) := by decide +kernel
theorem dX11_isLooked_7 : decode cX11_isLooked 7 = .ok (.iconst 1, 1) := by decide +kernel
theorem dX11_isLooked_8 : decode cX11_isLooked 8 = .ok (.goto 4, 3) := by decide +kernel
theorem dX11_isLooked_11 : decode cX11_isLooked 11 = .ok (.iconst 0, 1) := by decide +kernel
theorem dX11_isLooked_12 : decode cX11_isLooked 12 = .ok (.istore_n 2, 1) := by decide +kernel
theorem dX11_isLooked_13 : decode cX11_isLooked 13 = .ok (.iconst 0, 1) := by decide +kernel
theorem dX11_isLooked_14 : decode cX11_isLooked 14 = .ok (.istore_n 3, 1) := by decide +kernel
theorem dX11_isLooked_15 : decode cX11_isLooked 15 = .ok (.iload_n 3, 1) := by decide +kernel
theorem dX11_isLooked_16 : decode cX11_isLooked 16 = .ok (.aload_n 0, 1) := by decide +kernel
theorem dX11_isLooked_17 : decode cX11_isLooked 17 = .ok (.getfield 45, 3) := by decide +kernel
theorem dX11_isLooked_20 : decode cX11_isLooked 20 = .ok (.iload_n 1, 1) := by decide +kernel
theorem dX11_isLooked_21 : decode cX11_isLooked 21 = .ok (.iaload, 1) := by decide +kernel
theorem dX11_isLooked_22 : decode cX11_isLooked 22 = .ok (.if_icmp .ge 48, 3) := by decide +kernel
theorem dX11_isLooked_25 : decode cX11_isLooked 25 = .ok (.bipush 8, 2) := by decide +kernel
theorem dX11_isLooked_27 : decode cX11_isLooked 27 = .ok (.iload_n 1, 1) := by decide +kernel
theorem dX11_isLooked_28 : decode cX11_isLooked 28 = .ok (.imul, 1) := by decide +kernel
theorem dX11_isLooked_29 : decode cX11_isLooked 29 = .ok (.iload_n 3, 1) := by decide +kernel
theorem dX11_isLooked_30 : decode cX11_isLooked 30 = .ok (.iadd, 1) := by decide +kernel
theorem dX11_isLooked_31 : decode cX11_isLooked 31 = .ok (.istore 4, 2) := by decide +kernel
theorem dX11_isLooked_33 : decode cX11_isLooked 33 = .ok (.iload_n 2, 1) := by decide +kernel
theorem dX11_isLooked_34 : decode cX11_isLooked 34 = .ok (.ifCond .ne 24, 3) := by decide +kernel
theorem dX11_isLooked_37 : decode cX11_isLooked 37 = .ok (.aload_n 0, 1) := by decide +kernel
theorem dX11_isLooked_38 : decode cX11_isLooked 38 = .ok (.iload 4, 2) := by decide +kernel
theorem dX11_isLooked_40 : decode cX11_isLooked 40 = .ok (.iconst (-1), 1) := by decide +kernel
theorem dX11_isLooked_41 : decode cX11_isLooked 41 = .ok (.invokevirtual 207, 3) := by decide +kernel
theorem dX11_isLooked_44 : decode cX11_isLooked 44 = .ok (.iconst 1, 1) := by decide +kernel
theorem dX11_isLooked_45 : decode cX11_isLooked 45 = .ok (.aload_n 0, 1) := by decide +kernel
theorem dX11_isLooked_46 : decode cX11_isLooked 46 = .ok (.iload 4, 2) := by decide +kernel
theorem dX11_isLooked_48 : decode cX11_isLooked 48 = .ok (.invokevirtual 182, 3) := by decide +kernel
theorem dX11_isLooked_51 : decode cX11_isLooked 51 = .ok (.ishl, 1) := by decide +kernel
theorem dX11_isLooked_52 : decode cX11_isLooked 52 = .ok (.iconst 1, 1) := by decide +kernel
theorem dX11_isLooked_53 : decode cX11_isLooked 53 = .ok (.isub, 1) := by decide +kernel
theorem dX11_isLooked_54 : decode cX11_isLooked 54 = .ok (.iand, 1) := by decide +kernel
theorem dX11_isLooked_55 : decode cX11_isLooked 55 = .ok (.ifCond .eq 7, 3) := by decide +kernel
theorem dX11_isLooked_58 : decode cX11_isLooked 58 = .ok (.iconst 1, 1) := by decide +kernel
theorem dX11_isLooked_59 : decode cX11_isLooked 59 = .ok (.goto 4, 3) := by decide +kernel
theorem dX11_isLooked_62 : decode cX11_isLooked 62 = .ok (.iconst 0, 1) := by decide +kernel
theorem dX11_isLooked_63 : decode cX11_isLooked 63 = .ok (.istore_n 2, 1) := by decide +kernel
theorem dX11_isLooked_64 : decode cX11_isLooked 64 = .ok (.iinc 3 1, 3) := by decide +kernel
theorem dX11_isLooked_67 : decode cX11_isLooked 67 = .ok (.goto (-52), 3) := by decide +kernel
theorem dX11_isLooked_70 : decode cX11_isLooked 70 = .ok (.iload_n 2, 1) := by decide +kernel
theorem dX11_isLooked_71 : decode cX11_isLooked 71 = .ok (.ireturn, 1) := by decide +kernel
theorem dX11_compare_0 : decode cX11_compare 0 = .ok (.aload_n 0, 1) := by decide +kernel
theorem dX11_compare_1 : decode cX11_compare 1 = .ok (.getfield 26, 3) := by decide +kernel
theorem dX11_compare_4 : decode cX11_compare 4 = .ok (.iload_n 1, 1) := by decide +kernel
theorem dX11_compare_5 : decode cX11_compare 5 = .ok (.iaload, 1) := by decide +kernel
theorem dX11_compare_6 : decode cX11_compare 6 = .ok (.aload_n 0, 1) := by decide +kernel
theorem dX11_compare_7 : decode cX11_compare 7 = .ok (.getfield 26, 3) := by decide +kernel
theorem dX11_compare_10 : decode cX11_compare 10 = .ok (.iload_n 2, 1) := by decide +kernel
theorem dX11_compare_11 : decode cX11_compare 11 = .ok (.iaload, 1) := by decide +kernel
theorem dX11_compare_12 : decode cX11_compare 12 = .ok (.if_icmp .ge 12, 3) := by decide +kernel
theorem dX11_compare_15 : decode cX11_compare 15 = .ok (.aload_n 0, 1) := by decide +kernel
theorem dX11_compare_16 : decode cX11_compare 16 = .ok (.getfield 26, 3) := by decide +kernel
theorem dX11_compare_19 : decode cX11_compare 19 = .ok (.iload_n 1, 1) := by decide +kernel
theorem dX11_compare_20 : decode cX11_compare 20 = .ok (.iaload, 1) := by decide +kernel
theorem dX11_compare_21 : decode cX11_compare 21 = .ok (.goto 9, 3) := by decide +kernel
theorem dX11_compare_24 : decode cX11_compare 24 = .ok (.aload_n 0, 1) := by decide +kernel
theorem dX11_compare_25 : decode cX11_compare 25 = .ok (.getfield 26, 3) := by decide +kernel
theorem dX11_compare_28 : decode cX11_compare 28 = .ok (.iload_n 2, 1) := by decide +kernel
theorem dX11_compare_29 : decode cX11_compare 29 = .ok (.iaload, 1) := by decide +kernel
theorem dX11_compare_30 : decode cX11_compare 30 = .ok (.istore_n 3, 1) := by decide +kernel
theorem dX11_compare_31 : decode cX11_compare 31 = .ok (.iconst 0, 1) := by decide +kernel
theorem dX11_compare_32 : decode cX11_compare 32 = .ok (.istore 4, 2) := by decide +kernel
theorem dX11_compare_34 : decode cX11_compare 34 = .ok (.iload 4, 2) := by decide +kernel
theorem dX11_compare_36 : decode cX11_compare 36 = .ok (.iload_n 3, 1) := by decide +kernel
theorem dX11_compare_37 : decode cX11_compare 37 = .ok (.if_icmp .ge 44, 3) := by decide +kernel
theorem dX11_compare_40 : decode cX11_compare 40 = .ok (.aload_n 0, 1) := by decide +kernel
theorem dX11_compare_41 : decode cX11_compare 41 = .ok (.getfield 39, 3) := by decide +kernel
theorem dX11_compare_44 : decode cX11_compare 44 = .ok (.bipush 8, 2) := by decide +kernel
theorem dX11_compare_46 : decode cX11_compare 46 = .ok (.iload_n 1, 1) := by decide +kernel
theorem dX11_compare_47 : decode cX11_compare 47 = .ok (.imul, 1) := by decide +kernel
theorem dX11_compare_48 : decode cX11_compare 48 = .ok (.iload 4, 2) := by decide +kernel
theorem dX11_compare_50 : decode cX11_compare 50 = .ok (.iadd, 1) := by decide +kernel
theorem dX11_compare_51 : decode cX11_compare 51 = .ok (.baload, 1) := by decide +kernel
theorem dX11_compare_52 : decode cX11_compare 52 = .ok (.aload_n 0, 1) := by decide +kernel
theorem dX11_compare_53 : decode cX11_compare 53 = .ok (.getfield 39, 3) := by decide +kernel
theorem dX11_compare_56 : decode cX11_compare 56 = .ok (.bipush 8, 2) := by decide +kernel
theorem dX11_compare_58 : decode cX11_compare 58 = .ok (.iload_n 2, 1) := by decide +kernel
theorem dX11_compare_59 : decode cX11_compare 59 = .ok (.imul, 1) := by decide +kernel
theorem dX11_compare_60 : decode cX11_compare 60 = .ok (.iload 4, 2) := by decide +kernel
theorem dX11_compare_62 : decode cX11_compare 62 = .ok (.iadd, 1) := by decide +kernel
theorem dX11_compare_63 : decode cX11_compare 63 = .ok (.baload, 1) := by decide +kernel
theorem dX11_compare_64 : decode cX11_compare 64 = .ok (.isub, 1) := by decide +kernel
theorem dX11_compare_65 : decode cX11_compare 65 = .ok (.istore 5, 2) := by decide +kernel
theorem dX11_compare_67 : decode cX11_compare 67 = .ok (.iload 5, 2) := by decide +kernel
theorem dX11_compare_69 : decode cX11_compare 69 = .ok (.ifCond .eq 6, 3) := by decide +kernel
theorem dX11_compare_72 : decode cX11_compare 72 = .ok (.iload 5, 2) := by decide +kernel
theorem dX11_compare_74 : decode cX11_compare 74 = .ok (.ireturn, 1) := by decide +kernel
theorem dX11_compare_75 : decode cX11_compare 75 = .ok (.iinc 4 1, 3) := by decide +kernel
theorem dX11_compare_78 : decode cX11_compare 78 = .ok (.goto (-44), 3) := by decide +kernel
theorem dX11_compare_81 : decode cX11_compare 81 = .ok (.aload_n 0, 1) := by decide +kernel
theorem dX11_compare_82 : decode cX11_compare 82 = .ok (.getfield 26, 3) := by decide +kernel
theorem dX11_compare_85 : decode cX11_compare 85 = .ok (.iload_n 1, 1) := by decide +kernel
theorem dX11_compare_86 : decode cX11_compare 86 = .ok (.iaload, 1) := by decide +kernel
theorem dX11_compare_87 : decode cX11_compare 87 = .ok (.aload_n 0, 1) := by decide +kernel
theorem dX11_compare_88 : decode cX11_compare 88 = .ok (.getfield 26, 3) := by decide +kernel
theorem dX11_compare_91 : decode cX11_compare 91 = .ok (.iload_n 2, 1) := by decide +kernel
theorem dX11_compare_92 : decode cX11_compare 92 = .ok (.iaload, 1) := by decide +kernel
theorem dX11_compare_93 : decode cX11_compare 93 = .ok (.isub, 1) := by decide +kernel
theorem dX11_compare_94 : decode cX11_compare 94 = .ok (.ireturn, 1) := by decide +kernel
theorem dX11_following_0 : decode cX11_following 0 = .ok (.iconst (-1), 1) := by decide +kernel
theorem dX11_following_1 : decode cX11_following 1 = .ok (.istore_n 1, 1) := by decide +kernel
theorem dX11_following_2 : decode cX11_following 2 = .ok (.iconst 0, 1) := by decide +kernel
theorem dX11_following_3 : decode cX11_following 3 = .ok (.istore_n 2, 1) := by decide +kernel
theorem dX11_following_4 : decode cX11_following 4 = .ok (.iload_n 2, 1) := by decide +kernel
theorem dX11_following_5 : decode cX11_following 5 = .ok (.bipush 60, 2) := by decide +kernel
theorem dX11_following_7 : decode cX11_following 7 = .ok (.if_icmp .ge 92, 3) := by decide +kernel
theorem dX11_following_10 : decode cX11_following 10 = .ok (.aload_n 0, 1) := by decide +kernel
theorem dX11_following_11 : decode cX11_following 11 = .ok (.getfield 20, 3) := by decide +kernel
theorem dX11_following_14 : decode cX11_following 14 = .ok (.iload_n 2, 1) := by decide +kernel
theorem dX11_following_15 : decode cX11_following 15 = .ok (.iaload, 1) := by decide +kernel
theorem dX11_following_16 : decode cX11_following 16 = .ok (.ifCond .le 55, 3) := by decide +kernel
theorem dX11_following_19 : decode cX11_following 19 = .ok (.aload_n 0, 1) := by decide +kernel
theorem dX11_following_20 : decode cX11_following 20 = .ok (.getfield 23, 3) := by decide +kernel
theorem dX11_following_23 : decode cX11_following 23 = .ok (.iload_n 2, 1) := by decide +kernel
theorem dX11_following_24 : decode cX11_following 24 = .ok (.iaload, 1) := by decide +kernel
theorem dX11_following_25 : decode cX11_following 25 = .ok (.aload_n 0, 1) := by decide +kernel
theorem dX11_following_26 : decode cX11_following 26 = .ok (.getfield 79, 3) := by decide +kernel
theorem dX11_following_29 : decode cX11_following 29 = .ok (.aload_n 0, 1) := by decide +kernel
theorem dX11_following_30 : decode cX11_following 30 = .ok (.getfield 198, 3) := by decide +kernel
theorem dX11_following_33 : decode cX11_following 33 = .ok (.iaload, 1) := by decide +kernel
theorem dX11_following_34 : decode cX11_following 34 = .ok (.if_icmp .ne 37, 3) := by decide +kernel
theorem dX11_following_37 : decode cX11_following 37 = .ok (.aload_n 0, 1) := by decide +kernel
theorem dX11_following_38 : decode cX11_following 38 = .ok (.getfield 82, 3) := by decide +kernel
theorem dX11_following_41 : decode cX11_following 41 = .ok (.aload_n 0, 1) := by decide +kernel
theorem dX11_following_42 : decode cX11_following 42 = .ok (.getfield 198, 3) := by decide +kernel
theorem dX11_following_45 : decode cX11_following 45 = .ok (.iaload, 1) := by decide +kernel
theorem dX11_following_46 : decode cX11_following 46 = .ok (.iconst (-1), 1) := by decide +kernel
theorem dX11_following_47 : decode cX11_following 47 = .ok (.if_icmp .eq 20, 3) := by decide +kernel
theorem dX11_following_50 : decode cX11_following 50 = .ok (.aload_n 0, 1) := by decide +kernel
theorem dX11_following_51 : decode cX11_following 51 = .ok (.iload_n 2, 1) := by decide +kernel
theorem dX11_following_52 : decode cX11_following 52 = .ok (.aload_n 0, 1) := by decide +kernel
theorem dX11_following_53 : decode cX11_following 53 = .ok (.getfield 82, 3) := by decide +kernel
theorem dX11_following_56 : decode cX11_following 56 = .ok (.aload_n 0, 1) := by decide +kernel
theorem dX11_following_57 : decode cX11_following 57 = .ok (.getfield 198, 3) := by decide +kernel
theorem dX11_following_60 : decode cX11_following 60 = .ok (.iaload, 1) := by decide +kernel
theorem dX11_following_61 : decode cX11_following 61 = .ok (.invokevirtual 213, 3) := by decide +kernel
theorem dX11_following_64 : decode cX11_following 64 = .ok (.ifCond .le 7, 3) := by decide +kernel
theorem dX11_following_67 : decode cX11_following 67 = .ok (.iconst 1, 1) := by decide +kernel
theorem dX11_following_68 : decode cX11_following 68 = .ok (.goto 4, 3) := by decide +kernel
theorem dX11_following_71 : decode cX11_following 71 = .ok (.iconst 0, 1) := by decide +kernel
theorem dX11_following_72 : decode cX11_following 72 = .ok (.istore_n 3, 1) := by decide +kernel
theorem dX11_following_73 : decode cX11_following 73 = .ok (.iload_n 3, 1) := by decide +kernel
theorem dX11_following_74 : decode cX11_following 74 = .ok (.ifCond .eq 19, 3) := by decide +kernel
theorem dX11_following_77 : decode cX11_following 77 = .ok (.iload_n 1, 1) := by decide +kernel
theorem dX11_following_78 : decode cX11_following 78 = .ok (.iconst (-1), 1) := by decide +kernel
theorem dX11_following_79 : decode cX11_following 79 = .ok (.if_icmp .eq 12, 3) := by decide +kernel
theorem dX11_following_82 : decode cX11_following 82 = .ok (.aload_n 0, 1) := by decide +kernel
theorem dX11_following_83 : decode cX11_following 83 = .ok (.iload_n 2, 1) := by decide +kernel
theorem dX11_following_84 : decode cX11_following 84 = .ok (.iload_n 1, 1) := by decide +kernel
theorem dX11_following_85 : decode cX11_following 85 = .ok (.invokevirtual 213, 3) := by decide +kernel
theorem dX11_following_88 : decode cX11_following 88 = .ok (.ifCond .ge 5, 3) := by decide +kernel
theorem dX11_following_91 : decode cX11_following 91 = .ok (.iload_n 2, 1) := by decide +kernel
theorem dX11_following_92 : decode cX11_following 92 = .ok (.istore_n 1, 1) := by decide +kernel
theorem dX11_following_93 : decode cX11_following 93 = .ok (.iinc 2 1, 3) := by decide +kernel
theorem dX11_following_96 : decode cX11_following 96 = .ok (.goto (-92), 3) := by decide +kernel
theorem dX11_following_99 : decode cX11_following 99 = .ok (.iload_n 1, 1) := by decide +kernel
theorem dX11_following_100 : decode cX11_following 100 = .ok (.ireturn, 1) := by decide +kernel
theorem dX11_spell_0 : decode cX11_spell 0 = .ok (.aload_n 0, 1) := by decide +kernel
theorem dX11_spell_1 : decode cX11_spell 1 = .ok (.getfield 85, 3) := by decide +kernel
theorem dX11_spell_4 : decode cX11_spell 4 = .ok (.aload_n 0, 1) := by decide +kernel
theorem dX11_spell_5 : decode cX11_spell 5 = .ok (.getfield 198, 3) := by decide +kernel
theorem dX11_spell_8 : decode cX11_spell 8 = .ok (.iaload, 1) := by decide +kernel
theorem dX11_spell_9 : decode cX11_spell 9 = .ok (.istore_n 2, 1) := by decide +kernel
theorem dX11_spell_10 : decode cX11_spell 10 = .ok (.iload_n 2, 1) := by decide +kernel
theorem dX11_spell_11 : decode cX11_spell 11 = .ok (.ifCond .le 14, 3) := by decide +kernel
theorem dX11_spell_14 : decode cX11_spell 14 = .ok (.aload_n 0, 1) := by decide +kernel
theorem dX11_spell_15 : decode cX11_spell 15 = .ok (.getfield 91, 3) := by decide +kernel
theorem dX11_spell_18 : decode cX11_spell 18 = .ok (.iload_n 2, 1) := by decide +kernel
theorem dX11_spell_19 : decode cX11_spell 19 = .ok (.bipush 47, 2) := by decide +kernel
theorem dX11_spell_21 : decode cX11_spell 21 = .ok (.bastore, 1) := by decide +kernel
theorem dX11_spell_22 : decode cX11_spell 22 = .ok (.iinc 2 1, 3) := by decide +kernel
theorem dX11_spell_25 : decode cX11_spell 25 = .ok (.iconst 0, 1) := by decide +kernel
theorem dX11_spell_26 : decode cX11_spell 26 = .ok (.istore_n 3, 1) := by decide +kernel
theorem dX11_spell_27 : decode cX11_spell 27 = .ok (.iload_n 3, 1) := by decide +kernel
theorem dX11_spell_28 : decode cX11_spell 28 = .ok (.aload_n 0, 1) := by decide +kernel
theorem dX11_spell_29 : decode cX11_spell 29 = .ok (.getfield 26, 3) := by decide +kernel
theorem dX11_spell_32 : decode cX11_spell 32 = .ok (.iload_n 1, 1) := by decide +kernel
theorem dX11_spell_33 : decode cX11_spell 33 = .ok (.iaload, 1) := by decide +kernel
theorem dX11_spell_34 : decode cX11_spell 34 = .ok (.if_icmp .ge 28, 3) := by decide +kernel
theorem dX11_spell_37 : decode cX11_spell 37 = .ok (.aload_n 0, 1) := by decide +kernel
theorem dX11_spell_38 : decode cX11_spell 38 = .ok (.getfield 91, 3) := by decide +kernel
theorem dX11_spell_41 : decode cX11_spell 41 = .ok (.iload_n 2, 1) := by decide +kernel
theorem dX11_spell_42 : decode cX11_spell 42 = .ok (.iload_n 3, 1) := by decide +kernel
theorem dX11_spell_43 : decode cX11_spell 43 = .ok (.iadd, 1) := by decide +kernel
theorem dX11_spell_44 : decode cX11_spell 44 = .ok (.aload_n 0, 1) := by decide +kernel
theorem dX11_spell_45 : decode cX11_spell 45 = .ok (.getfield 39, 3) := by decide +kernel
theorem dX11_spell_48 : decode cX11_spell 48 = .ok (.bipush 8, 2) := by decide +kernel
theorem dX11_spell_50 : decode cX11_spell 50 = .ok (.iload_n 1, 1) := by decide +kernel
theorem dX11_spell_51 : decode cX11_spell 51 = .ok (.imul, 1) := by decide +kernel
theorem dX11_spell_52 : decode cX11_spell 52 = .ok (.iload_n 3, 1) := by decide +kernel
theorem dX11_spell_53 : decode cX11_spell 53 = .ok (.iadd, 1) := by decide +kernel
theorem dX11_spell_54 : decode cX11_spell 54 = .ok (.baload, 1) := by decide +kernel
theorem dX11_spell_55 : decode cX11_spell 55 = .ok (.bastore, 1) := by decide +kernel
theorem dX11_spell_56 : decode cX11_spell 56 = .ok (.iinc 3 1, 3) := by decide +kernel
theorem dX11_spell_59 : decode cX11_spell 59 = .ok (.goto (-32), 3) := by decide +kernel
theorem dX11_spell_62 : decode cX11_spell 62 = .ok (.iload_n 2, 1) := by decide +kernel
theorem dX11_spell_63 : decode cX11_spell 63 = .ok (.aload_n 0, 1) := by decide +kernel
theorem dX11_spell_64 : decode cX11_spell 64 = .ok (.getfield 26, 3) := by decide +kernel
theorem dX11_spell_67 : decode cX11_spell 67 = .ok (.iload_n 1, 1) := by decide +kernel
theorem dX11_spell_68 : decode cX11_spell 68 = .ok (.iaload, 1) := by decide +kernel
theorem dX11_spell_69 : decode cX11_spell 69 = .ok (.iadd, 1) := by decide +kernel
theorem dX11_spell_70 : decode cX11_spell 70 = .ok (.ireturn, 1) := by decide +kernel
theorem dX11_enter_0 : decode cX11_enter 0 = .ok (.aload_n 0, 1) := by decide +kernel
theorem dX11_enter_1 : decode cX11_enter 1 = .ok (.dup, 1) := by decide +kernel
theorem dX11_enter_2 : decode cX11_enter 2 = .ok (.getfield 198, 3) := by decide +kernel
theorem dX11_enter_5 : decode cX11_enter 5 = .ok (.iconst 1, 1) := by decide +kernel
theorem dX11_enter_6 : decode cX11_enter 6 = .ok (.iadd, 1) := by decide +kernel
theorem dX11_enter_7 : decode cX11_enter 7 = .ok (.putfield 198, 3) := by decide +kernel
theorem dX11_enter_10 : decode cX11_enter 10 = .ok (.aload_n 0, 1) := by decide +kernel
theorem dX11_enter_11 : decode cX11_enter 11 = .ok (.getfield 79, 3) := by decide +kernel
theorem dX11_enter_14 : decode cX11_enter 14 = .ok (.aload_n 0, 1) := by decide +kernel
theorem dX11_enter_15 : decode cX11_enter 15 = .ok (.getfield 198, 3) := by decide +kernel
theorem dX11_enter_18 : decode cX11_enter 18 = .ok (.iload_n 1, 1) := by decide +kernel
theorem dX11_enter_19 : decode cX11_enter 19 = .ok (.iastore, 1) := by decide +kernel
theorem dX11_enter_20 : decode cX11_enter 20 = .ok (.aload_n 0, 1) := by decide +kernel
theorem dX11_enter_21 : decode cX11_enter 21 = .ok (.getfield 88, 3) := by decide +kernel
theorem dX11_enter_24 : decode cX11_enter 24 = .ok (.aload_n 0, 1) := by decide +kernel
theorem dX11_enter_25 : decode cX11_enter 25 = .ok (.getfield 198, 3) := by decide +kernel
theorem dX11_enter_28 : decode cX11_enter 28 = .ok (.iload_n 1, 1) := by decide +kernel
theorem dX11_enter_29 : decode cX11_enter 29 = .ok (.iastore, 1) := by decide +kernel
theorem dX11_enter_30 : decode cX11_enter 30 = .ok (.aload_n 0, 1) := by decide +kernel
theorem dX11_enter_31 : decode cX11_enter 31 = .ok (.getfield 82, 3) := by decide +kernel
theorem dX11_enter_34 : decode cX11_enter 34 = .ok (.aload_n 0, 1) := by decide +kernel
theorem dX11_enter_35 : decode cX11_enter 35 = .ok (.getfield 198, 3) := by decide +kernel
theorem dX11_enter_38 : decode cX11_enter 38 = .ok (.iconst (-1), 1) := by decide +kernel
theorem dX11_enter_39 : decode cX11_enter 39 = .ok (.iastore, 1) := by decide +kernel
theorem dX11_enter_40 : decode cX11_enter 40 = .ok (.aload_n 0, 1) := by decide +kernel
theorem dX11_enter_41 : decode cX11_enter 41 = .ok (.getfield 85, 3) := by decide +kernel
theorem dX11_enter_44 : decode cX11_enter 44 = .ok (.aload_n 0, 1) := by decide +kernel
theorem dX11_enter_45 : decode cX11_enter 45 = .ok (.getfield 198, 3) := by decide +kernel
theorem dX11_enter_48 : decode cX11_enter 48 = .ok (.iload_n 2, 1) := by decide +kernel
theorem dX11_enter_49 : decode cX11_enter 49 = .ok (.iastore, 1) := by decide +kernel
theorem dX11_enter_50 : decode cX11_enter 50 = .ok (.return_, 1) := by decide +kernel
theorem dX11_packageOf_0 : decode cX11_packageOf 0 = .ok (.aload_n 0, 1) := by decide +kernel
theorem dX11_packageOf_1 : decode cX11_packageOf 1 = .ok (.aload_n 0, 1) := by decide +kernel
theorem dX11_packageOf_2 : decode cX11_packageOf 2 = .ok (.getfield 42, 3) := by decide +kernel
theorem dX11_packageOf_5 : decode cX11_packageOf 5 = .ok (.iload_n 1, 1) := by decide +kernel
theorem dX11_packageOf_6 : decode cX11_packageOf 6 = .ok (.iaload, 1) := by decide +kernel
theorem dX11_packageOf_7 : decode cX11_packageOf 7 = .ok (.putfield 106, 3) := by decide +kernel
theorem dX11_packageOf_10 : decode cX11_packageOf 10 = .ok (.iconst 0, 1) := by decide +kernel
theorem dX11_packageOf_11 : decode cX11_packageOf 11 = .ok (.istore_n 2, 1) := by decide +kernel
theorem dX11_packageOf_12 : decode cX11_packageOf 12 = .ok (.iload_n 2, 1) := by decide +kernel
theorem dX11_packageOf_13 : decode cX11_packageOf 13 = .ok (.aload_n 0, 1) := by decide +kernel
theorem dX11_packageOf_14 : decode cX11_packageOf 14 = .ok (.getfield 106, 3) := by decide +kernel
theorem dX11_packageOf_17 : decode cX11_packageOf 17 = .ok (.if_icmp .ge 26, 3) := by decide +kernel
theorem dX11_packageOf_20 : decode cX11_packageOf 20 = .ok (.aload_n 0, 1) := by decide +kernel
theorem dX11_packageOf_21 : decode cX11_packageOf 21 = .ok (.getfield 7, 3) := by decide +kernel
theorem dX11_packageOf_24 : decode cX11_packageOf 24 = .ok (.iload_n 2, 1) := by decide +kernel
theorem dX11_packageOf_25 : decode cX11_packageOf 25 = .ok (.aload_n 0, 1) := by decide +kernel
theorem dX11_packageOf_26 : decode cX11_packageOf 26 = .ok (.getfield 57, 3) := by decide +kernel
theorem dX11_packageOf_29 : decode cX11_packageOf 29 = .ok (.bipush 60, 2) := by decide +kernel
theorem dX11_packageOf_31 : decode cX11_packageOf 31 = .ok (.iload_n 1, 1) := by decide +kernel
theorem dX11_packageOf_32 : decode cX11_packageOf 32 = .ok (.imul, 1) := by decide +kernel
theorem dX11_packageOf_33 : decode cX11_packageOf 33 = .ok (.iload_n 2, 1) := by decide +kernel
theorem dX11_packageOf_34 : decode cX11_packageOf 34 = .ok (.iadd, 1) := by decide +kernel
theorem dX11_packageOf_35 : decode cX11_packageOf 35 = .ok (.baload, 1) := by decide +kernel
theorem dX11_packageOf_36 : decode cX11_packageOf 36 = .ok (.bastore, 1) := by decide +kernel
theorem dX11_packageOf_37 : decode cX11_packageOf 37 = .ok (.iinc 2 1, 3) := by decide +kernel
theorem dX11_packageOf_40 : decode cX11_packageOf 40 = .ok (.goto (-28), 3) := by decide +kernel
theorem dX11_packageOf_43 : decode cX11_packageOf 43 = .ok (.bipush 60, 2) := by decide +kernel
theorem dX11_packageOf_45 : decode cX11_packageOf 45 = .ok (.istore_n 2, 1) := by decide +kernel
theorem dX11_packageOf_46 : decode cX11_packageOf 46 = .ok (.aload_n 0, 1) := by decide +kernel
theorem dX11_packageOf_47 : decode cX11_packageOf 47 = .ok (.getfield 106, 3) := by decide +kernel
theorem dX11_packageOf_50 : decode cX11_packageOf 50 = .ok (.ifCond .le 53, 3) := by decide +kernel
theorem dX11_packageOf_53 : decode cX11_packageOf 53 = .ok (.aload_n 0, 1) := by decide +kernel
theorem dX11_packageOf_54 : decode cX11_packageOf 54 = .ok (.invokevirtual 134, 3) := by decide +kernel
theorem dX11_packageOf_57 : decode cX11_packageOf 57 = .ok (.istore_n 3, 1) := by decide +kernel
theorem dX11_packageOf_58 : decode cX11_packageOf 58 = .ok (.aload_n 0, 1) := by decide +kernel
theorem dX11_packageOf_59 : decode cX11_packageOf 59 = .ok (.invokevirtual 141, 3) := by decide +kernel
theorem dX11_packageOf_62 : decode cX11_packageOf 62 = .ok (.istore_n 2, 1) := by decide +kernel
theorem dX11_packageOf_63 : decode cX11_packageOf 63 = .ok (.iload_n 3, 1) := by decide +kernel
theorem dX11_packageOf_64 : decode cX11_packageOf 64 = .ok (.ifCond .eq 37, 3) := by decide +kernel
theorem dX11_packageOf_67 : decode cX11_packageOf 67 = .ok (.aload_n 0, 1) := by decide +kernel
theorem dX11_packageOf_68 : decode cX11_packageOf 68 = .ok (.getfield 120, 3) := by decide +kernel
theorem dX11_packageOf_71 : decode cX11_packageOf 71 = .ok (.aload_n 0, 1) := by decide +kernel
theorem dX11_packageOf_72 : decode cX11_packageOf 72 = .ok (.getfield 109, 3) := by decide +kernel
theorem dX11_packageOf_75 : decode cX11_packageOf 75 = .ok (.if_icmp .ne 26, 3) := by decide +kernel
theorem dX11_packageOf_78 : decode cX11_packageOf 78 = .ok (.aload_n 0, 1) := by decide +kernel
theorem dX11_packageOf_79 : decode cX11_packageOf 79 = .ok (.getfield 20, 3) := by decide +kernel
theorem dX11_packageOf_82 : decode cX11_packageOf 82 = .ok (.iload_n 2, 1) := by decide +kernel
theorem dX11_packageOf_83 : decode cX11_packageOf 83 = .ok (.iaload, 1) := by decide +kernel
theorem dX11_packageOf_84 : decode cX11_packageOf 84 = .ok (.iconst 2, 1) := by decide +kernel
theorem dX11_packageOf_85 : decode cX11_packageOf 85 = .ok (.if_icmp .ne 16, 3) := by decide +kernel
theorem dX11_packageOf_88 : decode cX11_packageOf 88 = .ok (.aload_n 0, 1) := by decide +kernel
theorem dX11_packageOf_89 : decode cX11_packageOf 89 = .ok (.getfield 35, 3) := by decide +kernel
theorem dX11_packageOf_92 : decode cX11_packageOf 92 = .ok (.iload_n 2, 1) := by decide +kernel
theorem dX11_packageOf_93 : decode cX11_packageOf 93 = .ok (.baload, 1) := by decide +kernel
theorem dX11_packageOf_94 : decode cX11_packageOf 94 = .ok (.ifCond .eq 7, 3) := by decide +kernel
theorem dX11_packageOf_97 : decode cX11_packageOf 97 = .ok (.iload_n 2, 1) := by decide +kernel
theorem dX11_packageOf_98 : decode cX11_packageOf 98 = .ok (.goto 4, 3) := by decide +kernel
theorem dX11_packageOf_101 : decode cX11_packageOf 101 = .ok (.iconst (-1), 1) := by decide +kernel
theorem dX11_packageOf_102 : decode cX11_packageOf 102 = .ok (.istore_n 2, 1) := by decide +kernel
theorem dX11_packageOf_103 : decode cX11_packageOf 103 = .ok (.aload_n 0, 1) := by decide +kernel
theorem dX11_packageOf_104 : decode cX11_packageOf 104 = .ok (.iconst 0, 1) := by decide +kernel
theorem dX11_packageOf_105 : decode cX11_packageOf 105 = .ok (.putfield 106, 3) := by decide +kernel
theorem dX11_packageOf_108 : decode cX11_packageOf 108 = .ok (.iload_n 2, 1) := by decide +kernel
theorem dX11_packageOf_109 : decode cX11_packageOf 109 = .ok (.ireturn, 1) := by decide +kernel
theorem dX11_counts_0 : decode cX11_counts 0 = .ok (.aload_n 0, 1) := by decide +kernel
theorem dX11_counts_1 : decode cX11_counts 1 = .ok (.getfield 63, 3) := by decide +kernel
theorem dX11_counts_4 : decode cX11_counts 4 = .ok (.iload_n 1, 1) := by decide +kernel
theorem dX11_counts_5 : decode cX11_counts 5 = .ok (.baload, 1) := by decide +kernel
theorem dX11_counts_6 : decode cX11_counts 6 = .ok (.ifCond .ne 38, 3) := by decide +kernel
theorem dX11_counts_9 : decode cX11_counts 9 = .ok (.aload_n 0, 1) := by decide +kernel
theorem dX11_counts_10 : decode cX11_counts 10 = .ok (.getfield 66, 3) := by decide +kernel
theorem dX11_counts_13 : decode cX11_counts 13 = .ok (.bipush 61, 2) := by decide +kernel
theorem dX11_counts_15 : decode cX11_counts 15 = .ok (.iload_n 1, 1) := by decide +kernel
theorem dX11_counts_16 : decode cX11_counts 16 = .ok (.imul, 1) := by decide +kernel
theorem dX11_counts_17 : decode cX11_counts 17 = .ok (.iload_n 2, 1) := by decide +kernel
theorem dX11_counts_18 : decode cX11_counts 18 = .ok (.iadd, 1) := by decide +kernel
theorem dX11_counts_19 : decode cX11_counts 19 = .ok (.iaload, 1) := by decide +kernel
theorem dX11_counts_20 : decode cX11_counts 20 = .ok (.aload_n 0, 1) := by decide +kernel
theorem dX11_counts_21 : decode cX11_counts 21 = .ok (.getfield 32, 3) := by decide +kernel
theorem dX11_counts_24 : decode cX11_counts 24 = .ok (.iload_n 2, 1) := by decide +kernel
theorem dX11_counts_25 : decode cX11_counts 25 = .ok (.iaload, 1) := by decide +kernel
theorem dX11_counts_26 : decode cX11_counts 26 = .ok (.if_icmp .ne 18, 3) := by decide +kernel
theorem dX11_counts_29 : decode cX11_counts 29 = .ok (.aload_n 0, 1) := by decide +kernel
theorem dX11_counts_30 : decode cX11_counts 30 = .ok (.getfield 29, 3) := by decide +kernel
theorem dX11_counts_33 : decode cX11_counts 33 = .ok (.iload_n 2, 1) := by decide +kernel
theorem dX11_counts_34 : decode cX11_counts 34 = .ok (.iaload, 1) := by decide +kernel
theorem dX11_counts_35 : decode cX11_counts 35 = .ok (.aload_n 0, 1) := by decide +kernel
theorem dX11_counts_36 : decode cX11_counts 36 = .ok (.getfield 51, 3) := by decide +kernel
theorem dX11_counts_39 : decode cX11_counts 39 = .ok (.iload_n 1, 1) := by decide +kernel
theorem dX11_counts_40 : decode cX11_counts 40 = .ok (.iaload, 1) := by decide +kernel
theorem dX11_counts_41 : decode cX11_counts 41 = .ok (.if_icmp .le 7, 3) := by decide +kernel
theorem dX11_counts_44 : decode cX11_counts 44 = .ok (.iconst 1, 1) := by decide +kernel
theorem dX11_counts_45 : decode cX11_counts 45 = .ok (.goto 4, 3) := by decide +kernel
theorem dX11_counts_48 : decode cX11_counts 48 = .ok (.iconst 0, 1) := by decide +kernel
theorem dX11_counts_49 : decode cX11_counts 49 = .ok (.ireturn, 1) := by decide +kernel
theorem dX11_tell_0 : decode cX11_tell 0 = .ok (.aload_n 0, 1) := by decide +kernel
theorem dX11_tell_1 : decode cX11_tell 1 = .ok (.iload_n 1, 1) := by decide +kernel
theorem dX11_tell_2 : decode cX11_tell 2 = .ok (.invokevirtual 216, 3) := by decide +kernel
theorem dX11_tell_5 : decode cX11_tell 5 = .ok (.istore_n 2, 1) := by decide +kernel
theorem dX11_tell_6 : decode cX11_tell 6 = .ok (.iconst 0, 1) := by decide +kernel
theorem dX11_tell_7 : decode cX11_tell 7 = .ok (.istore_n 3, 1) := by decide +kernel
theorem dX11_tell_8 : decode cX11_tell 8 = .ok (.iload_n 3, 1) := by decide +kernel
theorem dX11_tell_9 : decode cX11_tell 9 = .ok (.iload_n 2, 1) := by decide +kernel
theorem dX11_tell_10 : decode cX11_tell 10 = .ok (.if_icmp .ge 29, 3) := by decide +kernel
theorem dX11_tell_13 : decode cX11_tell 13 = .ok (.aload_n 0, 1) := by decide +kernel
theorem dX11_tell_14 : decode cX11_tell 14 = .ok (.getfield 76, 3) := by decide +kernel
theorem dX11_tell_17 : decode cX11_tell 17 = .ok (.bipush 54, 2) := by decide +kernel
theorem dX11_tell_19 : decode cX11_tell 19 = .ok (.aload_n 0, 1) := by decide +kernel
theorem dX11_tell_20 : decode cX11_tell 20 = .ok (.getfield 219, 3) := by decide +kernel
theorem dX11_tell_23 : decode cX11_tell 23 = .ok (.imul, 1) := by decide +kernel
theorem dX11_tell_24 : decode cX11_tell 24 = .ok (.iload_n 3, 1) := by decide +kernel
theorem dX11_tell_25 : decode cX11_tell 25 = .ok (.iadd, 1) := by decide +kernel
theorem dX11_tell_26 : decode cX11_tell 26 = .ok (.aload_n 0, 1) := by decide +kernel
theorem dX11_tell_27 : decode cX11_tell 27 = .ok (.getfield 91, 3) := by decide +kernel
theorem dX11_tell_30 : decode cX11_tell 30 = .ok (.iload_n 3, 1) := by decide +kernel
theorem dX11_tell_31 : decode cX11_tell 31 = .ok (.baload, 1) := by decide +kernel
theorem dX11_tell_32 : decode cX11_tell 32 = .ok (.bastore, 1) := by decide +kernel
theorem dX11_tell_33 : decode cX11_tell 33 = .ok (.iinc 3 1, 3) := by decide +kernel
theorem dX11_tell_36 : decode cX11_tell 36 = .ok (.goto (-28), 3) := by decide +kernel
theorem dX11_tell_39 : decode cX11_tell 39 = .ok (.aload_n 0, 1) := by decide +kernel
theorem dX11_tell_40 : decode cX11_tell 40 = .ok (.getfield 73, 3) := by decide +kernel
theorem dX11_tell_43 : decode cX11_tell 43 = .ok (.aload_n 0, 1) := by decide +kernel
theorem dX11_tell_44 : decode cX11_tell 44 = .ok (.getfield 219, 3) := by decide +kernel
theorem dX11_tell_47 : decode cX11_tell 47 = .ok (.iload_n 2, 1) := by decide +kernel
theorem dX11_tell_48 : decode cX11_tell 48 = .ok (.iastore, 1) := by decide +kernel
