theorem dX5_gather_0 : decode (z_c zX5_gather) 0 = .ok (.aload_n 0, 1) := by decide +kernel
theorem dX5_gather_1 : decode (z_c zX5_gather) 1 = .ok (.getfield 28, 3) := by decide +kernel
theorem dX5_gather_4 : decode (z_c zX5_gather) 4 = .ok (.invokevirtual 63, 3) := by decide +kernel
theorem dX5_gather_7 : decode (z_c zX5_gather) 7 = .ok (.aload_n 0, 1) := by decide +kernel
theorem dX5_gather_8 : decode (z_c zX5_gather) 8 = .ok (.iconst 0, 1) := by decide +kernel
theorem dX5_gather_9 : decode (z_c zX5_gather) 9 = .ok (.putfield 66, 3) := by decide +kernel
theorem dX5_gather_12 : decode (z_c zX5_gather) 12 = .ok (.aload_n 0, 1) := by decide +kernel
theorem dX5_gather_13 : decode (z_c zX5_gather) 13 = .ok (.getfield 41, 3) := by decide +kernel
theorem dX5_gather_16 : decode (z_c zX5_gather) 16 = .ok (.iconst 0, 1) := by decide +kernel
theorem dX5_gather_17 : decode (z_c zX5_gather) 17 = .ok (.iconst 0, 1) := by decide +kernel
theorem dX5_gather_18 : decode (z_c zX5_gather) 18 = .ok (.iastore, 1) := by decide +kernel
theorem dX5_gather_19 : decode (z_c zX5_gather) 19 = .ok (.iconst 0, 1) := by decide +kernel
theorem dX5_gather_20 : decode (z_c zX5_gather) 20 = .ok (.istore_n 2, 1) := by decide +kernel
theorem dX5_gather_21 : decode (z_c zX5_gather) 21 = .ok (.iload_n 2, 1) := by decide +kernel
theorem dX5_gather_22 : decode (z_c zX5_gather) 22 = .ok (.aload_n 1, 1) := by decide +kernel
theorem dX5_gather_23 : decode (z_c zX5_gather) 23 = .ok (.getfield 70, 3) := by decide +kernel
theorem dX5_gather_26 : decode (z_c zX5_gather) 26 = .ok (.getfield 76, 3) := by decide +kernel
theorem dX5_gather_29 : decode (z_c zX5_gather) 29 = .ok (.if_icmp .ge 119, 3) := by decide +kernel
theorem dX5_gather_32 : decode (z_c zX5_gather) 32 = .ok (.aload_n 1, 1) := by decide +kernel
theorem dX5_gather_33 : decode (z_c zX5_gather) 33 = .ok (.getfield 81, 3) := by decide +kernel
theorem dX5_gather_36 : decode (z_c zX5_gather) 36 = .ok (.iload_n 2, 1) := by decide +kernel
theorem dX5_gather_37 : decode (z_c zX5_gather) 37 = .ok (.invokevirtual 84, 3) := by decide +kernel
theorem dX5_gather_40 : decode (z_c zX5_gather) 40 = .ok (.ifCond .eq 18, 3) := by decide +kernel
theorem dX5_gather_43 : decode (z_c zX5_gather) 43 = .ok (.aload_n 0, 1) := by decide +kernel
theorem dX5_gather_44 : decode (z_c zX5_gather) 44 = .ok (.getfield 28, 3) := by decide +kernel
theorem dX5_gather_47 : decode (z_c zX5_gather) 47 = .ok (.iload_n 2, 1) := by decide +kernel
theorem dX5_gather_48 : decode (z_c zX5_gather) 48 = .ok (.invokevirtual 84, 3) := by decide +kernel
theorem dX5_gather_51 : decode (z_c zX5_gather) 51 = .ok (.ifCond .ne 7, 3) := by decide +kernel
theorem dX5_gather_54 : decode (z_c zX5_gather) 54 = .ok (.iconst 1, 1) := by decide +kernel
theorem dX5_gather_55 : decode (z_c zX5_gather) 55 = .ok (.goto 4, 3) := by decide +kernel
theorem dX5_gather_58 : decode (z_c zX5_gather) 58 = .ok (.iconst 0, 1) := by decide +kernel
theorem dX5_gather_59 : decode (z_c zX5_gather) 59 = .ok (.istore_n 3, 1) := by decide +kernel
theorem dX5_gather_60 : decode (z_c zX5_gather) 60 = .ok (.iload_n 3, 1) := by decide +kernel
theorem dX5_gather_61 : decode (z_c zX5_gather) 61 = .ok (.ifCond .eq 81, 3) := by decide +kernel
theorem dX5_gather_64 : decode (z_c zX5_gather) 64 = .ok (.aload_n 0, 1) := by decide +kernel
theorem dX5_gather_65 : decode (z_c zX5_gather) 65 = .ok (.getfield 66, 3) := by decide +kernel
theorem dX5_gather_68 : decode (z_c zX5_gather) 68 = .ok (.bipush 100, 2) := by decide +kernel
theorem dX5_gather_70 : decode (z_c zX5_gather) 70 = .ok (.if_icmp .ge 72, 3) := by decide +kernel
theorem dX5_gather_73 : decode (z_c zX5_gather) 73 = .ok (.aload_n 1, 1) := by decide +kernel
theorem dX5_gather_74 : decode (z_c zX5_gather) 74 = .ok (.getfield 70, 3) := by decide +kernel
theorem dX5_gather_77 : decode (z_c zX5_gather) 77 = .ok (.iload_n 2, 1) := by decide +kernel
theorem dX5_gather_78 : decode (z_c zX5_gather) 78 = .ok (.aload_n 1, 1) := by decide +kernel
theorem dX5_gather_79 : decode (z_c zX5_gather) 79 = .ok (.getfield 88, 3) := by decide +kernel
theorem dX5_gather_82 : decode (z_c zX5_gather) 82 = .ok (.invokevirtual 91, 3) := by decide +kernel
theorem dX5_gather_85 : decode (z_c zX5_gather) 85 = .ok (.ifCond .eq 57, 3) := by decide +kernel
theorem dX5_gather_88 : decode (z_c zX5_gather) 88 = .ok (.aload_n 0, 1) := by decide +kernel
theorem dX5_gather_89 : decode (z_c zX5_gather) 89 = .ok (.getfield 41, 3) := by decide +kernel
theorem dX5_gather_92 : decode (z_c zX5_gather) 92 = .ok (.aload_n 0, 1) := by decide +kernel
theorem dX5_gather_93 : decode (z_c zX5_gather) 93 = .ok (.getfield 66, 3) := by decide +kernel
theorem dX5_gather_96 : decode (z_c zX5_gather) 96 = .ok (.iaload, 1) := by decide +kernel
theorem dX5_gather_97 : decode (z_c zX5_gather) 97 = .ok (.istore 4, 2) := by decide +kernel
theorem dX5_gather_99 : decode (z_c zX5_gather) 99 = .ok (.aload_n 0, 1) := by decide +kernel
theorem dX5_gather_100 : decode (z_c zX5_gather) 100 = .ok (.aload_n 1, 1) := by decide +kernel
theorem dX5_gather_101 : decode (z_c zX5_gather) 101 = .ok (.iload_n 2, 1) := by decide +kernel
theorem dX5_gather_102 : decode (z_c zX5_gather) 102 = .ok (.iload 4, 2) := by decide +kernel
theorem dX5_gather_104 : decode (z_c zX5_gather) 104 = .ok (.invokevirtual 95, 3) := by decide +kernel
theorem dX5_gather_107 : decode (z_c zX5_gather) 107 = .ok (.istore 5, 2) := by decide +kernel
theorem dX5_gather_109 : decode (z_c zX5_gather) 109 = .ok (.aload_n 0, 1) := by decide +kernel
theorem dX5_gather_110 : decode (z_c zX5_gather) 110 = .ok (.dup, 1) := by decide +kernel
theorem dX5_gather_111 : decode (z_c zX5_gather) 111 = .ok (.getfield 66, 3) := by decide +kernel
theorem dX5_gather_114 : decode (z_c zX5_gather) 114 = .ok (.iconst 1, 1) := by decide +kernel
theorem dX5_gather_115 : decode (z_c zX5_gather) 115 = .ok (.iadd, 1) := by decide +kernel
theorem dX5_gather_116 : decode (z_c zX5_gather) 116 = .ok (.putfield 66, 3) := by decide +kernel
theorem dX5_gather_119 : decode (z_c zX5_gather) 119 = .ok (.aload_n 0, 1) := by decide +kernel
theorem dX5_gather_120 : decode (z_c zX5_gather) 120 = .ok (.getfield 41, 3) := by decide +kernel
theorem dX5_gather_123 : decode (z_c zX5_gather) 123 = .ok (.aload_n 0, 1) := by decide +kernel
theorem dX5_gather_124 : decode (z_c zX5_gather) 124 = .ok (.getfield 66, 3) := by decide +kernel
theorem dX5_gather_127 : decode (z_c zX5_gather) 127 = .ok (.iload 5, 2) := by decide +kernel
theorem dX5_gather_129 : decode (z_c zX5_gather) 129 = .ok (.iastore, 1) := by decide +kernel
theorem dX5_gather_130 : decode (z_c zX5_gather) 130 = .ok (.iload 5, 2) := by decide +kernel
theorem dX5_gather_132 : decode (z_c zX5_gather) 132 = .ok (.iload 4, 2) := by decide +kernel
theorem dX5_gather_134 : decode (z_c zX5_gather) 134 = .ok (.isub, 1) := by decide +kernel
theorem dX5_gather_135 : decode (z_c zX5_gather) 135 = .ok (.bipush 12, 2) := by decide +kernel
theorem dX5_gather_137 : decode (z_c zX5_gather) 137 = .ok (.if_icmp .le 5, 3) := by decide +kernel
theorem dX5_gather_140 : decode (z_c zX5_gather) 140 = .ok (.iconst 0, 1) := by decide +kernel
theorem dX5_gather_141 : decode (z_c zX5_gather) 141 = .ok (.ireturn, 1) := by decide +kernel
theorem dX5_gather_142 : decode (z_c zX5_gather) 142 = .ok (.iinc 2 1, 3) := by decide +kernel
theorem dX5_gather_145 : decode (z_c zX5_gather) 145 = .ok (.goto (-124), 3) := by decide +kernel
theorem dX5_gather_148 : decode (z_c zX5_gather) 148 = .ok (.iconst 1, 1) := by decide +kernel
theorem dX5_gather_149 : decode (z_c zX5_gather) 149 = .ok (.ireturn, 1) := by decide +kernel
theorem dX5_spread_0 : decode (z_c zX5_spread) 0 = .ok (.iload_n 3, 1) := by decide +kernel
theorem dX5_spread_1 : decode (z_c zX5_spread) 1 = .ok (.bipush 100, 2) := by decide +kernel
theorem dX5_spread_3 : decode (z_c zX5_spread) 3 = .ok (.if_icmp .lt 5, 3) := by decide +kernel
theorem dX5_spread_6 : decode (z_c zX5_spread) 6 = .ok (.iload_n 3, 1) := by decide +kernel
theorem dX5_spread_7 : decode (z_c zX5_spread) 7 = .ok (.ireturn, 1) := by decide +kernel
theorem dX5_spread_8 : decode (z_c zX5_spread) 8 = .ok (.aload_n 0, 1) := by decide +kernel
theorem dX5_spread_9 : decode (z_c zX5_spread) 9 = .ok (.getfield 37, 3) := by decide +kernel
theorem dX5_spread_12 : decode (z_c zX5_spread) 12 = .ok (.iload_n 3, 1) := by decide +kernel
theorem dX5_spread_13 : decode (z_c zX5_spread) 13 = .ok (.iload_n 2, 1) := by decide +kernel
theorem dX5_spread_14 : decode (z_c zX5_spread) 14 = .ok (.iastore, 1) := by decide +kernel
theorem dX5_spread_15 : decode (z_c zX5_spread) 15 = .ok (.aload_n 0, 1) := by decide +kernel
theorem dX5_spread_16 : decode (z_c zX5_spread) 16 = .ok (.getfield 28, 3) := by decide +kernel
theorem dX5_spread_19 : decode (z_c zX5_spread) 19 = .ok (.iload_n 2, 1) := by decide +kernel
theorem dX5_spread_20 : decode (z_c zX5_spread) 20 = .ok (.invokevirtual 99, 3) := by decide +kernel
theorem dX5_spread_23 : decode (z_c zX5_spread) 23 = .ok (.iload_n 3, 1) := by decide +kernel
theorem dX5_spread_24 : decode (z_c zX5_spread) 24 = .ok (.iconst 1, 1) := by decide +kernel
theorem dX5_spread_25 : decode (z_c zX5_spread) 25 = .ok (.iadd, 1) := by decide +kernel
theorem dX5_spread_26 : decode (z_c zX5_spread) 26 = .ok (.istore 4, 2) := by decide +kernel
theorem dX5_spread_28 : decode (z_c zX5_spread) 28 = .ok (.iload_n 3, 1) := by decide +kernel
theorem dX5_spread_29 : decode (z_c zX5_spread) 29 = .ok (.istore 5, 2) := by decide +kernel
theorem dX5_spread_31 : decode (z_c zX5_spread) 31 = .ok (.iload 5, 2) := by decide +kernel
theorem dX5_spread_33 : decode (z_c zX5_spread) 33 = .ok (.iload 4, 2) := by decide +kernel
theorem dX5_spread_35 : decode (z_c zX5_spread) 35 = .ok (.if_icmp .ge 101, 3) := by decide +kernel
theorem dX5_spread_38 : decode (z_c zX5_spread) 38 = .ok (.iload 5, 2) := by decide +kernel
theorem dX5_spread_40 : decode (z_c zX5_spread) 40 = .ok (.bipush 100, 2) := by decide +kernel
theorem dX5_spread_42 : decode (z_c zX5_spread) 42 = .ok (.if_icmp .ge 94, 3) := by decide +kernel
theorem dX5_spread_45 : decode (z_c zX5_spread) 45 = .ok (.aload_n 0, 1) := by decide +kernel
theorem dX5_spread_46 : decode (z_c zX5_spread) 46 = .ok (.getfield 37, 3) := by decide +kernel
theorem dX5_spread_49 : decode (z_c zX5_spread) 49 = .ok (.iload 5, 2) := by decide +kernel
theorem dX5_spread_51 : decode (z_c zX5_spread) 51 = .ok (.iaload, 1) := by decide +kernel
theorem dX5_spread_52 : decode (z_c zX5_spread) 52 = .ok (.istore 6, 2) := by decide +kernel
theorem dX5_spread_54 : decode (z_c zX5_spread) 54 = .ok (.aload_n 0, 1) := by decide +kernel
theorem dX5_spread_55 : decode (z_c zX5_spread) 55 = .ok (.getfield 44, 3) := by decide +kernel
theorem dX5_spread_58 : decode (z_c zX5_spread) 58 = .ok (.iload 6, 2) := by decide +kernel
theorem dX5_spread_60 : decode (z_c zX5_spread) 60 = .ok (.aload_n 0, 1) := by decide +kernel
theorem dX5_spread_61 : decode (z_c zX5_spread) 61 = .ok (.getfield 66, 3) := by decide +kernel
theorem dX5_spread_64 : decode (z_c zX5_spread) 64 = .ok (.iastore, 1) := by decide +kernel
theorem dX5_spread_65 : decode (z_c zX5_spread) 65 = .ok (.iconst 0, 1) := by decide +kernel
theorem dX5_spread_66 : decode (z_c zX5_spread) 66 = .ok (.istore 7, 2) := by decide +kernel
theorem dX5_spread_68 : decode (z_c zX5_spread) 68 = .ok (.iload 7, 2) := by decide +kernel
theorem dX5_spread_70 : decode (z_c zX5_spread) 70 = .ok (.aload_n 1, 1) := by decide +kernel
theorem dX5_spread_71 : decode (z_c zX5_spread) 71 = .ok (.getfield 70, 3) := by decide +kernel
theorem dX5_spread_74 : decode (z_c zX5_spread) 74 = .ok (.getfield 103, 3) := by decide +kernel
theorem dX5_spread_77 : decode (z_c zX5_spread) 77 = .ok (.iload 6, 2) := by decide +kernel
theorem dX5_spread_79 : decode (z_c zX5_spread) 79 = .ok (.iaload, 1) := by decide +kernel
theorem dX5_spread_80 : decode (z_c zX5_spread) 80 = .ok (.if_icmp .ge 50, 3) := by decide +kernel
theorem dX5_spread_83 : decode (z_c zX5_spread) 83 = .ok (.aload_n 1, 1) := by decide +kernel
theorem dX5_spread_84 : decode (z_c zX5_spread) 84 = .ok (.getfield 70, 3) := by decide +kernel
theorem dX5_spread_87 : decode (z_c zX5_spread) 87 = .ok (.getfield 106, 3) := by decide +kernel
theorem dX5_spread_90 : decode (z_c zX5_spread) 90 = .ok (.iload 6, 2) := by decide +kernel
theorem dX5_spread_92 : decode (z_c zX5_spread) 92 = .ok (.bipush 8, 2) := by decide +kernel
theorem dX5_spread_94 : decode (z_c zX5_spread) 94 = .ok (.imul, 1) := by decide +kernel
theorem dX5_spread_95 : decode (z_c zX5_spread) 95 = .ok (.iload 7, 2) := by decide +kernel
theorem dX5_spread_97 : decode (z_c zX5_spread) 97 = .ok (.iadd, 1) := by decide +kernel
theorem dX5_spread_98 : decode (z_c zX5_spread) 98 = .ok (.iaload, 1) := by decide +kernel
theorem dX5_spread_99 : decode (z_c zX5_spread) 99 = .ok (.istore 8, 2) := by decide +kernel
theorem dX5_spread_101 : decode (z_c zX5_spread) 101 = .ok (.aload_n 1, 1) := by decide +kernel
theorem dX5_spread_102 : decode (z_c zX5_spread) 102 = .ok (.getfield 88, 3) := by decide +kernel
theorem dX5_spread_105 : decode (z_c zX5_spread) 105 = .ok (.iload 8, 2) := by decide +kernel
theorem dX5_spread_107 : decode (z_c zX5_spread) 107 = .ok (.invokevirtual 84, 3) := by decide +kernel
theorem dX5_spread_110 : decode (z_c zX5_spread) 110 = .ok (.ifCond .eq 14, 3) := by decide +kernel
theorem dX5_spread_113 : decode (z_c zX5_spread) 113 = .ok (.aload_n 0, 1) := by decide +kernel
theorem dX5_spread_114 : decode (z_c zX5_spread) 114 = .ok (.aload_n 1, 1) := by decide +kernel
theorem dX5_spread_115 : decode (z_c zX5_spread) 115 = .ok (.iload 8, 2) := by decide +kernel
theorem dX5_spread_117 : decode (z_c zX5_spread) 117 = .ok (.iload 4, 2) := by decide +kernel
theorem dX5_spread_119 : decode (z_c zX5_spread) 119 = .ok (.invokevirtual 109, 3) := by decide +kernel
theorem dX5_spread_122 : decode (z_c zX5_spread) 122 = .ok (.istore 4, 2) := by decide +kernel
theorem dX5_spread_124 : decode (z_c zX5_spread) 124 = .ok (.iinc 7 1, 3) := by decide +kernel
theorem dX5_spread_127 : decode (z_c zX5_spread) 127 = .ok (.goto (-59), 3) := by decide +kernel
theorem dX5_spread_130 : decode (z_c zX5_spread) 130 = .ok (.iinc 5 1, 3) := by decide +kernel
theorem dX5_spread_133 : decode (z_c zX5_spread) 133 = .ok (.goto (-102), 3) := by decide +kernel
theorem dX5_spread_136 : decode (z_c zX5_spread) 136 = .ok (.iload 4, 2) := by decide +kernel
theorem dX5_spread_138 : decode (z_c zX5_spread) 138 = .ok (.ireturn, 1) := by decide +kernel
theorem dX5_listAround_0 : decode (z_c zX5_listAround) 0 = .ok (.aload_n 1, 1) := by decide +kernel
theorem dX5_listAround_1 : decode (z_c zX5_listAround) 1 = .ok (.getfield 70, 3) := by decide +kernel
theorem dX5_listAround_4 : decode (z_c zX5_listAround) 4 = .ok (.astore 4, 2) := by decide +kernel
theorem dX5_listAround_6 : decode (z_c zX5_listAround) 6 = .ok (.aload 4, 2) := by decide +kernel
theorem dX5_listAround_8 : decode (z_c zX5_listAround) 8 = .ok (.getfield 112, 3) := by decide +kernel
theorem dX5_listAround_11 : decode (z_c zX5_listAround) 11 = .ok (.iload_n 2, 1) := by decide +kernel
theorem dX5_listAround_12 : decode (z_c zX5_listAround) 12 = .ok (.laload, 1) := by decide +kernel
theorem dX5_listAround_13 : decode (z_c zX5_listAround) 13 = .ok (.aload_n 1, 1) := by decide +kernel
theorem dX5_listAround_14 : decode (z_c zX5_listAround) 14 = .ok (.getfield 81, 3) := by decide +kernel
theorem dX5_listAround_17 : decode (z_c zX5_listAround) 17 = .ok (.getfield 115, 3) := by decide +kernel
theorem dX5_listAround_20 : decode (z_c zX5_listAround) 20 = .ok (.land, 1) := by decide +kernel
theorem dX5_listAround_21 : decode (z_c zX5_listAround) 21 = .ok (.aload_n 0, 1) := by decide +kernel
theorem dX5_listAround_22 : decode (z_c zX5_listAround) 22 = .ok (.getfield 28, 3) := by decide +kernel
theorem dX5_listAround_25 : decode (z_c zX5_listAround) 25 = .ok (.getfield 115, 3) := by decide +kernel
theorem dX5_listAround_28 : decode (z_c zX5_listAround) 28 = .ok (.ldc2_w 119, 3) := by decide +kernel
theorem dX5_listAround_31 : decode (z_c zX5_listAround) 31 = .ok (.lxor, 1) := by decide +kernel
theorem dX5_listAround_32 : decode (z_c zX5_listAround) 32 = .ok (.land, 1) := by decide +kernel
theorem dX5_listAround_33 : decode (z_c zX5_listAround) 33 = .ok (.lstore 5, 2) := by decide +kernel
theorem dX5_listAround_35 : decode (z_c zX5_listAround) 35 = .ok (.aload 4, 2) := by decide +kernel
theorem dX5_listAround_37 : decode (z_c zX5_listAround) 37 = .ok (.getfield 121, 3) := by decide +kernel
theorem dX5_listAround_40 : decode (z_c zX5_listAround) 40 = .ok (.iload_n 2, 1) := by decide +kernel
theorem dX5_listAround_41 : decode (z_c zX5_listAround) 41 = .ok (.laload, 1) := by decide +kernel
theorem dX5_listAround_42 : decode (z_c zX5_listAround) 42 = .ok (.aload_n 1, 1) := by decide +kernel
theorem dX5_listAround_43 : decode (z_c zX5_listAround) 43 = .ok (.getfield 81, 3) := by decide +kernel
theorem dX5_listAround_46 : decode (z_c zX5_listAround) 46 = .ok (.getfield 124, 3) := by decide +kernel
theorem dX5_listAround_49 : decode (z_c zX5_listAround) 49 = .ok (.land, 1) := by decide +kernel
theorem dX5_listAround_50 : decode (z_c zX5_listAround) 50 = .ok (.aload_n 0, 1) := by decide +kernel
theorem dX5_listAround_51 : decode (z_c zX5_listAround) 51 = .ok (.getfield 28, 3) := by decide +kernel
theorem dX5_listAround_54 : decode (z_c zX5_listAround) 54 = .ok (.getfield 124, 3) := by decide +kernel
theorem dX5_listAround_57 : decode (z_c zX5_listAround) 57 = .ok (.ldc2_w 119, 3) := by decide +kernel
theorem dX5_listAround_60 : decode (z_c zX5_listAround) 60 = .ok (.lxor, 1) := by decide +kernel
theorem dX5_listAround_61 : decode (z_c zX5_listAround) 61 = .ok (.land, 1) := by decide +kernel
theorem dX5_listAround_62 : decode (z_c zX5_listAround) 62 = .ok (.lstore 7, 2) := by decide +kernel
theorem dX5_listAround_64 : decode (z_c zX5_listAround) 64 = .ok (.lload 5, 2) := by decide +kernel
theorem dX5_listAround_66 : decode (z_c zX5_listAround) 66 = .ok (.lload 7, 2) := by decide +kernel
theorem dX5_listAround_68 : decode (z_c zX5_listAround) 68 = .ok (.lor, 1) := by decide +kernel
theorem dX5_listAround_69 : decode (z_c zX5_listAround) 69 = .ok (.lconst 0, 1) := by decide +kernel
theorem dX5_listAround_70 : decode (z_c zX5_listAround) 70 = .ok (.lcmp, 1) := by decide +kernel
theorem dX5_listAround_71 : decode (z_c zX5_listAround) 71 = .ok (.ifCond .ne 5, 3) := by decide +kernel
theorem dX5_listAround_74 : decode (z_c zX5_listAround) 74 = .ok (.iload_n 3, 1) := by decide +kernel
theorem dX5_listAround_75 : decode (z_c zX5_listAround) 75 = .ok (.ireturn, 1) := by decide +kernel
theorem dX5_listAround_76 : decode (z_c zX5_listAround) 76 = .ok (.iload_n 3, 1) := by decide +kernel
theorem dX5_listAround_77 : decode (z_c zX5_listAround) 77 = .ok (.istore 9, 2) := by decide +kernel
theorem dX5_listAround_79 : decode (z_c zX5_listAround) 79 = .ok (.iconst 0, 1) := by decide +kernel
theorem dX5_listAround_80 : decode (z_c zX5_listAround) 80 = .ok (.istore 10, 2) := by decide +kernel
theorem dX5_listAround_82 : decode (z_c zX5_listAround) 82 = .ok (.iload 10, 2) := by decide +kernel
theorem dX5_listAround_84 : decode (z_c zX5_listAround) 84 = .ok (.aload 4, 2) := by decide +kernel
theorem dX5_listAround_86 : decode (z_c zX5_listAround) 86 = .ok (.getfield 103, 3) := by decide +kernel
theorem dX5_listAround_89 : decode (z_c zX5_listAround) 89 = .ok (.iload_n 2, 1) := by decide +kernel
theorem dX5_listAround_90 : decode (z_c zX5_listAround) 90 = .ok (.iaload, 1) := by decide +kernel
theorem dX5_listAround_91 : decode (z_c zX5_listAround) 91 = .ok (.if_icmp .ge 76, 3) := by decide +kernel
theorem dX5_listAround_94 : decode (z_c zX5_listAround) 94 = .ok (.aload 4, 2) := by decide +kernel
theorem dX5_listAround_96 : decode (z_c zX5_listAround) 96 = .ok (.getfield 106, 3) := by decide +kernel
theorem dX5_listAround_99 : decode (z_c zX5_listAround) 99 = .ok (.iload_n 2, 1) := by decide +kernel
theorem dX5_listAround_100 : decode (z_c zX5_listAround) 100 = .ok (.bipush 8, 2) := by decide +kernel
theorem dX5_listAround_102 : decode (z_c zX5_listAround) 102 = .ok (.imul, 1) := by decide +kernel
theorem dX5_listAround_103 : decode (z_c zX5_listAround) 103 = .ok (.iload 10, 2) := by decide +kernel
theorem dX5_listAround_105 : decode (z_c zX5_listAround) 105 = .ok (.iadd, 1) := by decide +kernel
theorem dX5_listAround_106 : decode (z_c zX5_listAround) 106 = .ok (.iaload, 1) := by decide +kernel
theorem dX5_listAround_107 : decode (z_c zX5_listAround) 107 = .ok (.istore 11, 2) := by decide +kernel
theorem dX5_listAround_109 : decode (z_c zX5_listAround) 109 = .ok (.aload_n 1, 1) := by decide +kernel
theorem dX5_listAround_110 : decode (z_c zX5_listAround) 110 = .ok (.getfield 81, 3) := by decide +kernel
theorem dX5_listAround_113 : decode (z_c zX5_listAround) 113 = .ok (.iload 11, 2) := by decide +kernel
theorem dX5_listAround_115 : decode (z_c zX5_listAround) 115 = .ok (.invokevirtual 84, 3) := by decide +kernel
theorem dX5_listAround_118 : decode (z_c zX5_listAround) 118 = .ok (.ifCond .eq 43, 3) := by decide +kernel
theorem dX5_listAround_121 : decode (z_c zX5_listAround) 121 = .ok (.aload_n 0, 1) := by decide +kernel
theorem dX5_listAround_122 : decode (z_c zX5_listAround) 122 = .ok (.getfield 28, 3) := by decide +kernel
theorem dX5_listAround_125 : decode (z_c zX5_listAround) 125 = .ok (.iload 11, 2) := by decide +kernel
theorem dX5_listAround_127 : decode (z_c zX5_listAround) 127 = .ok (.invokevirtual 84, 3) := by decide +kernel
theorem dX5_listAround_130 : decode (z_c zX5_listAround) 130 = .ok (.ifCond .ne 31, 3) := by decide +kernel
theorem dX5_listAround_133 : decode (z_c zX5_listAround) 133 = .ok (.iload 9, 2) := by decide +kernel
theorem dX5_listAround_135 : decode (z_c zX5_listAround) 135 = .ok (.bipush 100, 2) := by decide +kernel
theorem dX5_listAround_137 : decode (z_c zX5_listAround) 137 = .ok (.if_icmp .ge 24, 3) := by decide +kernel
theorem dX5_listAround_140 : decode (z_c zX5_listAround) 140 = .ok (.aload_n 0, 1) := by decide +kernel
theorem dX5_listAround_141 : decode (z_c zX5_listAround) 141 = .ok (.getfield 28, 3) := by decide +kernel
theorem dX5_listAround_144 : decode (z_c zX5_listAround) 144 = .ok (.iload 11, 2) := by decide +kernel
theorem dX5_listAround_146 : decode (z_c zX5_listAround) 146 = .ok (.invokevirtual 99, 3) := by decide +kernel
theorem dX5_listAround_149 : decode (z_c zX5_listAround) 149 = .ok (.aload_n 0, 1) := by decide +kernel
theorem dX5_listAround_150 : decode (z_c zX5_listAround) 150 = .ok (.getfield 37, 3) := by decide +kernel
theorem dX5_listAround_153 : decode (z_c zX5_listAround) 153 = .ok (.iload 9, 2) := by decide +kernel
theorem dX5_listAround_155 : decode (z_c zX5_listAround) 155 = .ok (.iload 11, 2) := by decide +kernel
theorem dX5_listAround_157 : decode (z_c zX5_listAround) 157 = .ok (.iastore, 1) := by decide +kernel
theorem dX5_listAround_158 : decode (z_c zX5_listAround) 158 = .ok (.iinc 9 1, 3) := by decide +kernel
theorem dX5_listAround_161 : decode (z_c zX5_listAround) 161 = .ok (.iinc 10 1, 3) := by decide +kernel
theorem dX5_listAround_164 : decode (z_c zX5_listAround) 164 = .ok (.goto (-82), 3) := by decide +kernel
theorem dX5_listAround_167 : decode (z_c zX5_listAround) 167 = .ok (.iload 9, 2) := by decide +kernel
theorem dX5_listAround_169 : decode (z_c zX5_listAround) 169 = .ok (.ireturn, 1) := by decide +kernel
theorem dX5_study_0 : decode (z_c zX5_study) 0 = .ok (.iconst 0, 1) := by decide +kernel
theorem dX5_study_1 : decode (z_c zX5_study) 1 = .ok (.istore_n 2, 1) := by decide +kernel
theorem dX5_study_2 : decode (z_c zX5_study) 2 = .ok (.iload_n 2, 1) := by decide +kernel
theorem dX5_study_3 : decode (z_c zX5_study) 3 = .ok (.aload_n 0, 1) := by decide +kernel
theorem dX5_study_4 : decode (z_c zX5_study) 4 = .ok (.getfield 66, 3) := by decide +kernel
theorem dX5_study_7 : decode (z_c zX5_study) 7 = .ok (.if_icmp .ge 79, 3) := by decide +kernel
theorem dX5_study_10 : decode (z_c zX5_study) 10 = .ok (.aload_n 0, 1) := by decide +kernel
theorem dX5_study_11 : decode (z_c zX5_study) 11 = .ok (.getfield 24, 3) := by decide +kernel
theorem dX5_study_14 : decode (z_c zX5_study) 14 = .ok (.invokevirtual 127, 3) := by decide +kernel
theorem dX5_study_17 : decode (z_c zX5_study) 17 = .ok (.aload_n 0, 1) := by decide +kernel
theorem dX5_study_18 : decode (z_c zX5_study) 18 = .ok (.getfield 41, 3) := by decide +kernel
theorem dX5_study_21 : decode (z_c zX5_study) 21 = .ok (.iload_n 2, 1) := by decide +kernel
theorem dX5_study_22 : decode (z_c zX5_study) 22 = .ok (.iaload, 1) := by decide +kernel
theorem dX5_study_23 : decode (z_c zX5_study) 23 = .ok (.istore_n 3, 1) := by decide +kernel
theorem dX5_study_24 : decode (z_c zX5_study) 24 = .ok (.iload_n 3, 1) := by decide +kernel
theorem dX5_study_25 : decode (z_c zX5_study) 25 = .ok (.aload_n 0, 1) := by decide +kernel
theorem dX5_study_26 : decode (z_c zX5_study) 26 = .ok (.getfield 41, 3) := by decide +kernel
theorem dX5_study_29 : decode (z_c zX5_study) 29 = .ok (.iload_n 2, 1) := by decide +kernel
theorem dX5_study_30 : decode (z_c zX5_study) 30 = .ok (.iconst 1, 1) := by decide +kernel
theorem dX5_study_31 : decode (z_c zX5_study) 31 = .ok (.iadd, 1) := by decide +kernel
theorem dX5_study_32 : decode (z_c zX5_study) 32 = .ok (.iaload, 1) := by decide +kernel
theorem dX5_study_33 : decode (z_c zX5_study) 33 = .ok (.if_icmp .ge 23, 3) := by decide +kernel
theorem dX5_study_36 : decode (z_c zX5_study) 36 = .ok (.aload_n 0, 1) := by decide +kernel
theorem dX5_study_37 : decode (z_c zX5_study) 37 = .ok (.getfield 24, 3) := by decide +kernel
theorem dX5_study_40 : decode (z_c zX5_study) 40 = .ok (.aload_n 0, 1) := by decide +kernel
theorem dX5_study_41 : decode (z_c zX5_study) 41 = .ok (.getfield 37, 3) := by decide +kernel
theorem dX5_study_44 : decode (z_c zX5_study) 44 = .ok (.iload_n 3, 1) := by decide +kernel
theorem dX5_study_45 : decode (z_c zX5_study) 45 = .ok (.iaload, 1) := by decide +kernel
theorem dX5_study_46 : decode (z_c zX5_study) 46 = .ok (.invokevirtual 128, 3) := by decide +kernel
theorem dX5_study_49 : decode (z_c zX5_study) 49 = .ok (.pop, 1) := by decide +kernel
theorem dX5_study_50 : decode (z_c zX5_study) 50 = .ok (.iinc 3 1, 3) := by decide +kernel
theorem dX5_study_53 : decode (z_c zX5_study) 53 = .ok (.goto (-29), 3) := by decide +kernel
theorem dX5_study_56 : decode (z_c zX5_study) 56 = .ok (.aload_n 0, 1) := by decide +kernel
theorem dX5_study_57 : decode (z_c zX5_study) 57 = .ok (.getfield 24, 3) := by decide +kernel
theorem dX5_study_60 : decode (z_c zX5_study) 60 = .ok (.aload_n 1, 1) := by decide +kernel
theorem dX5_study_61 : decode (z_c zX5_study) 61 = .ok (.aload_n 1, 1) := by decide +kernel
theorem dX5_study_62 : decode (z_c zX5_study) 62 = .ok (.getfield 88, 3) := by decide +kernel
theorem dX5_study_65 : decode (z_c zX5_study) 65 = .ok (.invokevirtual 131, 3) := by decide +kernel
theorem dX5_study_68 : decode (z_c zX5_study) 68 = .ok (.aload_n 0, 1) := by decide +kernel
theorem dX5_study_69 : decode (z_c zX5_study) 69 = .ok (.getfield 24, 3) := by decide +kernel
theorem dX5_study_72 : decode (z_c zX5_study) 72 = .ok (.invokevirtual 135, 3) := by decide +kernel
theorem dX5_study_75 : decode (z_c zX5_study) 75 = .ok (.aload_n 0, 1) := by decide +kernel
theorem dX5_study_76 : decode (z_c zX5_study) 76 = .ok (.iload_n 2, 1) := by decide +kernel
theorem dX5_study_77 : decode (z_c zX5_study) 77 = .ok (.invokevirtual 138, 3) := by decide +kernel
theorem dX5_study_80 : decode (z_c zX5_study) 80 = .ok (.iinc 2 1, 3) := by decide +kernel
theorem dX5_study_83 : decode (z_c zX5_study) 83 = .ok (.goto (-81), 3) := by decide +kernel
theorem dX5_study_86 : decode (z_c zX5_study) 86 = .ok (.return_, 1) := by decide +kernel
theorem dX5_keepCounts_0 : decode (z_c zX5_keepCounts) 0 = .ok (.iconst 0, 1) := by decide +kernel
theorem dX5_keepCounts_1 : decode (z_c zX5_keepCounts) 1 = .ok (.istore_n 2, 1) := by decide +kernel
theorem dX5_keepCounts_2 : decode (z_c zX5_keepCounts) 2 = .ok (.iload_n 2, 1) := by decide +kernel
theorem dX5_keepCounts_3 : decode (z_c zX5_keepCounts) 3 = .ok (.bipush 13, 2) := by decide +kernel
theorem dX5_keepCounts_5 : decode (z_c zX5_keepCounts) 5 = .ok (.if_icmp .ge 89, 3) := by decide +kernel
theorem dX5_keepCounts_8 : decode (z_c zX5_keepCounts) 8 = .ok (.aload_n 0, 1) := by decide +kernel
theorem dX5_keepCounts_9 : decode (z_c zX5_keepCounts) 9 = .ok (.getfield 47, 3) := by decide +kernel
theorem dX5_keepCounts_12 : decode (z_c zX5_keepCounts) 12 = .ok (.iload_n 1, 1) := by decide +kernel
theorem dX5_keepCounts_13 : decode (z_c zX5_keepCounts) 13 = .ok (.bipush 13, 2) := by decide +kernel
theorem dX5_keepCounts_15 : decode (z_c zX5_keepCounts) 15 = .ok (.imul, 1) := by decide +kernel
theorem dX5_keepCounts_16 : decode (z_c zX5_keepCounts) 16 = .ok (.iload_n 2, 1) := by decide +kernel
theorem dX5_keepCounts_17 : decode (z_c zX5_keepCounts) 17 = .ok (.iadd, 1) := by decide +kernel
theorem dX5_keepCounts_18 : decode (z_c zX5_keepCounts) 18 = .ok (.aload_n 0, 1) := by decide +kernel
theorem dX5_keepCounts_19 : decode (z_c zX5_keepCounts) 19 = .ok (.getfield 24, 3) := by decide +kernel
theorem dX5_keepCounts_22 : decode (z_c zX5_keepCounts) 22 = .ok (.iload_n 2, 1) := by decide +kernel
theorem dX5_keepCounts_23 : decode (z_c zX5_keepCounts) 23 = .ok (.invokevirtual 141, 3) := by decide +kernel
theorem dX5_keepCounts_26 : decode (z_c zX5_keepCounts) 26 = .ok (.iastore, 1) := by decide +kernel
theorem dX5_keepCounts_27 : decode (z_c zX5_keepCounts) 27 = .ok (.aload_n 0, 1) := by decide +kernel
theorem dX5_keepCounts_28 : decode (z_c zX5_keepCounts) 28 = .ok (.getfield 41, 3) := by decide +kernel
theorem dX5_keepCounts_31 : decode (z_c zX5_keepCounts) 31 = .ok (.iload_n 1, 1) := by decide +kernel
theorem dX5_keepCounts_32 : decode (z_c zX5_keepCounts) 32 = .ok (.iaload, 1) := by decide +kernel
theorem dX5_keepCounts_33 : decode (z_c zX5_keepCounts) 33 = .ok (.istore_n 3, 1) := by decide +kernel
theorem dX5_keepCounts_34 : decode (z_c zX5_keepCounts) 34 = .ok (.iload_n 3, 1) := by decide +kernel
theorem dX5_keepCounts_35 : decode (z_c zX5_keepCounts) 35 = .ok (.aload_n 0, 1) := by decide +kernel
theorem dX5_keepCounts_36 : decode (z_c zX5_keepCounts) 36 = .ok (.getfield 41, 3) := by decide +kernel
theorem dX5_keepCounts_39 : decode (z_c zX5_keepCounts) 39 = .ok (.iload_n 1, 1) := by decide +kernel
theorem dX5_keepCounts_40 : decode (z_c zX5_keepCounts) 40 = .ok (.iconst 1, 1) := by decide +kernel
theorem dX5_keepCounts_41 : decode (z_c zX5_keepCounts) 41 = .ok (.iadd, 1) := by decide +kernel
theorem dX5_keepCounts_42 : decode (z_c zX5_keepCounts) 42 = .ok (.iaload, 1) := by decide +kernel
theorem dX5_keepCounts_43 : decode (z_c zX5_keepCounts) 43 = .ok (.if_icmp .ge 45, 3) := by decide +kernel
theorem dX5_keepCounts_46 : decode (z_c zX5_keepCounts) 46 = .ok (.iload_n 3, 1) := by decide +kernel
theorem dX5_keepCounts_47 : decode (z_c zX5_keepCounts) 47 = .ok (.aload_n 0, 1) := by decide +kernel
theorem dX5_keepCounts_48 : decode (z_c zX5_keepCounts) 48 = .ok (.getfield 41, 3) := by decide +kernel
theorem dX5_keepCounts_51 : decode (z_c zX5_keepCounts) 51 = .ok (.iload_n 1, 1) := by decide +kernel
theorem dX5_keepCounts_52 : decode (z_c zX5_keepCounts) 52 = .ok (.iaload, 1) := by decide +kernel
theorem dX5_keepCounts_53 : decode (z_c zX5_keepCounts) 53 = .ok (.isub, 1) := by decide +kernel
theorem dX5_keepCounts_54 : decode (z_c zX5_keepCounts) 54 = .ok (.istore 4, 2) := by decide +kernel
theorem dX5_keepCounts_56 : decode (z_c zX5_keepCounts) 56 = .ok (.aload_n 0, 1) := by decide +kernel
theorem dX5_keepCounts_57 : decode (z_c zX5_keepCounts) 57 = .ok (.getfield 50, 3) := by decide +kernel
theorem dX5_keepCounts_60 : decode (z_c zX5_keepCounts) 60 = .ok (.aload_n 0, 1) := by decide +kernel
theorem dX5_keepCounts_61 : decode (z_c zX5_keepCounts) 61 = .ok (.getfield 37, 3) := by decide +kernel
theorem dX5_keepCounts_64 : decode (z_c zX5_keepCounts) 64 = .ok (.iload_n 3, 1) := by decide +kernel
theorem dX5_keepCounts_65 : decode (z_c zX5_keepCounts) 65 = .ok (.iaload, 1) := by decide +kernel
theorem dX5_keepCounts_66 : decode (z_c zX5_keepCounts) 66 = .ok (.bipush 13, 2) := by decide +kernel
theorem dX5_keepCounts_68 : decode (z_c zX5_keepCounts) 68 = .ok (.imul, 1) := by decide +kernel
theorem dX5_keepCounts_69 : decode (z_c zX5_keepCounts) 69 = .ok (.iload_n 2, 1) := by decide +kernel
theorem dX5_keepCounts_70 : decode (z_c zX5_keepCounts) 70 = .ok (.iadd, 1) := by decide +kernel
theorem dX5_keepCounts_71 : decode (z_c zX5_keepCounts) 71 = .ok (.aload_n 0, 1) := by decide +kernel
theorem dX5_keepCounts_72 : decode (z_c zX5_keepCounts) 72 = .ok (.getfield 24, 3) := by decide +kernel
theorem dX5_keepCounts_75 : decode (z_c zX5_keepCounts) 75 = .ok (.iload 4, 2) := by decide +kernel
theorem dX5_keepCounts_77 : decode (z_c zX5_keepCounts) 77 = .ok (.iload_n 2, 1) := by decide +kernel
theorem dX5_keepCounts_78 : decode (z_c zX5_keepCounts) 78 = .ok (.invokevirtual 145, 3) := by decide +kernel
theorem dX5_keepCounts_81 : decode (z_c zX5_keepCounts) 81 = .ok (.iastore, 1) := by decide +kernel
theorem dX5_keepCounts_82 : decode (z_c zX5_keepCounts) 82 = .ok (.iinc 3 1, 3) := by decide +kernel
theorem dX5_keepCounts_85 : decode (z_c zX5_keepCounts) 85 = .ok (.goto (-51), 3) := by decide +kernel
theorem dX5_keepCounts_88 : decode (z_c zX5_keepCounts) 88 = .ok (.iinc 2 1, 3) := by decide +kernel
theorem dX5_keepCounts_91 : decode (z_c zX5_keepCounts) 91 = .ok (.goto (-89), 3) := by decide +kernel
theorem dX5_keepCounts_94 : decode (z_c zX5_keepCounts) 94 = .ok (.return_, 1) := by decide +kernel
theorem dX5_force_0 : decode (z_c zX5_force) 0 = .ok (.aload_n 0, 1) := by decide +kernel
theorem dX5_force_1 : decode (z_c zX5_force) 1 = .ok (.getfield 12, 3) := by decide +kernel
theorem dX5_force_4 : decode (z_c zX5_force) 4 = .ok (.invokevirtual 63, 3) := by decide +kernel
theorem dX5_force_7 : decode (z_c zX5_force) 7 = .ok (.aload_n 0, 1) := by decide +kernel
theorem dX5_force_8 : decode (z_c zX5_force) 8 = .ok (.getfield 18, 3) := by decide +kernel
theorem dX5_force_11 : decode (z_c zX5_force) 11 = .ok (.invokevirtual 63, 3) := by decide +kernel
theorem dX5_force_14 : decode (z_c zX5_force) 14 = .ok (.aload_n 1, 1) := by decide +kernel
theorem dX5_force_15 : decode (z_c zX5_force) 15 = .ok (.invokevirtual 149, 3) := by decide +kernel
theorem dX5_force_18 : decode (z_c zX5_force) 18 = .ok (.istore_n 2, 1) := by decide +kernel
theorem dX5_force_19 : decode (z_c zX5_force) 19 = .ok (.aload_n 1, 1) := by decide +kernel
theorem dX5_force_20 : decode (z_c zX5_force) 20 = .ok (.getfield 81, 3) := by decide +kernel
theorem dX5_force_23 : decode (z_c zX5_force) 23 = .ok (.invokevirtual 153, 3) := by decide +kernel
theorem dX5_force_26 : decode (z_c zX5_force) 26 = .ok (.aload_n 0, 1) := by decide +kernel
theorem dX5_force_27 : decode (z_c zX5_force) 27 = .ok (.getfield 28, 3) := by decide +kernel
theorem dX5_force_30 : decode (z_c zX5_force) 30 = .ok (.invokevirtual 153, 3) := by decide +kernel
theorem dX5_force_33 : decode (z_c zX5_force) 33 = .ok (.isub, 1) := by decide +kernel
theorem dX5_force_34 : decode (z_c zX5_force) 34 = .ok (.istore_n 3, 1) := by decide +kernel
theorem dX5_force_35 : decode (z_c zX5_force) 35 = .ok (.iconst 0, 1) := by decide +kernel
theorem dX5_force_36 : decode (z_c zX5_force) 36 = .ok (.istore 4, 2) := by decide +kernel
theorem dX5_force_38 : decode (z_c zX5_force) 38 = .ok (.iload 4, 2) := by decide +kernel
theorem dX5_force_40 : decode (z_c zX5_force) 40 = .ok (.aload_n 0, 1) := by decide +kernel
theorem dX5_force_41 : decode (z_c zX5_force) 41 = .ok (.getfield 66, 3) := by decide +kernel
theorem dX5_force_44 : decode (z_c zX5_force) 44 = .ok (.if_icmp .ge 23, 3) := by decide +kernel
theorem dX5_force_47 : decode (z_c zX5_force) 47 = .ok (.aload_n 0, 1) := by decide +kernel
theorem dX5_force_48 : decode (z_c zX5_force) 48 = .ok (.iload 4, 2) := by decide +kernel
theorem dX5_force_50 : decode (z_c zX5_force) 50 = .ok (.invokevirtual 156, 3) := by decide +kernel
theorem dX5_force_53 : decode (z_c zX5_force) 53 = .ok (.aload_n 0, 1) := by decide +kernel
theorem dX5_force_54 : decode (z_c zX5_force) 54 = .ok (.iload 4, 2) := by decide +kernel
theorem dX5_force_56 : decode (z_c zX5_force) 56 = .ok (.iload_n 2, 1) := by decide +kernel
theorem dX5_force_57 : decode (z_c zX5_force) 57 = .ok (.iload_n 3, 1) := by decide +kernel
theorem dX5_force_58 : decode (z_c zX5_force) 58 = .ok (.invokevirtual 159, 3) := by decide +kernel
theorem dX5_force_61 : decode (z_c zX5_force) 61 = .ok (.iinc 4 1, 3) := by decide +kernel
theorem dX5_force_64 : decode (z_c zX5_force) 64 = .ok (.goto (-26), 3) := by decide +kernel
theorem dX5_force_67 : decode (z_c zX5_force) 67 = .ok (.iload_n 3, 1) := by decide +kernel
theorem dX5_force_68 : decode (z_c zX5_force) 68 = .ok (.ifCond .le 18, 3) := by decide +kernel
theorem dX5_force_71 : decode (z_c zX5_force) 71 = .ok (.aload_n 0, 1) := by decide +kernel
theorem dX5_force_72 : decode (z_c zX5_force) 72 = .ok (.aload_n 0, 1) := by decide +kernel
theorem dX5_force_73 : decode (z_c zX5_force) 73 = .ok (.getfield 66, 3) := by decide +kernel
theorem dX5_force_76 : decode (z_c zX5_force) 76 = .ok (.invokevirtual 156, 3) := by decide +kernel
theorem dX5_force_79 : decode (z_c zX5_force) 79 = .ok (.aload_n 0, 1) := by decide +kernel
theorem dX5_force_80 : decode (z_c zX5_force) 80 = .ok (.aload_n 1, 1) := by decide +kernel
theorem dX5_force_81 : decode (z_c zX5_force) 81 = .ok (.iload_n 2, 1) := by decide +kernel
theorem dX5_force_82 : decode (z_c zX5_force) 82 = .ok (.iload_n 3, 1) := by decide +kernel
theorem dX5_force_83 : decode (z_c zX5_force) 83 = .ok (.invokevirtual 163, 3) := by decide +kernel
theorem dX5_force_86 : decode (z_c zX5_force) 86 = .ok (.return_, 1) := by decide +kernel
theorem dX5_forcePart_0 : decode (z_c zX5_forcePart) 0 = .ok (.aload_n 0, 1) := by decide +kernel
theorem dX5_forcePart_1 : decode (z_c zX5_forcePart) 1 = .ok (.getfield 41, 3) := by decide +kernel
theorem dX5_forcePart_4 : decode (z_c zX5_forcePart) 4 = .ok (.iload_n 1, 1) := by decide +kernel
theorem dX5_forcePart_5 : decode (z_c zX5_forcePart) 5 = .ok (.iaload, 1) := by decide +kernel
theorem dX5_forcePart_6 : decode (z_c zX5_forcePart) 6 = .ok (.istore 4, 2) := by decide +kernel
theorem dX5_forcePart_8 : decode (z_c zX5_forcePart) 8 = .ok (.iload 4, 2) := by decide +kernel
theorem dX5_forcePart_10 : decode (z_c zX5_forcePart) 10 = .ok (.aload_n 0, 1) := by decide +kernel
theorem dX5_forcePart_11 : decode (z_c zX5_forcePart) 11 = .ok (.getfield 41, 3) := by decide +kernel
theorem dX5_forcePart_14 : decode (z_c zX5_forcePart) 14 = .ok (.iload_n 1, 1) := by decide +kernel
theorem dX5_forcePart_15 : decode (z_c zX5_forcePart) 15 = .ok (.iconst 1, 1) := by decide +kernel
theorem dX5_forcePart_16 : decode (z_c zX5_forcePart) 16 = .ok (.iadd, 1) := by decide +kernel
theorem dX5_forcePart_17 : decode (z_c zX5_forcePart) 17 = .ok (.iaload, 1) := by decide +kernel
theorem dX5_forcePart_18 : decode (z_c zX5_forcePart) 18 = .ok (.if_icmp .ge 37, 3) := by decide +kernel
theorem dX5_forcePart_21 : decode (z_c zX5_forcePart) 21 = .ok (.aload_n 0, 1) := by decide +kernel
theorem dX5_forcePart_22 : decode (z_c zX5_forcePart) 22 = .ok (.getfield 12, 3) := by decide +kernel
theorem dX5_forcePart_25 : decode (z_c zX5_forcePart) 25 = .ok (.aload_n 0, 1) := by decide +kernel
theorem dX5_forcePart_26 : decode (z_c zX5_forcePart) 26 = .ok (.getfield 37, 3) := by decide +kernel
theorem dX5_forcePart_29 : decode (z_c zX5_forcePart) 29 = .ok (.iload 4, 2) := by decide +kernel
theorem dX5_forcePart_31 : decode (z_c zX5_forcePart) 31 = .ok (.iaload, 1) := by decide +kernel
theorem dX5_forcePart_32 : decode (z_c zX5_forcePart) 32 = .ok (.invokevirtual 99, 3) := by decide +kernel
theorem dX5_forcePart_35 : decode (z_c zX5_forcePart) 35 = .ok (.aload_n 0, 1) := by decide +kernel
theorem dX5_forcePart_36 : decode (z_c zX5_forcePart) 36 = .ok (.getfield 18, 3) := by decide +kernel
theorem dX5_forcePart_39 : decode (z_c zX5_forcePart) 39 = .ok (.aload_n 0, 1) := by decide +kernel
theorem dX5_forcePart_40 : decode (z_c zX5_forcePart) 40 = .ok (.getfield 37, 3) := by decide +kernel
theorem dX5_forcePart_43 : decode (z_c zX5_forcePart) 43 = .ok (.iload 4, 2) := by decide +kernel
theorem dX5_forcePart_45 : decode (z_c zX5_forcePart) 45 = .ok (.iaload, 1) := by decide +kernel
theorem dX5_forcePart_46 : decode (z_c zX5_forcePart) 46 = .ok (.invokevirtual 99, 3) := by decide +kernel
theorem dX5_forcePart_49 : decode (z_c zX5_forcePart) 49 = .ok (.iinc 4 1, 3) := by decide +kernel
theorem dX5_forcePart_52 : decode (z_c zX5_forcePart) 52 = .ok (.goto (-44), 3) := by decide +kernel
theorem dX5_forcePart_55 : decode (z_c zX5_forcePart) 55 = .ok (.iconst 0, 1) := by decide +kernel
theorem dX5_forcePart_56 : decode (z_c zX5_forcePart) 56 = .ok (.istore 4, 2) := by decide +kernel
theorem dX5_forcePart_58 : decode (z_c zX5_forcePart) 58 = .ok (.iload 4, 2) := by decide +kernel
theorem dX5_forcePart_60 : decode (z_c zX5_forcePart) 60 = .ok (.bipush 13, 2) := by decide +kernel
theorem dX5_forcePart_62 : decode (z_c zX5_forcePart) 62 = .ok (.if_icmp .ge 130, 3) := by decide +kernel
theorem dX5_forcePart_65 : decode (z_c zX5_forcePart) 65 = .ok (.aload_n 0, 1) := by decide +kernel
theorem dX5_forcePart_66 : decode (z_c zX5_forcePart) 66 = .ok (.getfield 47, 3) := by decide +kernel
theorem dX5_forcePart_69 : decode (z_c zX5_forcePart) 69 = .ok (.iload_n 1, 1) := by decide +kernel
theorem dX5_forcePart_70 : decode (z_c zX5_forcePart) 70 = .ok (.bipush 13, 2) := by decide +kernel
theorem dX5_forcePart_72 : decode (z_c zX5_forcePart) 72 = .ok (.imul, 1) := by decide +kernel
theorem dX5_forcePart_73 : decode (z_c zX5_forcePart) 73 = .ok (.iload 4, 2) := by decide +kernel
theorem dX5_forcePart_75 : decode (z_c zX5_forcePart) 75 = .ok (.iadd, 1) := by decide +kernel
theorem dX5_forcePart_76 : decode (z_c zX5_forcePart) 76 = .ok (.iaload, 1) := by decide +kernel
theorem dX5_forcePart_77 : decode (z_c zX5_forcePart) 77 = .ok (.istore 5, 2) := by decide +kernel
theorem dX5_forcePart_79 : decode (z_c zX5_forcePart) 79 = .ok (.iload 5, 2) := by decide +kernel
theorem dX5_forcePart_81 : decode (z_c zX5_forcePart) 81 = .ok (.ifCond .eq 105, 3) := by decide +kernel
theorem dX5_forcePart_84 : decode (z_c zX5_forcePart) 84 = .ok (.aload_n 0, 1) := by decide +kernel
theorem dX5_forcePart_85 : decode (z_c zX5_forcePart) 85 = .ok (.iload_n 2, 1) := by decide +kernel
theorem dX5_forcePart_86 : decode (z_c zX5_forcePart) 86 = .ok (.iload 4, 2) := by decide +kernel
theorem dX5_forcePart_88 : decode (z_c zX5_forcePart) 88 = .ok (.isub, 1) := by decide +kernel
theorem dX5_forcePart_89 : decode (z_c zX5_forcePart) 89 = .ok (.iload_n 3, 1) := by decide +kernel
theorem dX5_forcePart_90 : decode (z_c zX5_forcePart) 90 = .ok (.invokevirtual 167, 3) := by decide +kernel
theorem dX5_forcePart_93 : decode (z_c zX5_forcePart) 93 = .ok (.ifCond .ne 6, 3) := by decide +kernel
theorem dX5_forcePart_96 : decode (z_c zX5_forcePart) 96 = .ok (.goto 90, 3) := by decide +kernel
theorem dX5_forcePart_99 : decode (z_c zX5_forcePart) 99 = .ok (.aload_n 0, 1) := by decide +kernel
theorem dX5_forcePart_100 : decode (z_c zX5_forcePart) 100 = .ok (.getfield 41, 3) := by decide +kernel
theorem dX5_forcePart_103 : decode (z_c zX5_forcePart) 103 = .ok (.iload_n 1, 1) := by decide +kernel
theorem dX5_forcePart_104 : decode (z_c zX5_forcePart) 104 = .ok (.iaload, 1) := by decide +kernel
theorem dX5_forcePart_105 : decode (z_c zX5_forcePart) 105 = .ok (.istore 6, 2) := by decide +kernel
theorem dX5_forcePart_107 : decode (z_c zX5_forcePart) 107 = .ok (.iload 6, 2) := by decide +kernel
theorem dX5_forcePart_109 : decode (z_c zX5_forcePart) 109 = .ok (.aload_n 0, 1) := by decide +kernel
theorem dX5_forcePart_110 : decode (z_c zX5_forcePart) 110 = .ok (.getfield 41, 3) := by decide +kernel
theorem dX5_forcePart_113 : decode (z_c zX5_forcePart) 113 = .ok (.iload_n 1, 1) := by decide +kernel
theorem dX5_forcePart_114 : decode (z_c zX5_forcePart) 114 = .ok (.iconst 1, 1) := by decide +kernel
theorem dX5_forcePart_115 : decode (z_c zX5_forcePart) 115 = .ok (.iadd, 1) := by decide +kernel
theorem dX5_forcePart_116 : decode (z_c zX5_forcePart) 116 = .ok (.iaload, 1) := by decide +kernel
theorem dX5_forcePart_117 : decode (z_c zX5_forcePart) 117 = .ok (.if_icmp .ge 69, 3) := by decide +kernel
theorem dX5_forcePart_120 : decode (z_c zX5_forcePart) 120 = .ok (.aload_n 0, 1) := by decide +kernel
theorem dX5_forcePart_121 : decode (z_c zX5_forcePart) 121 = .ok (.getfield 50, 3) := by decide +kernel
theorem dX5_forcePart_124 : decode (z_c zX5_forcePart) 124 = .ok (.aload_n 0, 1) := by decide +kernel
theorem dX5_forcePart_125 : decode (z_c zX5_forcePart) 125 = .ok (.getfield 37, 3) := by decide +kernel
theorem dX5_forcePart_128 : decode (z_c zX5_forcePart) 128 = .ok (.iload 6, 2) := by decide +kernel
theorem dX5_forcePart_130 : decode (z_c zX5_forcePart) 130 = .ok (.iaload, 1) := by decide +kernel
theorem dX5_forcePart_131 : decode (z_c zX5_forcePart) 131 = .ok (.bipush 13, 2) := by decide +kernel
theorem dX5_forcePart_133 : decode (z_c zX5_forcePart) 133 = .ok (.imul, 1) := by decide +kernel
theorem dX5_forcePart_134 : decode (z_c zX5_forcePart) 134 = .ok (.iload 4, 2) := by decide +kernel
theorem dX5_forcePart_136 : decode (z_c zX5_forcePart) 136 = .ok (.iadd, 1) := by decide +kernel
theorem dX5_forcePart_137 : decode (z_c zX5_forcePart) 137 = .ok (.iaload, 1) := by decide +kernel
theorem dX5_forcePart_138 : decode (z_c zX5_forcePart) 138 = .ok (.istore 7, 2) := by decide +kernel
theorem dX5_forcePart_140 : decode (z_c zX5_forcePart) 140 = .ok (.iload 7, 2) := by decide +kernel
theorem dX5_forcePart_142 : decode (z_c zX5_forcePart) 142 = .ok (.ifCond .le 17, 3) := by decide +kernel
theorem dX5_forcePart_145 : decode (z_c zX5_forcePart) 145 = .ok (.aload_n 0, 1) := by decide +kernel
theorem dX5_forcePart_146 : decode (z_c zX5_forcePart) 146 = .ok (.getfield 18, 3) := by decide +kernel
theorem dX5_forcePart_149 : decode (z_c zX5_forcePart) 149 = .ok (.aload_n 0, 1) := by decide +kernel
theorem dX5_forcePart_150 : decode (z_c zX5_forcePart) 150 = .ok (.getfield 37, 3) := by decide +kernel
theorem dX5_forcePart_153 : decode (z_c zX5_forcePart) 153 = .ok (.iload 6, 2) := by decide +kernel
theorem dX5_forcePart_155 : decode (z_c zX5_forcePart) 155 = .ok (.iaload, 1) := by decide +kernel
theorem dX5_forcePart_156 : decode (z_c zX5_forcePart) 156 = .ok (.invokevirtual 171, 3) := by decide +kernel
theorem dX5_forcePart_159 : decode (z_c zX5_forcePart) 159 = .ok (.iload 7, 2) := by decide +kernel
theorem dX5_forcePart_161 : decode (z_c zX5_forcePart) 161 = .ok (.iload 5, 2) := by decide +kernel
theorem dX5_forcePart_163 : decode (z_c zX5_forcePart) 163 = .ok (.if_icmp .ge 17, 3) := by decide +kernel
theorem dX5_forcePart_166 : decode (z_c zX5_forcePart) 166 = .ok (.aload_n 0, 1) := by decide +kernel
theorem dX5_forcePart_167 : decode (z_c zX5_forcePart) 167 = .ok (.getfield 12, 3) := by decide +kernel
theorem dX5_forcePart_170 : decode (z_c zX5_forcePart) 170 = .ok (.aload_n 0, 1) := by decide +kernel
theorem dX5_forcePart_171 : decode (z_c zX5_forcePart) 171 = .ok (.getfield 37, 3) := by decide +kernel
theorem dX5_forcePart_174 : decode (z_c zX5_forcePart) 174 = .ok (.iload 6, 2) := by decide +kernel
theorem dX5_forcePart_176 : decode (z_c zX5_forcePart) 176 = .ok (.iaload, 1) := by decide +kernel
theorem dX5_forcePart_177 : decode (z_c zX5_forcePart) 177 = .ok (.invokevirtual 171, 3) := by decide +kernel
theorem dX5_forcePart_180 : decode (z_c zX5_forcePart) 180 = .ok (.iinc 6 1, 3) := by decide +kernel
theorem dX5_forcePart_183 : decode (z_c zX5_forcePart) 183 = .ok (.goto (-76), 3) := by decide +kernel
theorem dX5_forcePart_186 : decode (z_c zX5_forcePart) 186 = .ok (.iinc 4 1, 3) := by decide +kernel
theorem dX5_forcePart_189 : decode (z_c zX5_forcePart) 189 = .ok (.goto (-131), 3) := by decide +kernel
theorem dX5_forcePart_192 : decode (z_c zX5_forcePart) 192 = .ok (.return_, 1) := by decide +kernel
theorem dX5_forceLoose_0 : decode (z_c zX5_forceLoose) 0 = .ok (.aload_n 0, 1) := by decide +kernel
theorem dX5_forceLoose_1 : decode (z_c zX5_forceLoose) 1 = .ok (.getfield 34, 3) := by decide +kernel
theorem dX5_forceLoose_4 : decode (z_c zX5_forceLoose) 4 = .ok (.astore 4, 2) := by decide +kernel
theorem dX5_forceLoose_6 : decode (z_c zX5_forceLoose) 6 = .ok (.aload 4, 2) := by decide +kernel
theorem dX5_forceLoose_8 : decode (z_c zX5_forceLoose) 8 = .ok (.aload_n 1, 1) := by decide +kernel
theorem dX5_forceLoose_9 : decode (z_c zX5_forceLoose) 9 = .ok (.getfield 81, 3) := by decide +kernel
theorem dX5_forceLoose_12 : decode (z_c zX5_forceLoose) 12 = .ok (.invokevirtual 174, 3) := by decide +kernel
theorem dX5_forceLoose_15 : decode (z_c zX5_forceLoose) 15 = .ok (.aload 4, 2) := by decide +kernel
theorem dX5_forceLoose_17 : decode (z_c zX5_forceLoose) 17 = .ok (.aload_n 0, 1) := by decide +kernel
theorem dX5_forceLoose_18 : decode (z_c zX5_forceLoose) 18 = .ok (.getfield 28, 3) := by decide +kernel
theorem dX5_forceLoose_21 : decode (z_c zX5_forceLoose) 21 = .ok (.invokevirtual 178, 3) := by decide +kernel
theorem dX5_forceLoose_24 : decode (z_c zX5_forceLoose) 24 = .ok (.aload_n 0, 1) := by decide +kernel
theorem dX5_forceLoose_25 : decode (z_c zX5_forceLoose) 25 = .ok (.iload_n 2, 1) := by decide +kernel
theorem dX5_forceLoose_26 : decode (z_c zX5_forceLoose) 26 = .ok (.iconst 1, 1) := by decide +kernel
theorem dX5_forceLoose_27 : decode (z_c zX5_forceLoose) 27 = .ok (.isub, 1) := by decide +kernel
theorem dX5_forceLoose_28 : decode (z_c zX5_forceLoose) 28 = .ok (.iload_n 3, 1) := by decide +kernel
theorem dX5_forceLoose_29 : decode (z_c zX5_forceLoose) 29 = .ok (.iconst 1, 1) := by decide +kernel
theorem dX5_forceLoose_30 : decode (z_c zX5_forceLoose) 30 = .ok (.isub, 1) := by decide +kernel
theorem dX5_forceLoose_31 : decode (z_c zX5_forceLoose) 31 = .ok (.invokevirtual 167, 3) := by decide +kernel
theorem dX5_forceLoose_34 : decode (z_c zX5_forceLoose) 34 = .ok (.ifCond .ne 12, 3) := by decide +kernel
theorem dX5_forceLoose_37 : decode (z_c zX5_forceLoose) 37 = .ok (.aload_n 0, 1) := by decide +kernel
theorem dX5_forceLoose_38 : decode (z_c zX5_forceLoose) 38 = .ok (.getfield 18, 3) := by decide +kernel
theorem dX5_forceLoose_41 : decode (z_c zX5_forceLoose) 41 = .ok (.aload 4, 2) := by decide +kernel
theorem dX5_forceLoose_43 : decode (z_c zX5_forceLoose) 43 = .ok (.invokevirtual 181, 3) := by decide +kernel
theorem dX5_forceLoose_46 : decode (z_c zX5_forceLoose) 46 = .ok (.aload_n 0, 1) := by decide +kernel
theorem dX5_forceLoose_47 : decode (z_c zX5_forceLoose) 47 = .ok (.iload_n 2, 1) := by decide +kernel
theorem dX5_forceLoose_48 : decode (z_c zX5_forceLoose) 48 = .ok (.iload_n 3, 1) := by decide +kernel
theorem dX5_forceLoose_49 : decode (z_c zX5_forceLoose) 49 = .ok (.iconst 1, 1) := by decide +kernel
theorem dX5_forceLoose_50 : decode (z_c zX5_forceLoose) 50 = .ok (.isub, 1) := by decide +kernel
theorem dX5_forceLoose_51 : decode (z_c zX5_forceLoose) 51 = .ok (.invokevirtual 167, 3) := by decide +kernel
theorem dX5_forceLoose_54 : decode (z_c zX5_forceLoose) 54 = .ok (.ifCond .ne 12, 3) := by decide +kernel
theorem dX5_forceLoose_57 : decode (z_c zX5_forceLoose) 57 = .ok (.aload_n 0, 1) := by decide +kernel
theorem dX5_forceLoose_58 : decode (z_c zX5_forceLoose) 58 = .ok (.getfield 12, 3) := by decide +kernel
theorem dX5_forceLoose_61 : decode (z_c zX5_forceLoose) 61 = .ok (.aload 4, 2) := by decide +kernel
theorem dX5_forceLoose_63 : decode (z_c zX5_forceLoose) 63 = .ok (.invokevirtual 181, 3) := by decide +kernel
theorem dX5_forceLoose_66 : decode (z_c zX5_forceLoose) 66 = .ok (.return_, 1) := by decide +kernel
theorem dX5_sumWithout_0 : decode (z_c zX5_sumWithout) 0 = .ok (.aload_n 0, 1) := by decide +kernel
theorem dX5_sumWithout_1 : decode (z_c zX5_sumWithout) 1 = .ok (.getfield 31, 3) := by decide +kernel
theorem dX5_sumWithout_4 : decode (z_c zX5_sumWithout) 4 = .ok (.invokevirtual 63, 3) := by decide +kernel
theorem dX5_sumWithout_7 : decode (z_c zX5_sumWithout) 7 = .ok (.aload_n 0, 1) := by decide +kernel
theorem dX5_sumWithout_8 : decode (z_c zX5_sumWithout) 8 = .ok (.getfield 31, 3) := by decide +kernel
theorem dX5_sumWithout_11 : decode (z_c zX5_sumWithout) 11 = .ok (.iconst 0, 1) := by decide +kernel
theorem dX5_sumWithout_12 : decode (z_c zX5_sumWithout) 12 = .ok (.invokevirtual 99, 3) := by decide +kernel
theorem dX5_sumWithout_15 : decode (z_c zX5_sumWithout) 15 = .ok (.iconst 0, 1) := by decide +kernel
theorem dX5_sumWithout_16 : decode (z_c zX5_sumWithout) 16 = .ok (.istore_n 2, 1) := by decide +kernel
theorem dX5_sumWithout_17 : decode (z_c zX5_sumWithout) 17 = .ok (.iload_n 2, 1) := by decide +kernel
theorem dX5_sumWithout_18 : decode (z_c zX5_sumWithout) 18 = .ok (.aload_n 0, 1) := by decide +kernel
theorem dX5_sumWithout_19 : decode (z_c zX5_sumWithout) 19 = .ok (.getfield 66, 3) := by decide +kernel
theorem dX5_sumWithout_22 : decode (z_c zX5_sumWithout) 22 = .ok (.if_icmp .ge 75, 3) := by decide +kernel
theorem dX5_sumWithout_25 : decode (z_c zX5_sumWithout) 25 = .ok (.iload_n 2, 1) := by decide +kernel
theorem dX5_sumWithout_26 : decode (z_c zX5_sumWithout) 26 = .ok (.iload_n 1, 1) := by decide +kernel
theorem dX5_sumWithout_27 : decode (z_c zX5_sumWithout) 27 = .ok (.if_icmp .ne 6, 3) := by decide +kernel
theorem dX5_sumWithout_30 : decode (z_c zX5_sumWithout) 30 = .ok (.goto 61, 3) := by decide +kernel
theorem dX5_sumWithout_33 : decode (z_c zX5_sumWithout) 33 = .ok (.aload_n 0, 1) := by decide +kernel
theorem dX5_sumWithout_34 : decode (z_c zX5_sumWithout) 34 = .ok (.getfield 34, 3) := by decide +kernel
theorem dX5_sumWithout_37 : decode (z_c zX5_sumWithout) 37 = .ok (.invokevirtual 63, 3) := by decide +kernel
theorem dX5_sumWithout_40 : decode (z_c zX5_sumWithout) 40 = .ok (.iconst 0, 1) := by decide +kernel
theorem dX5_sumWithout_41 : decode (z_c zX5_sumWithout) 41 = .ok (.istore_n 3, 1) := by decide +kernel
theorem dX5_sumWithout_42 : decode (z_c zX5_sumWithout) 42 = .ok (.iload_n 3, 1) := by decide +kernel
theorem dX5_sumWithout_43 : decode (z_c zX5_sumWithout) 43 = .ok (.bipush 13, 2) := by decide +kernel
theorem dX5_sumWithout_45 : decode (z_c zX5_sumWithout) 45 = .ok (.if_icmp .ge 35, 3) := by decide +kernel
theorem dX5_sumWithout_48 : decode (z_c zX5_sumWithout) 48 = .ok (.aload_n 0, 1) := by decide +kernel
theorem dX5_sumWithout_49 : decode (z_c zX5_sumWithout) 49 = .ok (.getfield 47, 3) := by decide +kernel
theorem dX5_sumWithout_52 : decode (z_c zX5_sumWithout) 52 = .ok (.iload_n 2, 1) := by decide +kernel
theorem dX5_sumWithout_53 : decode (z_c zX5_sumWithout) 53 = .ok (.bipush 13, 2) := by decide +kernel
theorem dX5_sumWithout_55 : decode (z_c zX5_sumWithout) 55 = .ok (.imul, 1) := by decide +kernel
theorem dX5_sumWithout_56 : decode (z_c zX5_sumWithout) 56 = .ok (.iload_n 3, 1) := by decide +kernel
theorem dX5_sumWithout_57 : decode (z_c zX5_sumWithout) 57 = .ok (.iadd, 1) := by decide +kernel
theorem dX5_sumWithout_58 : decode (z_c zX5_sumWithout) 58 = .ok (.iaload, 1) := by decide +kernel
theorem dX5_sumWithout_59 : decode (z_c zX5_sumWithout) 59 = .ok (.ifCond .le 15, 3) := by decide +kernel
theorem dX5_sumWithout_62 : decode (z_c zX5_sumWithout) 62 = .ok (.aload_n 0, 1) := by decide +kernel
theorem dX5_sumWithout_63 : decode (z_c zX5_sumWithout) 63 = .ok (.getfield 34, 3) := by decide +kernel
theorem dX5_sumWithout_66 : decode (z_c zX5_sumWithout) 66 = .ok (.aload_n 0, 1) := by decide +kernel
theorem dX5_sumWithout_67 : decode (z_c zX5_sumWithout) 67 = .ok (.getfield 31, 3) := by decide +kernel
theorem dX5_sumWithout_70 : decode (z_c zX5_sumWithout) 70 = .ok (.iload_n 3, 1) := by decide +kernel
theorem dX5_sumWithout_71 : decode (z_c zX5_sumWithout) 71 = .ok (.invokevirtual 184, 3) := by decide +kernel
theorem dX5_sumWithout_74 : decode (z_c zX5_sumWithout) 74 = .ok (.iinc 3 1, 3) := by decide +kernel
theorem dX5_sumWithout_77 : decode (z_c zX5_sumWithout) 77 = .ok (.goto (-35), 3) := by decide +kernel
theorem dX5_sumWithout_80 : decode (z_c zX5_sumWithout) 80 = .ok (.aload_n 0, 1) := by decide +kernel
theorem dX5_sumWithout_81 : decode (z_c zX5_sumWithout) 81 = .ok (.getfield 31, 3) := by decide +kernel
theorem dX5_sumWithout_84 : decode (z_c zX5_sumWithout) 84 = .ok (.aload_n 0, 1) := by decide +kernel
theorem dX5_sumWithout_85 : decode (z_c zX5_sumWithout) 85 = .ok (.getfield 34, 3) := by decide +kernel
theorem dX5_sumWithout_88 : decode (z_c zX5_sumWithout) 88 = .ok (.invokevirtual 174, 3) := by decide +kernel
theorem dX5_sumWithout_91 : decode (z_c zX5_sumWithout) 91 = .ok (.iinc 2 1, 3) := by decide +kernel
theorem dX5_sumWithout_94 : decode (z_c zX5_sumWithout) 94 = .ok (.goto (-77), 3) := by decide +kernel
theorem dX5_sumWithout_97 : decode (z_c zX5_sumWithout) 97 = .ok (.return_, 1) := by decide +kernel
theorem dX5_reaches_0 : decode (z_c zX5_reaches) 0 = .ok (.iconst 0, 1) := by decide +kernel
theorem dX5_reaches_1 : decode (z_c zX5_reaches) 1 = .ok (.iload_n 1, 1) := by decide +kernel
theorem dX5_reaches_2 : decode (z_c zX5_reaches) 2 = .ok (.iload_n 2, 1) := by decide +kernel
theorem dX5_reaches_3 : decode (z_c zX5_reaches) 3 = .ok (.isub, 1) := by decide +kernel
theorem dX5_reaches_4 : decode (z_c zX5_reaches) 4 = .ok (.invokestatic 188, 3) := by decide +kernel
theorem dX5_reaches_7 : decode (z_c zX5_reaches) 7 = .ok (.istore_n 3, 1) := by decide +kernel
theorem dX5_reaches_8 : decode (z_c zX5_reaches) 8 = .ok (.iload_n 3, 1) := by decide +kernel
theorem dX5_reaches_9 : decode (z_c zX5_reaches) 9 = .ok (.iload_n 1, 1) := by decide +kernel
theorem dX5_reaches_10 : decode (z_c zX5_reaches) 10 = .ok (.if_icmp .gt 28, 3) := by decide +kernel
theorem dX5_reaches_13 : decode (z_c zX5_reaches) 13 = .ok (.iload_n 3, 1) := by decide +kernel
theorem dX5_reaches_14 : decode (z_c zX5_reaches) 14 = .ok (.bipush 100, 2) := by decide +kernel
theorem dX5_reaches_16 : decode (z_c zX5_reaches) 16 = .ok (.if_icmp .gt 22, 3) := by decide +kernel
theorem dX5_reaches_19 : decode (z_c zX5_reaches) 19 = .ok (.aload_n 0, 1) := by decide +kernel
theorem dX5_reaches_20 : decode (z_c zX5_reaches) 20 = .ok (.getfield 31, 3) := by decide +kernel
theorem dX5_reaches_23 : decode (z_c zX5_reaches) 23 = .ok (.iload_n 3, 1) := by decide +kernel
theorem dX5_reaches_24 : decode (z_c zX5_reaches) 24 = .ok (.invokevirtual 84, 3) := by decide +kernel
theorem dX5_reaches_27 : decode (z_c zX5_reaches) 27 = .ok (.ifCond .eq 5, 3) := by decide +kernel
theorem dX5_reaches_30 : decode (z_c zX5_reaches) 30 = .ok (.iconst 1, 1) := by decide +kernel
theorem dX5_reaches_31 : decode (z_c zX5_reaches) 31 = .ok (.ireturn, 1) := by decide +kernel
theorem dX5_reaches_32 : decode (z_c zX5_reaches) 32 = .ok (.iinc 3 1, 3) := by decide +kernel
theorem dX5_reaches_35 : decode (z_c zX5_reaches) 35 = .ok (.goto (-27), 3) := by decide +kernel
theorem dX5_reaches_38 : decode (z_c zX5_reaches) 38 = .ok (.iconst 0, 1) := by decide +kernel
theorem dX5_reaches_39 : decode (z_c zX5_reaches) 39 = .ok (.ireturn, 1) := by decide +kernel
theorem dX5_countAll_0 : decode (z_c zX5_countAll) 0 = .ok (.aload_n 0, 1) := by decide +kernel
theorem dX5_countAll_1 : decode (z_c zX5_countAll) 1 = .ok (.aload_n 0, 1) := by decide +kernel
theorem dX5_countAll_2 : decode (z_c zX5_countAll) 2 = .ok (.getfield 66, 3) := by decide +kernel
theorem dX5_countAll_5 : decode (z_c zX5_countAll) 5 = .ok (.invokevirtual 193, 3) := by decide +kernel
theorem dX5_countAll_8 : decode (z_c zX5_countAll) 8 = .ok (.aload_n 0, 1) := by decide +kernel
theorem dX5_countAll_9 : decode (z_c zX5_countAll) 9 = .ok (.aload_n 1, 1) := by decide +kernel
theorem dX5_countAll_10 : decode (z_c zX5_countAll) 10 = .ok (.getfield 81, 3) := by decide +kernel
theorem dX5_countAll_13 : decode (z_c zX5_countAll) 13 = .ok (.invokevirtual 153, 3) := by decide +kernel
theorem dX5_countAll_16 : decode (z_c zX5_countAll) 16 = .ok (.aload_n 0, 1) := by decide +kernel
theorem dX5_countAll_17 : decode (z_c zX5_countAll) 17 = .ok (.getfield 28, 3) := by decide +kernel
theorem dX5_countAll_20 : decode (z_c zX5_countAll) 20 = .ok (.invokevirtual 153, 3) := by decide +kernel
theorem dX5_countAll_23 : decode (z_c zX5_countAll) 23 = .ok (.isub, 1) := by decide +kernel
theorem dX5_countAll_24 : decode (z_c zX5_countAll) 24 = .ok (.invokevirtual 196, 3) := by decide +kernel
theorem dX5_countAll_27 : decode (z_c zX5_countAll) 27 = .ok (.aload_n 0, 1) := by decide +kernel
theorem dX5_countAll_28 : decode (z_c zX5_countAll) 28 = .ok (.aload_n 1, 1) := by decide +kernel
theorem dX5_countAll_29 : decode (z_c zX5_countAll) 29 = .ok (.invokevirtual 149, 3) := by decide +kernel
theorem dX5_countAll_32 : decode (z_c zX5_countAll) 32 = .ok (.invokevirtual 199, 3) := by decide +kernel
theorem dX5_countAll_35 : decode (z_c zX5_countAll) 35 = .ok (.l2i, 1) := by decide +kernel
theorem dX5_countAll_36 : decode (z_c zX5_countAll) 36 = .ok (.ireturn, 1) := by decide +kernel
theorem dX5_countHolding_0 : decode (z_c zX5_countHolding) 0 = .ok (.aload_n 1, 1) := by decide +kernel
theorem dX5_countHolding_1 : decode (z_c zX5_countHolding) 1 = .ok (.getfield 81, 3) := by decide +kernel
theorem dX5_countHolding_4 : decode (z_c zX5_countHolding) 4 = .ok (.invokevirtual 153, 3) := by decide +kernel
theorem dX5_countHolding_7 : decode (z_c zX5_countHolding) 7 = .ok (.aload_n 0, 1) := by decide +kernel
theorem dX5_countHolding_8 : decode (z_c zX5_countHolding) 8 = .ok (.getfield 28, 3) := by decide +kernel
theorem dX5_countHolding_11 : decode (z_c zX5_countHolding) 11 = .ok (.invokevirtual 153, 3) := by decide +kernel
theorem dX5_countHolding_14 : decode (z_c zX5_countHolding) 14 = .ok (.isub, 1) := by decide +kernel
theorem dX5_countHolding_15 : decode (z_c zX5_countHolding) 15 = .ok (.istore_n 3, 1) := by decide +kernel
theorem dX5_countHolding_16 : decode (z_c zX5_countHolding) 16 = .ok (.aload_n 1, 1) := by decide +kernel
theorem dX5_countHolding_17 : decode (z_c zX5_countHolding) 17 = .ok (.invokevirtual 149, 3) := by decide +kernel
theorem dX5_countHolding_20 : decode (z_c zX5_countHolding) 20 = .ok (.istore 4, 2) := by decide +kernel
theorem dX5_countHolding_22 : decode (z_c zX5_countHolding) 22 = .ok (.aload_n 0, 1) := by decide +kernel
theorem dX5_countHolding_23 : decode (z_c zX5_countHolding) 23 = .ok (.getfield 28, 3) := by decide +kernel
theorem dX5_countHolding_26 : decode (z_c zX5_countHolding) 26 = .ok (.iload_n 2, 1) := by decide +kernel
theorem dX5_countHolding_27 : decode (z_c zX5_countHolding) 27 = .ok (.invokevirtual 84, 3) := by decide +kernel
theorem dX5_countHolding_30 : decode (z_c zX5_countHolding) 30 = .ok (.ifCond .ne 28, 3) := by decide +kernel
theorem dX5_countHolding_33 : decode (z_c zX5_countHolding) 33 = .ok (.aload_n 0, 1) := by decide +kernel
theorem dX5_countHolding_34 : decode (z_c zX5_countHolding) 34 = .ok (.aload_n 0, 1) := by decide +kernel
theorem dX5_countHolding_35 : decode (z_c zX5_countHolding) 35 = .ok (.getfield 66, 3) := by decide +kernel
theorem dX5_countHolding_38 : decode (z_c zX5_countHolding) 38 = .ok (.invokevirtual 193, 3) := by decide +kernel
theorem dX5_countHolding_41 : decode (z_c zX5_countHolding) 41 = .ok (.aload_n 0, 1) := by decide +kernel
theorem dX5_countHolding_42 : decode (z_c zX5_countHolding) 42 = .ok (.iload_n 3, 1) := by decide +kernel
theorem dX5_countHolding_43 : decode (z_c zX5_countHolding) 43 = .ok (.iconst 1, 1) := by decide +kernel
theorem dX5_countHolding_44 : decode (z_c zX5_countHolding) 44 = .ok (.isub, 1) := by decide +kernel
theorem dX5_countHolding_45 : decode (z_c zX5_countHolding) 45 = .ok (.invokevirtual 196, 3) := by decide +kernel
theorem dX5_countHolding_48 : decode (z_c zX5_countHolding) 48 = .ok (.aload_n 0, 1) := by decide +kernel
theorem dX5_countHolding_49 : decode (z_c zX5_countHolding) 49 = .ok (.iload 4, 2) := by decide +kernel
theorem dX5_countHolding_51 : decode (z_c zX5_countHolding) 51 = .ok (.iconst 1, 1) := by decide +kernel
theorem dX5_countHolding_52 : decode (z_c zX5_countHolding) 52 = .ok (.isub, 1) := by decide +kernel
theorem dX5_countHolding_53 : decode (z_c zX5_countHolding) 53 = .ok (.invokevirtual 199, 3) := by decide +kernel
theorem dX5_countHolding_56 : decode (z_c zX5_countHolding) 56 = .ok (.l2i, 1) := by decide +kernel
theorem dX5_countHolding_57 : decode (z_c zX5_countHolding) 57 = .ok (.ireturn, 1) := by decide +kernel
theorem dX5_countHolding_58 : decode (z_c zX5_countHolding) 58 = .ok (.aload_n 0, 1) := by decide +kernel
theorem dX5_countHolding_59 : decode (z_c zX5_countHolding) 59 = .ok (.aload_n 0, 1) := by decide +kernel
theorem dX5_countHolding_60 : decode (z_c zX5_countHolding) 60 = .ok (.getfield 44, 3) := by decide +kernel
theorem dX5_countHolding_63 : decode (z_c zX5_countHolding) 63 = .ok (.iload_n 2, 1) := by decide +kernel
theorem dX5_countHolding_64 : decode (z_c zX5_countHolding) 64 = .ok (.iaload, 1) := by decide +kernel
theorem dX5_countHolding_65 : decode (z_c zX5_countHolding) 65 = .ok (.invokevirtual 193, 3) := by decide +kernel
theorem dX5_countHolding_68 : decode (z_c zX5_countHolding) 68 = .ok (.aload_n 0, 1) := by decide +kernel
theorem dX5_countHolding_69 : decode (z_c zX5_countHolding) 69 = .ok (.iload_n 3, 1) := by decide +kernel
theorem dX5_countHolding_70 : decode (z_c zX5_countHolding) 70 = .ok (.invokevirtual 196, 3) := by decide +kernel
theorem dX5_countHolding_73 : decode (z_c zX5_countHolding) 73 = .ok (.lconst 0, 1) := by decide +kernel
theorem dX5_countHolding_74 : decode (z_c zX5_countHolding) 74 = .ok (.lstore 5, 2) := by decide +kernel
theorem dX5_countHolding_76 : decode (z_c zX5_countHolding) 76 = .ok (.iconst 0, 1) := by decide +kernel
theorem dX5_countHolding_77 : decode (z_c zX5_countHolding) 77 = .ok (.istore 7, 2) := by decide +kernel
theorem dX5_countHolding_79 : decode (z_c zX5_countHolding) 79 = .ok (.iload 7, 2) := by decide +kernel
theorem dX5_countHolding_81 : decode (z_c zX5_countHolding) 81 = .ok (.bipush 13, 2) := by decide +kernel
theorem dX5_countHolding_83 : decode (z_c zX5_countHolding) 83 = .ok (.if_icmp .ge 50, 3) := by decide +kernel
theorem dX5_countHolding_86 : decode (z_c zX5_countHolding) 86 = .ok (.aload_n 0, 1) := by decide +kernel
theorem dX5_countHolding_87 : decode (z_c zX5_countHolding) 87 = .ok (.getfield 50, 3) := by decide +kernel
theorem dX5_countHolding_90 : decode (z_c zX5_countHolding) 90 = .ok (.iload_n 2, 1) := by decide +kernel
theorem dX5_countHolding_91 : decode (z_c zX5_countHolding) 91 = .ok (.bipush 13, 2) := by decide +kernel
theorem dX5_countHolding_93 : decode (z_c zX5_countHolding) 93 = .ok (.imul, 1) := by decide +kernel
theorem dX5_countHolding_94 : decode (z_c zX5_countHolding) 94 = .ok (.iload 7, 2) := by decide +kernel
theorem dX5_countHolding_96 : decode (z_c zX5_countHolding) 96 = .ok (.iadd, 1) := by decide +kernel
theorem dX5_countHolding_97 : decode (z_c zX5_countHolding) 97 = .ok (.iaload, 1) := by decide +kernel
theorem dX5_countHolding_98 : decode (z_c zX5_countHolding) 98 = .ok (.istore 8, 2) := by decide +kernel
theorem dX5_countHolding_100 : decode (z_c zX5_countHolding) 100 = .ok (.iload 8, 2) := by decide +kernel
theorem dX5_countHolding_102 : decode (z_c zX5_countHolding) 102 = .ok (.ifCond .le 25, 3) := by decide +kernel
theorem dX5_countHolding_105 : decode (z_c zX5_countHolding) 105 = .ok (.lload 5, 2) := by decide +kernel
theorem dX5_countHolding_107 : decode (z_c zX5_countHolding) 107 = .ok (.iload 8, 2) := by decide +kernel
theorem dX5_countHolding_109 : decode (z_c zX5_countHolding) 109 = .ok (.i2l, 1) := by decide +kernel
theorem dX5_countHolding_110 : decode (z_c zX5_countHolding) 110 = .ok (.aload_n 0, 1) := by decide +kernel
theorem dX5_countHolding_111 : decode (z_c zX5_countHolding) 111 = .ok (.iload 4, 2) := by decide +kernel
theorem dX5_countHolding_113 : decode (z_c zX5_countHolding) 113 = .ok (.iload 7, 2) := by decide +kernel
theorem dX5_countHolding_115 : decode (z_c zX5_countHolding) 115 = .ok (.isub, 1) := by decide +kernel
theorem dX5_countHolding_116 : decode (z_c zX5_countHolding) 116 = .ok (.invokevirtual 199, 3) := by decide +kernel
theorem dX5_countHolding_119 : decode (z_c zX5_countHolding) 119 = .ok (.lmul, 1) := by decide +kernel
theorem dX5_countHolding_120 : decode (z_c zX5_countHolding) 120 = .ok (.ladd, 1) := by decide +kernel
theorem dX5_countHolding_121 : decode (z_c zX5_countHolding) 121 = .ok (.ldc2_w 203, 3) := by decide +kernel
theorem dX5_countHolding_124 : decode (z_c zX5_countHolding) 124 = .ok (.lrem, 1) := by decide +kernel
theorem dX5_countHolding_125 : decode (z_c zX5_countHolding) 125 = .ok (.lstore 5, 2) := by decide +kernel
theorem dX5_countHolding_127 : decode (z_c zX5_countHolding) 127 = .ok (.iinc 7 1, 3) := by decide +kernel
theorem dX5_countHolding_130 : decode (z_c zX5_countHolding) 130 = .ok (.goto (-51), 3) := by decide +kernel
theorem dX5_countHolding_133 : decode (z_c zX5_countHolding) 133 = .ok (.lload 5, 2) := by decide +kernel
theorem dX5_countHolding_135 : decode (z_c zX5_countHolding) 135 = .ok (.l2i, 1) := by decide +kernel
theorem dX5_countHolding_136 : decode (z_c zX5_countHolding) 136 = .ok (.ireturn, 1) := by decide +kernel
theorem dX5_countWithout_0 : decode (z_c zX5_countWithout) 0 = .ok (.aload_n 0, 1) := by decide +kernel
theorem dX5_countWithout_1 : decode (z_c zX5_countWithout) 1 = .ok (.getfield 53, 3) := by decide +kernel
theorem dX5_countWithout_4 : decode (z_c zX5_countWithout) 4 = .ok (.invokestatic 205, 3) := by decide +kernel
theorem dX5_countWithout_7 : decode (z_c zX5_countWithout) 7 = .ok (.iconst 0, 1) := by decide +kernel
theorem dX5_countWithout_8 : decode (z_c zX5_countWithout) 8 = .ok (.istore_n 2, 1) := by decide +kernel
theorem dX5_countWithout_9 : decode (z_c zX5_countWithout) 9 = .ok (.iload_n 2, 1) := by decide +kernel
theorem dX5_countWithout_10 : decode (z_c zX5_countWithout) 10 = .ok (.aload_n 0, 1) := by decide +kernel
theorem dX5_countWithout_11 : decode (z_c zX5_countWithout) 11 = .ok (.getfield 66, 3) := by decide +kernel
theorem dX5_countWithout_14 : decode (z_c zX5_countWithout) 14 = .ok (.if_icmp .ge 126, 3) := by decide +kernel
theorem dX5_countWithout_17 : decode (z_c zX5_countWithout) 17 = .ok (.iload_n 2, 1) := by decide +kernel
theorem dX5_countWithout_18 : decode (z_c zX5_countWithout) 18 = .ok (.iload_n 1, 1) := by decide +kernel
theorem dX5_countWithout_19 : decode (z_c zX5_countWithout) 19 = .ok (.if_icmp .ne 6, 3) := by decide +kernel
theorem dX5_countWithout_22 : decode (z_c zX5_countWithout) 22 = .ok (.goto 112, 3) := by decide +kernel
theorem dX5_countWithout_25 : decode (z_c zX5_countWithout) 25 = .ok (.iconst 0, 1) := by decide +kernel
theorem dX5_countWithout_26 : decode (z_c zX5_countWithout) 26 = .ok (.istore_n 3, 1) := by decide +kernel
theorem dX5_countWithout_27 : decode (z_c zX5_countWithout) 27 = .ok (.iload_n 3, 1) := by decide +kernel
theorem dX5_countWithout_28 : decode (z_c zX5_countWithout) 28 = .ok (.bipush 100, 2) := by decide +kernel
theorem dX5_countWithout_30 : decode (z_c zX5_countWithout) 30 = .ok (.if_icmp .gt 21, 3) := by decide +kernel
theorem dX5_countWithout_33 : decode (z_c zX5_countWithout) 33 = .ok (.aload_n 0, 1) := by decide +kernel
theorem dX5_countWithout_34 : decode (z_c zX5_countWithout) 34 = .ok (.getfield 57, 3) := by decide +kernel
theorem dX5_countWithout_37 : decode (z_c zX5_countWithout) 37 = .ok (.iload_n 3, 1) := by decide +kernel
theorem dX5_countWithout_38 : decode (z_c zX5_countWithout) 38 = .ok (.aload_n 0, 1) := by decide +kernel
theorem dX5_countWithout_39 : decode (z_c zX5_countWithout) 39 = .ok (.getfield 53, 3) := by decide +kernel
theorem dX5_countWithout_42 : decode (z_c zX5_countWithout) 42 = .ok (.iload_n 3, 1) := by decide +kernel
theorem dX5_countWithout_43 : decode (z_c zX5_countWithout) 43 = .ok (.laload, 1) := by decide +kernel
theorem dX5_countWithout_44 : decode (z_c zX5_countWithout) 44 = .ok (.lastore, 1) := by decide +kernel
theorem dX5_countWithout_45 : decode (z_c zX5_countWithout) 45 = .ok (.iinc 3 1, 3) := by decide +kernel
theorem dX5_countWithout_48 : decode (z_c zX5_countWithout) 48 = .ok (.goto (-21), 3) := by decide +kernel
theorem dX5_countWithout_51 : decode (z_c zX5_countWithout) 51 = .ok (.iconst 0, 1) := by decide +kernel
theorem dX5_countWithout_52 : decode (z_c zX5_countWithout) 52 = .ok (.istore_n 3, 1) := by decide +kernel
theorem dX5_countWithout_53 : decode (z_c zX5_countWithout) 53 = .ok (.iload_n 3, 1) := by decide +kernel
theorem dX5_countWithout_54 : decode (z_c zX5_countWithout) 54 = .ok (.bipush 100, 2) := by decide +kernel
theorem dX5_countWithout_56 : decode (z_c zX5_countWithout) 56 = .ok (.if_icmp .gt 78, 3) := by decide +kernel
theorem dX5_countWithout_59 : decode (z_c zX5_countWithout) 59 = .ok (.lconst 0, 1) := by decide +kernel
theorem dX5_countWithout_60 : decode (z_c zX5_countWithout) 60 = .ok (.lstore 4, 2) := by decide +kernel
theorem dX5_countWithout_62 : decode (z_c zX5_countWithout) 62 = .ok (.iconst 0, 1) := by decide +kernel
theorem dX5_countWithout_63 : decode (z_c zX5_countWithout) 63 = .ok (.istore 6, 2) := by decide +kernel
theorem dX5_countWithout_65 : decode (z_c zX5_countWithout) 65 = .ok (.iload 6, 2) := by decide +kernel
theorem dX5_countWithout_67 : decode (z_c zX5_countWithout) 67 = .ok (.bipush 13, 2) := by decide +kernel
theorem dX5_countWithout_69 : decode (z_c zX5_countWithout) 69 = .ok (.if_icmp .ge 47, 3) := by decide +kernel
theorem dX5_countWithout_72 : decode (z_c zX5_countWithout) 72 = .ok (.iload 6, 2) := by decide +kernel
theorem dX5_countWithout_74 : decode (z_c zX5_countWithout) 74 = .ok (.iload_n 3, 1) := by decide +kernel
theorem dX5_countWithout_75 : decode (z_c zX5_countWithout) 75 = .ok (.if_icmp .gt 41, 3) := by decide +kernel
theorem dX5_countWithout_78 : decode (z_c zX5_countWithout) 78 = .ok (.lload 4, 2) := by decide +kernel
theorem dX5_countWithout_80 : decode (z_c zX5_countWithout) 80 = .ok (.aload_n 0, 1) := by decide +kernel
theorem dX5_countWithout_81 : decode (z_c zX5_countWithout) 81 = .ok (.getfield 57, 3) := by decide +kernel
theorem dX5_countWithout_84 : decode (z_c zX5_countWithout) 84 = .ok (.iload_n 3, 1) := by decide +kernel
theorem dX5_countWithout_85 : decode (z_c zX5_countWithout) 85 = .ok (.iload 6, 2) := by decide +kernel
theorem dX5_countWithout_87 : decode (z_c zX5_countWithout) 87 = .ok (.isub, 1) := by decide +kernel
theorem dX5_countWithout_88 : decode (z_c zX5_countWithout) 88 = .ok (.laload, 1) := by decide +kernel
theorem dX5_countWithout_89 : decode (z_c zX5_countWithout) 89 = .ok (.aload_n 0, 1) := by decide +kernel
theorem dX5_countWithout_90 : decode (z_c zX5_countWithout) 90 = .ok (.getfield 47, 3) := by decide +kernel
theorem dX5_countWithout_93 : decode (z_c zX5_countWithout) 93 = .ok (.iload_n 2, 1) := by decide +kernel
theorem dX5_countWithout_94 : decode (z_c zX5_countWithout) 94 = .ok (.bipush 13, 2) := by decide +kernel
theorem dX5_countWithout_96 : decode (z_c zX5_countWithout) 96 = .ok (.imul, 1) := by decide +kernel
theorem dX5_countWithout_97 : decode (z_c zX5_countWithout) 97 = .ok (.iload 6, 2) := by decide +kernel
theorem dX5_countWithout_99 : decode (z_c zX5_countWithout) 99 = .ok (.iadd, 1) := by decide +kernel
theorem dX5_countWithout_100 : decode (z_c zX5_countWithout) 100 = .ok (.iaload, 1) := by decide +kernel
theorem dX5_countWithout_101 : decode (z_c zX5_countWithout) 101 = .ok (.i2l, 1) := by decide +kernel
theorem dX5_countWithout_102 : decode (z_c zX5_countWithout) 102 = .ok (.lmul, 1) := by decide +kernel
theorem dX5_countWithout_103 : decode (z_c zX5_countWithout) 103 = .ok (.ldc2_w 203, 3) := by decide +kernel
theorem dX5_countWithout_106 : decode (z_c zX5_countWithout) 106 = .ok (.lrem, 1) := by decide +kernel
theorem dX5_countWithout_107 : decode (z_c zX5_countWithout) 107 = .ok (.ladd, 1) := by decide +kernel
theorem dX5_countWithout_108 : decode (z_c zX5_countWithout) 108 = .ok (.lstore 4, 2) := by decide +kernel
theorem dX5_countWithout_110 : decode (z_c zX5_countWithout) 110 = .ok (.iinc 6 1, 3) := by decide +kernel
theorem dX5_countWithout_113 : decode (z_c zX5_countWithout) 113 = .ok (.goto (-48), 3) := by decide +kernel
theorem dX5_countWithout_116 : decode (z_c zX5_countWithout) 116 = .ok (.aload_n 0, 1) := by decide +kernel
theorem dX5_countWithout_117 : decode (z_c zX5_countWithout) 117 = .ok (.getfield 53, 3) := by decide +kernel
theorem dX5_countWithout_120 : decode (z_c zX5_countWithout) 120 = .ok (.iload_n 3, 1) := by decide +kernel
theorem dX5_countWithout_121 : decode (z_c zX5_countWithout) 121 = .ok (.lload 4, 2) := by decide +kernel
theorem dX5_countWithout_123 : decode (z_c zX5_countWithout) 123 = .ok (.ldc2_w 203, 3) := by decide +kernel
theorem dX5_countWithout_126 : decode (z_c zX5_countWithout) 126 = .ok (.lrem, 1) := by decide +kernel
theorem dX5_countWithout_127 : decode (z_c zX5_countWithout) 127 = .ok (.lastore, 1) := by decide +kernel
theorem dX5_countWithout_128 : decode (z_c zX5_countWithout) 128 = .ok (.iinc 3 1, 3) := by decide +kernel
theorem dX5_countWithout_131 : decode (z_c zX5_countWithout) 131 = .ok (.goto (-78), 3) := by decide +kernel
theorem dX5_countWithout_134 : decode (z_c zX5_countWithout) 134 = .ok (.iinc 2 1, 3) := by decide +kernel
theorem dX5_countWithout_137 : decode (z_c zX5_countWithout) 137 = .ok (.goto (-128), 3) := by decide +kernel
theorem dX5_countWithout_140 : decode (z_c zX5_countWithout) 140 = .ok (.return_, 1) := by decide +kernel
theorem dX5_chooseFrom_0 : decode (z_c zX5_chooseFrom) 0 = .ok (.aload_n 0, 1) := by decide +kernel
theorem dX5_chooseFrom_1 : decode (z_c zX5_chooseFrom) 1 = .ok (.getfield 60, 3) := by decide +kernel
theorem dX5_chooseFrom_4 : decode (z_c zX5_chooseFrom) 4 = .ok (.invokestatic 205, 3) := by decide +kernel
theorem dX5_chooseFrom_7 : decode (z_c zX5_chooseFrom) 7 = .ok (.iconst 1, 1) := by decide +kernel
theorem dX5_chooseFrom_8 : decode (z_c zX5_chooseFrom) 8 = .ok (.istore_n 2, 1) := by decide +kernel
theorem dX5_chooseFrom_9 : decode (z_c zX5_chooseFrom) 9 = .ok (.iload_n 2, 1) := by decide +kernel
theorem dX5_chooseFrom_10 : decode (z_c zX5_chooseFrom) 10 = .ok (.iload_n 1, 1) := by decide +kernel
theorem dX5_chooseFrom_11 : decode (z_c zX5_chooseFrom) 11 = .ok (.if_icmp .gt 53, 3) := by decide +kernel
theorem dX5_chooseFrom_14 : decode (z_c zX5_chooseFrom) 14 = .ok (.iload_n 2, 1) := by decide +kernel
theorem dX5_chooseFrom_15 : decode (z_c zX5_chooseFrom) 15 = .ok (.bipush 100, 2) := by decide +kernel
theorem dX5_chooseFrom_17 : decode (z_c zX5_chooseFrom) 17 = .ok (.if_icmp .gt 47, 3) := by decide +kernel
theorem dX5_chooseFrom_20 : decode (z_c zX5_chooseFrom) 20 = .ok (.iload_n 2, 1) := by decide +kernel
theorem dX5_chooseFrom_21 : decode (z_c zX5_chooseFrom) 21 = .ok (.istore_n 3, 1) := by decide +kernel
theorem dX5_chooseFrom_22 : decode (z_c zX5_chooseFrom) 22 = .ok (.iload_n 3, 1) := by decide +kernel
theorem dX5_chooseFrom_23 : decode (z_c zX5_chooseFrom) 23 = .ok (.iconst 1, 1) := by decide +kernel
theorem dX5_chooseFrom_24 : decode (z_c zX5_chooseFrom) 24 = .ok (.if_icmp .lt 34, 3) := by decide +kernel
theorem dX5_chooseFrom_27 : decode (z_c zX5_chooseFrom) 27 = .ok (.aload_n 0, 1) := by decide +kernel
theorem dX5_chooseFrom_28 : decode (z_c zX5_chooseFrom) 28 = .ok (.getfield 60, 3) := by decide +kernel
theorem dX5_chooseFrom_31 : decode (z_c zX5_chooseFrom) 31 = .ok (.iload_n 3, 1) := by decide +kernel
theorem dX5_chooseFrom_32 : decode (z_c zX5_chooseFrom) 32 = .ok (.aload_n 0, 1) := by decide +kernel
theorem dX5_chooseFrom_33 : decode (z_c zX5_chooseFrom) 33 = .ok (.getfield 60, 3) := by decide +kernel
theorem dX5_chooseFrom_36 : decode (z_c zX5_chooseFrom) 36 = .ok (.iload_n 3, 1) := by decide +kernel
theorem dX5_chooseFrom_37 : decode (z_c zX5_chooseFrom) 37 = .ok (.laload, 1) := by decide +kernel
theorem dX5_chooseFrom_38 : decode (z_c zX5_chooseFrom) 38 = .ok (.aload_n 0, 1) := by decide +kernel
theorem dX5_chooseFrom_39 : decode (z_c zX5_chooseFrom) 39 = .ok (.getfield 60, 3) := by decide +kernel
theorem dX5_chooseFrom_42 : decode (z_c zX5_chooseFrom) 42 = .ok (.iload_n 3, 1) := by decide +kernel
theorem dX5_chooseFrom_43 : decode (z_c zX5_chooseFrom) 43 = .ok (.iconst 1, 1) := by decide +kernel
theorem dX5_chooseFrom_44 : decode (z_c zX5_chooseFrom) 44 = .ok (.isub, 1) := by decide +kernel
theorem dX5_chooseFrom_45 : decode (z_c zX5_chooseFrom) 45 = .ok (.laload, 1) := by decide +kernel
theorem dX5_chooseFrom_46 : decode (z_c zX5_chooseFrom) 46 = .ok (.ladd, 1) := by decide +kernel
theorem dX5_chooseFrom_47 : decode (z_c zX5_chooseFrom) 47 = .ok (.ldc2_w 203, 3) := by decide +kernel
theorem dX5_chooseFrom_50 : decode (z_c zX5_chooseFrom) 50 = .ok (.lrem, 1) := by decide +kernel
theorem dX5_chooseFrom_51 : decode (z_c zX5_chooseFrom) 51 = .ok (.lastore, 1) := by decide +kernel
theorem dX5_chooseFrom_52 : decode (z_c zX5_chooseFrom) 52 = .ok (.iinc 3 (-1), 3) := by decide +kernel
theorem dX5_chooseFrom_55 : decode (z_c zX5_chooseFrom) 55 = .ok (.goto (-33), 3) := by decide +kernel
theorem dX5_chooseFrom_58 : decode (z_c zX5_chooseFrom) 58 = .ok (.iinc 2 1, 3) := by decide +kernel
theorem dX5_chooseFrom_61 : decode (z_c zX5_chooseFrom) 61 = .ok (.goto (-52), 3) := by decide +kernel
theorem dX5_chooseFrom_64 : decode (z_c zX5_chooseFrom) 64 = .ok (.return_, 1) := by decide +kernel
theorem dX5_startRow_0 : decode (z_c zX5_startRow) 0 = .ok (.iconst 0, 1) := by decide +kernel
theorem dX5_startRow_1 : decode (z_c zX5_startRow) 1 = .ok (.istore_n 1, 1) := by decide +kernel
theorem dX5_startRow_2 : decode (z_c zX5_startRow) 2 = .ok (.iload_n 1, 1) := by decide +kernel
theorem dX5_startRow_3 : decode (z_c zX5_startRow) 3 = .ok (.aload_n 0, 1) := by decide +kernel
theorem dX5_startRow_4 : decode (z_c zX5_startRow) 4 = .ok (.arraylength, 1) := by decide +kernel
theorem dX5_startRow_5 : decode (z_c zX5_startRow) 5 = .ok (.if_icmp .ge 21, 3) := by decide +kernel
theorem dX5_startRow_8 : decode (z_c zX5_startRow) 8 = .ok (.aload_n 0, 1) := by decide +kernel
theorem dX5_startRow_9 : decode (z_c zX5_startRow) 9 = .ok (.iload_n 1, 1) := by decide +kernel
theorem dX5_startRow_10 : decode (z_c zX5_startRow) 10 = .ok (.iload_n 1, 1) := by decide +kernel
theorem dX5_startRow_11 : decode (z_c zX5_startRow) 11 = .ok (.ifCond .ne 7, 3) := by decide +kernel
theorem dX5_startRow_14 : decode (z_c zX5_startRow) 14 = .ok (.lconst 1, 1) := by decide +kernel
theorem dX5_startRow_15 : decode (z_c zX5_startRow) 15 = .ok (.goto 4, 3) := by decide +kernel
theorem dX5_startRow_18 : decode (z_c zX5_startRow) 18 = .ok (.lconst 0, 1) := by decide +kernel
theorem dX5_startRow_19 : decode (z_c zX5_startRow) 19 = .ok (.lastore, 1) := by decide +kernel
theorem dX5_startRow_20 : decode (z_c zX5_startRow) 20 = .ok (.iinc 1 1, 3) := by decide +kernel
theorem dX5_startRow_23 : decode (z_c zX5_startRow) 23 = .ok (.goto (-21), 3) := by decide +kernel
theorem dX5_startRow_26 : decode (z_c zX5_startRow) 26 = .ok (.return_, 1) := by decide +kernel
theorem dX5_fill_0 : decode (z_c zX5_fill) 0 = .ok (.lconst 0, 1) := by decide +kernel
theorem dX5_fill_1 : decode (z_c zX5_fill) 1 = .ok (.lstore_n 2, 1) := by decide +kernel
theorem dX5_fill_2 : decode (z_c zX5_fill) 2 = .ok (.iconst 0, 1) := by decide +kernel
theorem dX5_fill_3 : decode (z_c zX5_fill) 3 = .ok (.istore 4, 2) := by decide +kernel
theorem dX5_fill_5 : decode (z_c zX5_fill) 5 = .ok (.iload 4, 2) := by decide +kernel
theorem dX5_fill_7 : decode (z_c zX5_fill) 7 = .ok (.iload_n 1, 1) := by decide +kernel
theorem dX5_fill_8 : decode (z_c zX5_fill) 8 = .ok (.if_icmp .gt 39, 3) := by decide +kernel
theorem dX5_fill_11 : decode (z_c zX5_fill) 11 = .ok (.iload_n 1, 1) := by decide +kernel
theorem dX5_fill_12 : decode (z_c zX5_fill) 12 = .ok (.bipush 100, 2) := by decide +kernel
theorem dX5_fill_14 : decode (z_c zX5_fill) 14 = .ok (.if_icmp .gt 33, 3) := by decide +kernel
theorem dX5_fill_17 : decode (z_c zX5_fill) 17 = .ok (.lload_n 2, 1) := by decide +kernel
theorem dX5_fill_18 : decode (z_c zX5_fill) 18 = .ok (.aload_n 0, 1) := by decide +kernel
theorem dX5_fill_19 : decode (z_c zX5_fill) 19 = .ok (.getfield 53, 3) := by decide +kernel
theorem dX5_fill_22 : decode (z_c zX5_fill) 22 = .ok (.iload 4, 2) := by decide +kernel
theorem dX5_fill_24 : decode (z_c zX5_fill) 24 = .ok (.laload, 1) := by decide +kernel
theorem dX5_fill_25 : decode (z_c zX5_fill) 25 = .ok (.aload_n 0, 1) := by decide +kernel
theorem dX5_fill_26 : decode (z_c zX5_fill) 26 = .ok (.getfield 60, 3) := by decide +kernel
theorem dX5_fill_29 : decode (z_c zX5_fill) 29 = .ok (.iload_n 1, 1) := by decide +kernel
theorem dX5_fill_30 : decode (z_c zX5_fill) 30 = .ok (.iload 4, 2) := by decide +kernel
theorem dX5_fill_32 : decode (z_c zX5_fill) 32 = .ok (.isub, 1) := by decide +kernel
theorem dX5_fill_33 : decode (z_c zX5_fill) 33 = .ok (.laload, 1) := by decide +kernel
theorem dX5_fill_34 : decode (z_c zX5_fill) 34 = .ok (.lmul, 1) := by decide +kernel
theorem dX5_fill_35 : decode (z_c zX5_fill) 35 = .ok (.ladd, 1) := by decide +kernel
theorem dX5_fill_36 : decode (z_c zX5_fill) 36 = .ok (.ldc2_w 203, 3) := by decide +kernel
theorem dX5_fill_39 : decode (z_c zX5_fill) 39 = .ok (.lrem, 1) := by decide +kernel
theorem dX5_fill_40 : decode (z_c zX5_fill) 40 = .ok (.lstore_n 2, 1) := by decide +kernel
theorem dX5_fill_41 : decode (z_c zX5_fill) 41 = .ok (.iinc 4 1, 3) := by decide +kernel
theorem dX5_fill_44 : decode (z_c zX5_fill) 44 = .ok (.goto (-39), 3) := by decide +kernel
theorem dX5_fill_47 : decode (z_c zX5_fill) 47 = .ok (.lload_n 2, 1) := by decide +kernel
theorem dX5_fill_48 : decode (z_c zX5_fill) 48 = .ok (.lreturn, 1) := by decide +kernel
theorem dX5_studyTold_0 : decode (z_c zX5_studyTold) 0 = .ok (.aload_n 0, 1) := by decide +kernel
theorem dX5_studyTold_1 : decode (z_c zX5_studyTold) 1 = .ok (.getfield 28, 3) := by decide +kernel
theorem dX5_studyTold_4 : decode (z_c zX5_studyTold) 4 = .ok (.invokevirtual 63, 3) := by decide +kernel
theorem dX5_studyTold_7 : decode (z_c zX5_studyTold) 7 = .ok (.aload_n 0, 1) := by decide +kernel
theorem dX5_studyTold_8 : decode (z_c zX5_studyTold) 8 = .ok (.getfield 28, 3) := by decide +kernel
theorem dX5_studyTold_11 : decode (z_c zX5_studyTold) 11 = .ok (.iload_n 3, 1) := by decide +kernel
theorem dX5_studyTold_12 : decode (z_c zX5_studyTold) 12 = .ok (.invokevirtual 99, 3) := by decide +kernel
theorem dX5_studyTold_15 : decode (z_c zX5_studyTold) 15 = .ok (.aload_n 0, 1) := by decide +kernel
theorem dX5_studyTold_16 : decode (z_c zX5_studyTold) 16 = .ok (.getfield 24, 3) := by decide +kernel
theorem dX5_studyTold_19 : decode (z_c zX5_studyTold) 19 = .ok (.invokevirtual 127, 3) := by decide +kernel
theorem dX5_studyTold_22 : decode (z_c zX5_studyTold) 22 = .ok (.aload_n 0, 1) := by decide +kernel
theorem dX5_studyTold_23 : decode (z_c zX5_studyTold) 23 = .ok (.getfield 24, 3) := by decide +kernel
theorem dX5_studyTold_26 : decode (z_c zX5_studyTold) 26 = .ok (.iload_n 3, 1) := by decide +kernel
theorem dX5_studyTold_27 : decode (z_c zX5_studyTold) 27 = .ok (.invokevirtual 128, 3) := by decide +kernel
theorem dX5_studyTold_30 : decode (z_c zX5_studyTold) 30 = .ok (.pop, 1) := by decide +kernel
theorem dX5_studyTold_31 : decode (z_c zX5_studyTold) 31 = .ok (.iconst 0, 1) := by decide +kernel
theorem dX5_studyTold_32 : decode (z_c zX5_studyTold) 32 = .ok (.istore 4, 2) := by decide +kernel
theorem dX5_studyTold_34 : decode (z_c zX5_studyTold) 34 = .ok (.iload 4, 2) := by decide +kernel
theorem dX5_studyTold_36 : decode (z_c zX5_studyTold) 36 = .ok (.aload_n 1, 1) := by decide +kernel
theorem dX5_studyTold_37 : decode (z_c zX5_studyTold) 37 = .ok (.getfield 70, 3) := by decide +kernel
theorem dX5_studyTold_40 : decode (z_c zX5_studyTold) 40 = .ok (.getfield 76, 3) := by decide +kernel
theorem dX5_studyTold_43 : decode (z_c zX5_studyTold) 43 = .ok (.if_icmp .ge 42, 3) := by decide +kernel
theorem dX5_studyTold_46 : decode (z_c zX5_studyTold) 46 = .ok (.aload_n 2, 1) := by decide +kernel
theorem dX5_studyTold_47 : decode (z_c zX5_studyTold) 47 = .ok (.iload 4, 2) := by decide +kernel
theorem dX5_studyTold_49 : decode (z_c zX5_studyTold) 49 = .ok (.invokevirtual 84, 3) := by decide +kernel
theorem dX5_studyTold_52 : decode (z_c zX5_studyTold) 52 = .ok (.ifCond .eq 27, 3) := by decide +kernel
theorem dX5_studyTold_55 : decode (z_c zX5_studyTold) 55 = .ok (.aload_n 1, 1) := by decide +kernel
theorem dX5_studyTold_56 : decode (z_c zX5_studyTold) 56 = .ok (.getfield 88, 3) := by decide +kernel
theorem dX5_studyTold_59 : decode (z_c zX5_studyTold) 59 = .ok (.iload 4, 2) := by decide +kernel
theorem dX5_studyTold_61 : decode (z_c zX5_studyTold) 61 = .ok (.invokevirtual 84, 3) := by decide +kernel
theorem dX5_studyTold_64 : decode (z_c zX5_studyTold) 64 = .ok (.ifCond .eq 15, 3) := by decide +kernel
theorem dX5_studyTold_67 : decode (z_c zX5_studyTold) 67 = .ok (.aload_n 0, 1) := by decide +kernel
theorem dX5_studyTold_68 : decode (z_c zX5_studyTold) 68 = .ok (.aload_n 1, 1) := by decide +kernel
theorem dX5_studyTold_69 : decode (z_c zX5_studyTold) 69 = .ok (.iload 4, 2) := by decide +kernel
theorem dX5_studyTold_71 : decode (z_c zX5_studyTold) 71 = .ok (.invokevirtual 209, 3) := by decide +kernel
theorem dX5_studyTold_74 : decode (z_c zX5_studyTold) 74 = .ok (.ifCond .ne 5, 3) := by decide +kernel
theorem dX5_studyTold_77 : decode (z_c zX5_studyTold) 77 = .ok (.iconst 0, 1) := by decide +kernel
theorem dX5_studyTold_78 : decode (z_c zX5_studyTold) 78 = .ok (.ireturn, 1) := by decide +kernel
theorem dX5_studyTold_79 : decode (z_c zX5_studyTold) 79 = .ok (.iinc 4 1, 3) := by decide +kernel
theorem dX5_studyTold_82 : decode (z_c zX5_studyTold) 82 = .ok (.goto (-48), 3) := by decide +kernel
theorem dX5_studyTold_85 : decode (z_c zX5_studyTold) 85 = .ok (.aload_n 0, 1) := by decide +kernel
theorem dX5_studyTold_86 : decode (z_c zX5_studyTold) 86 = .ok (.getfield 31, 3) := by decide +kernel
theorem dX5_studyTold_89 : decode (z_c zX5_studyTold) 89 = .ok (.aload_n 2, 1) := by decide +kernel
theorem dX5_studyTold_90 : decode (z_c zX5_studyTold) 90 = .ok (.invokevirtual 174, 3) := by decide +kernel
theorem dX5_studyTold_93 : decode (z_c zX5_studyTold) 93 = .ok (.aload_n 0, 1) := by decide +kernel
theorem dX5_studyTold_94 : decode (z_c zX5_studyTold) 94 = .ok (.getfield 31, 3) := by decide +kernel
theorem dX5_studyTold_97 : decode (z_c zX5_studyTold) 97 = .ok (.aload_n 1, 1) := by decide +kernel
theorem dX5_studyTold_98 : decode (z_c zX5_studyTold) 98 = .ok (.getfield 88, 3) := by decide +kernel
theorem dX5_studyTold_101 : decode (z_c zX5_studyTold) 101 = .ok (.invokevirtual 213, 3) := by decide +kernel
theorem dX5_studyTold_104 : decode (z_c zX5_studyTold) 104 = .ok (.aload_n 0, 1) := by decide +kernel
theorem dX5_studyTold_105 : decode (z_c zX5_studyTold) 105 = .ok (.getfield 24, 3) := by decide +kernel
theorem dX5_studyTold_108 : decode (z_c zX5_studyTold) 108 = .ok (.aload_n 1, 1) := by decide +kernel
theorem dX5_studyTold_109 : decode (z_c zX5_studyTold) 109 = .ok (.aload_n 0, 1) := by decide +kernel
theorem dX5_studyTold_110 : decode (z_c zX5_studyTold) 110 = .ok (.getfield 31, 3) := by decide +kernel
theorem dX5_studyTold_113 : decode (z_c zX5_studyTold) 113 = .ok (.invokevirtual 131, 3) := by decide +kernel
theorem dX5_studyTold_116 : decode (z_c zX5_studyTold) 116 = .ok (.aload_n 0, 1) := by decide +kernel
theorem dX5_studyTold_117 : decode (z_c zX5_studyTold) 117 = .ok (.getfield 24, 3) := by decide +kernel
theorem dX5_studyTold_120 : decode (z_c zX5_studyTold) 120 = .ok (.invokevirtual 135, 3) := by decide +kernel
theorem dX5_studyTold_123 : decode (z_c zX5_studyTold) 123 = .ok (.iconst 1, 1) := by decide +kernel
theorem dX5_studyTold_124 : decode (z_c zX5_studyTold) 124 = .ok (.ireturn, 1) := by decide +kernel
theorem dX5_pushAround_0 : decode (z_c zX5_pushAround) 0 = .ok (.iconst 0, 1) := by decide +kernel
theorem dX5_pushAround_1 : decode (z_c zX5_pushAround) 1 = .ok (.istore_n 3, 1) := by decide +kernel
theorem dX5_pushAround_2 : decode (z_c zX5_pushAround) 2 = .ok (.iload_n 3, 1) := by decide +kernel
theorem dX5_pushAround_3 : decode (z_c zX5_pushAround) 3 = .ok (.aload_n 1, 1) := by decide +kernel
theorem dX5_pushAround_4 : decode (z_c zX5_pushAround) 4 = .ok (.getfield 70, 3) := by decide +kernel
theorem dX5_pushAround_7 : decode (z_c zX5_pushAround) 7 = .ok (.getfield 103, 3) := by decide +kernel
theorem dX5_pushAround_10 : decode (z_c zX5_pushAround) 10 = .ok (.iload_n 2, 1) := by decide +kernel
theorem dX5_pushAround_11 : decode (z_c zX5_pushAround) 11 = .ok (.iaload, 1) := by decide +kernel
theorem dX5_pushAround_12 : decode (z_c zX5_pushAround) 12 = .ok (.if_icmp .ge 72, 3) := by decide +kernel
theorem dX5_pushAround_15 : decode (z_c zX5_pushAround) 15 = .ok (.aload_n 1, 1) := by decide +kernel
theorem dX5_pushAround_16 : decode (z_c zX5_pushAround) 16 = .ok (.getfield 70, 3) := by decide +kernel
theorem dX5_pushAround_19 : decode (z_c zX5_pushAround) 19 = .ok (.getfield 106, 3) := by decide +kernel
theorem dX5_pushAround_22 : decode (z_c zX5_pushAround) 22 = .ok (.iload_n 2, 1) := by decide +kernel
theorem dX5_pushAround_23 : decode (z_c zX5_pushAround) 23 = .ok (.bipush 8, 2) := by decide +kernel
theorem dX5_pushAround_25 : decode (z_c zX5_pushAround) 25 = .ok (.imul, 1) := by decide +kernel
theorem dX5_pushAround_26 : decode (z_c zX5_pushAround) 26 = .ok (.iload_n 3, 1) := by decide +kernel
theorem dX5_pushAround_27 : decode (z_c zX5_pushAround) 27 = .ok (.iadd, 1) := by decide +kernel
theorem dX5_pushAround_28 : decode (z_c zX5_pushAround) 28 = .ok (.iaload, 1) := by decide +kernel
theorem dX5_pushAround_29 : decode (z_c zX5_pushAround) 29 = .ok (.istore 4, 2) := by decide +kernel
theorem dX5_pushAround_31 : decode (z_c zX5_pushAround) 31 = .ok (.aload_n 1, 1) := by decide +kernel
theorem dX5_pushAround_32 : decode (z_c zX5_pushAround) 32 = .ok (.getfield 81, 3) := by decide +kernel
theorem dX5_pushAround_35 : decode (z_c zX5_pushAround) 35 = .ok (.iload 4, 2) := by decide +kernel
theorem dX5_pushAround_37 : decode (z_c zX5_pushAround) 37 = .ok (.invokevirtual 84, 3) := by decide +kernel
theorem dX5_pushAround_40 : decode (z_c zX5_pushAround) 40 = .ok (.ifCond .eq 38, 3) := by decide +kernel
theorem dX5_pushAround_43 : decode (z_c zX5_pushAround) 43 = .ok (.aload_n 0, 1) := by decide +kernel
theorem dX5_pushAround_44 : decode (z_c zX5_pushAround) 44 = .ok (.getfield 28, 3) := by decide +kernel
theorem dX5_pushAround_47 : decode (z_c zX5_pushAround) 47 = .ok (.iload 4, 2) := by decide +kernel
theorem dX5_pushAround_49 : decode (z_c zX5_pushAround) 49 = .ok (.invokevirtual 84, 3) := by decide +kernel
theorem dX5_pushAround_52 : decode (z_c zX5_pushAround) 52 = .ok (.ifCond .ne 26, 3) := by decide +kernel
theorem dX5_pushAround_55 : decode (z_c zX5_pushAround) 55 = .ok (.aload_n 0, 1) := by decide +kernel
theorem dX5_pushAround_56 : decode (z_c zX5_pushAround) 56 = .ok (.getfield 28, 3) := by decide +kernel
theorem dX5_pushAround_59 : decode (z_c zX5_pushAround) 59 = .ok (.iload 4, 2) := by decide +kernel
theorem dX5_pushAround_61 : decode (z_c zX5_pushAround) 61 = .ok (.invokevirtual 99, 3) := by decide +kernel
theorem dX5_pushAround_64 : decode (z_c zX5_pushAround) 64 = .ok (.aload_n 0, 1) := by decide +kernel
theorem dX5_pushAround_65 : decode (z_c zX5_pushAround) 65 = .ok (.getfield 24, 3) := by decide +kernel
theorem dX5_pushAround_68 : decode (z_c zX5_pushAround) 68 = .ok (.iload 4, 2) := by decide +kernel
theorem dX5_pushAround_70 : decode (z_c zX5_pushAround) 70 = .ok (.invokevirtual 128, 3) := by decide +kernel
theorem dX5_pushAround_73 : decode (z_c zX5_pushAround) 73 = .ok (.ifCond .ne 5, 3) := by decide +kernel
theorem dX5_pushAround_76 : decode (z_c zX5_pushAround) 76 = .ok (.iconst 0, 1) := by decide +kernel
theorem dX5_pushAround_77 : decode (z_c zX5_pushAround) 77 = .ok (.ireturn, 1) := by decide +kernel
theorem dX5_pushAround_78 : decode (z_c zX5_pushAround) 78 = .ok (.iinc 3 1, 3) := by decide +kernel
theorem dX5_pushAround_81 : decode (z_c zX5_pushAround) 81 = .ok (.goto (-79), 3) := by decide +kernel
theorem dX5_pushAround_84 : decode (z_c zX5_pushAround) 84 = .ok (.iconst 1, 1) := by decide +kernel
theorem dX5_pushAround_85 : decode (z_c zX5_pushAround) 85 = .ok (.ireturn, 1) := by decide +kernel
theorem dX5_fitsOpposite_0 : decode (z_c zX5_fitsOpposite) 0 = .ok (.aload_n 1, 1) := by decide +kernel
theorem dX5_fitsOpposite_1 : decode (z_c zX5_fitsOpposite) 1 = .ok (.getfield 81, 3) := by decide +kernel
theorem dX5_fitsOpposite_4 : decode (z_c zX5_fitsOpposite) 4 = .ok (.invokevirtual 153, 3) := by decide +kernel
theorem dX5_fitsOpposite_7 : decode (z_c zX5_fitsOpposite) 7 = .ok (.aload_n 0, 1) := by decide +kernel
theorem dX5_fitsOpposite_8 : decode (z_c zX5_fitsOpposite) 8 = .ok (.getfield 24, 3) := by decide +kernel
theorem dX5_fitsOpposite_11 : decode (z_c zX5_fitsOpposite) 11 = .ok (.invokevirtual 216, 3) := by decide +kernel
theorem dX5_fitsOpposite_14 : decode (z_c zX5_fitsOpposite) 14 = .ok (.isub, 1) := by decide +kernel
theorem dX5_fitsOpposite_15 : decode (z_c zX5_fitsOpposite) 15 = .ok (.istore 4, 2) := by decide +kernel
theorem dX5_fitsOpposite_17 : decode (z_c zX5_fitsOpposite) 17 = .ok (.aload_n 1, 1) := by decide +kernel
theorem dX5_fitsOpposite_18 : decode (z_c zX5_fitsOpposite) 18 = .ok (.invokevirtual 149, 3) := by decide +kernel
theorem dX5_fitsOpposite_21 : decode (z_c zX5_fitsOpposite) 21 = .ok (.istore 5, 2) := by decide +kernel
theorem dX5_fitsOpposite_23 : decode (z_c zX5_fitsOpposite) 23 = .ok (.iconst 0, 1) := by decide +kernel
theorem dX5_fitsOpposite_24 : decode (z_c zX5_fitsOpposite) 24 = .ok (.istore 6, 2) := by decide +kernel
theorem dX5_fitsOpposite_26 : decode (z_c zX5_fitsOpposite) 26 = .ok (.iload 6, 2) := by decide +kernel
theorem dX5_fitsOpposite_28 : decode (z_c zX5_fitsOpposite) 28 = .ok (.aload_n 0, 1) := by decide +kernel
theorem dX5_fitsOpposite_29 : decode (z_c zX5_fitsOpposite) 29 = .ok (.getfield 24, 3) := by decide +kernel
theorem dX5_fitsOpposite_32 : decode (z_c zX5_fitsOpposite) 32 = .ok (.invokevirtual 216, 3) := by decide +kernel
theorem dX5_fitsOpposite_35 : decode (z_c zX5_fitsOpposite) 35 = .ok (.if_icmp .gt 84, 3) := by decide +kernel
theorem dX5_fitsOpposite_38 : decode (z_c zX5_fitsOpposite) 38 = .ok (.aload_n 0, 1) := by decide +kernel
theorem dX5_fitsOpposite_39 : decode (z_c zX5_fitsOpposite) 39 = .ok (.getfield 24, 3) := by decide +kernel
theorem dX5_fitsOpposite_42 : decode (z_c zX5_fitsOpposite) 42 = .ok (.iconst 0, 1) := by decide +kernel
theorem dX5_fitsOpposite_43 : decode (z_c zX5_fitsOpposite) 43 = .ok (.iload 6, 2) := by decide +kernel
theorem dX5_fitsOpposite_45 : decode (z_c zX5_fitsOpposite) 45 = .ok (.invokevirtual 145, 3) := by decide +kernel
theorem dX5_fitsOpposite_48 : decode (z_c zX5_fitsOpposite) 48 = .ok (.istore 7, 2) := by decide +kernel
theorem dX5_fitsOpposite_50 : decode (z_c zX5_fitsOpposite) 50 = .ok (.iload_n 3, 1) := by decide +kernel
theorem dX5_fitsOpposite_51 : decode (z_c zX5_fitsOpposite) 51 = .ok (.ifCond .eq 18, 3) := by decide +kernel
theorem dX5_fitsOpposite_54 : decode (z_c zX5_fitsOpposite) 54 = .ok (.aload_n 0, 1) := by decide +kernel
theorem dX5_fitsOpposite_55 : decode (z_c zX5_fitsOpposite) 55 = .ok (.getfield 24, 3) := by decide +kernel
theorem dX5_fitsOpposite_58 : decode (z_c zX5_fitsOpposite) 58 = .ok (.iload 6, 2) := by decide +kernel
theorem dX5_fitsOpposite_60 : decode (z_c zX5_fitsOpposite) 60 = .ok (.invokevirtual 141, 3) := by decide +kernel
theorem dX5_fitsOpposite_63 : decode (z_c zX5_fitsOpposite) 63 = .ok (.iload 7, 2) := by decide +kernel
theorem dX5_fitsOpposite_65 : decode (z_c zX5_fitsOpposite) 65 = .ok (.isub, 1) := by decide +kernel
theorem dX5_fitsOpposite_66 : decode (z_c zX5_fitsOpposite) 66 = .ok (.goto 5, 3) := by decide +kernel
theorem dX5_fitsOpposite_69 : decode (z_c zX5_fitsOpposite) 69 = .ok (.iload 7, 2) := by decide +kernel
theorem dX5_fitsOpposite_71 : decode (z_c zX5_fitsOpposite) 71 = .ok (.istore 8, 2) := by decide +kernel
theorem dX5_fitsOpposite_73 : decode (z_c zX5_fitsOpposite) 73 = .ok (.iload 6, 2) := by decide +kernel
theorem dX5_fitsOpposite_75 : decode (z_c zX5_fitsOpposite) 75 = .ok (.iload 5, 2) := by decide +kernel
theorem dX5_fitsOpposite_77 : decode (z_c zX5_fitsOpposite) 77 = .ok (.if_icmp .gt 17, 3) := by decide +kernel
theorem dX5_fitsOpposite_80 : decode (z_c zX5_fitsOpposite) 80 = .ok (.iload 5, 2) := by decide +kernel
theorem dX5_fitsOpposite_82 : decode (z_c zX5_fitsOpposite) 82 = .ok (.iload 6, 2) := by decide +kernel
theorem dX5_fitsOpposite_84 : decode (z_c zX5_fitsOpposite) 84 = .ok (.isub, 1) := by decide +kernel
theorem dX5_fitsOpposite_85 : decode (z_c zX5_fitsOpposite) 85 = .ok (.iload 4, 2) := by decide +kernel
theorem dX5_fitsOpposite_87 : decode (z_c zX5_fitsOpposite) 87 = .ok (.if_icmp .gt 7, 3) := by decide +kernel
theorem dX5_fitsOpposite_90 : decode (z_c zX5_fitsOpposite) 90 = .ok (.iconst 1, 1) := by decide +kernel
theorem dX5_fitsOpposite_91 : decode (z_c zX5_fitsOpposite) 91 = .ok (.goto 4, 3) := by decide +kernel
theorem dX5_fitsOpposite_94 : decode (z_c zX5_fitsOpposite) 94 = .ok (.iconst 0, 1) := by decide +kernel
theorem dX5_fitsOpposite_95 : decode (z_c zX5_fitsOpposite) 95 = .ok (.istore 9, 2) := by decide +kernel
theorem dX5_fitsOpposite_97 : decode (z_c zX5_fitsOpposite) 97 = .ok (.iload 8, 2) := by decide +kernel
theorem dX5_fitsOpposite_99 : decode (z_c zX5_fitsOpposite) 99 = .ok (.ifCond .le 14, 3) := by decide +kernel
theorem dX5_fitsOpposite_102 : decode (z_c zX5_fitsOpposite) 102 = .ok (.iload 9, 2) := by decide +kernel
theorem dX5_fitsOpposite_104 : decode (z_c zX5_fitsOpposite) 104 = .ok (.ifCond .ne 7, 3) := by decide +kernel
theorem dX5_fitsOpposite_107 : decode (z_c zX5_fitsOpposite) 107 = .ok (.iload_n 2, 1) := by decide +kernel
theorem dX5_fitsOpposite_108 : decode (z_c zX5_fitsOpposite) 108 = .ok (.ifCond .ne 5, 3) := by decide +kernel
theorem dX5_fitsOpposite_111 : decode (z_c zX5_fitsOpposite) 111 = .ok (.iconst 1, 1) := by decide +kernel
theorem dX5_fitsOpposite_112 : decode (z_c zX5_fitsOpposite) 112 = .ok (.ireturn, 1) := by decide +kernel
theorem dX5_fitsOpposite_113 : decode (z_c zX5_fitsOpposite) 113 = .ok (.iinc 6 1, 3) := by decide +kernel
theorem dX5_fitsOpposite_116 : decode (z_c zX5_fitsOpposite) 116 = .ok (.goto (-90), 3) := by decide +kernel
theorem dX5_fitsOpposite_119 : decode (z_c zX5_fitsOpposite) 119 = .ok (.iconst 0, 1) := by decide +kernel
theorem dX5_fitsOpposite_120 : decode (z_c zX5_fitsOpposite) 120 = .ok (.ireturn, 1) := by decide +kernel
theorem dX6_begin_0 : decode (z_c zX6_begin) 0 = .ok (.aload_n 0, 1) := by decide +kernel
theorem dX6_begin_1 : decode (z_c zX6_begin) 1 = .ok (.aload_n 1, 1) := by decide +kernel
theorem dX6_begin_2 : decode (z_c zX6_begin) 2 = .ok (.putfield 34, 3) := by decide +kernel
theorem dX6_begin_5 : decode (z_c zX6_begin) 5 = .ok (.aload_n 0, 1) := by decide +kernel
theorem dX6_begin_6 : decode (z_c zX6_begin) 6 = .ok (.getfield 28, 3) := by decide +kernel
theorem dX6_begin_9 : decode (z_c zX6_begin) 9 = .ok (.aload_n 1, 1) := by decide +kernel
theorem dX6_begin_10 : decode (z_c zX6_begin) 10 = .ok (.getfield 42, 3) := by decide +kernel
theorem dX6_begin_13 : decode (z_c zX6_begin) 13 = .ok (.invokevirtual 47, 3) := by decide +kernel
theorem dX6_begin_16 : decode (z_c zX6_begin) 16 = .ok (.aload_n 0, 1) := by decide +kernel
theorem dX6_begin_17 : decode (z_c zX6_begin) 17 = .ok (.getfield 31, 3) := by decide +kernel
theorem dX6_begin_20 : decode (z_c zX6_begin) 20 = .ok (.aload_n 1, 1) := by decide +kernel
theorem dX6_begin_21 : decode (z_c zX6_begin) 21 = .ok (.getfield 51, 3) := by decide +kernel
theorem dX6_begin_24 : decode (z_c zX6_begin) 24 = .ok (.invokevirtual 47, 3) := by decide +kernel
theorem dX6_begin_27 : decode (z_c zX6_begin) 27 = .ok (.aload_n 0, 1) := by decide +kernel
theorem dX6_begin_28 : decode (z_c zX6_begin) 28 = .ok (.iconst 0, 1) := by decide +kernel
theorem dX6_begin_29 : decode (z_c zX6_begin) 29 = .ok (.putfield 54, 3) := by decide +kernel
theorem dX6_begin_32 : decode (z_c zX6_begin) 32 = .ok (.aload_n 0, 1) := by decide +kernel
theorem dX6_begin_33 : decode (z_c zX6_begin) 33 = .ok (.iconst 0, 1) := by decide +kernel
theorem dX6_begin_34 : decode (z_c zX6_begin) 34 = .ok (.putfield 58, 3) := by decide +kernel
theorem dX6_begin_37 : decode (z_c zX6_begin) 37 = .ok (.return_, 1) := by decide +kernel
theorem dX6_goOn_0 : decode (z_c zX6_goOn) 0 = .ok (.aload_n 0, 1) := by decide +kernel
theorem dX6_goOn_1 : decode (z_c zX6_goOn) 1 = .ok (.getfield 54, 3) := by decide +kernel
theorem dX6_goOn_4 : decode (z_c zX6_goOn) 4 = .ok (.ifCond .eq 12, 3) := by decide +kernel
theorem dX6_goOn_7 : decode (z_c zX6_goOn) 7 = .ok (.aload_n 0, 1) := by decide +kernel
theorem dX6_goOn_8 : decode (z_c zX6_goOn) 8 = .ok (.aload_n 0, 1) := by decide +kernel
theorem dX6_goOn_9 : decode (z_c zX6_goOn) 9 = .ok (.getfield 34, 3) := by decide +kernel
theorem dX6_goOn_12 : decode (z_c zX6_goOn) 12 = .ok (.invokevirtual 61, 3) := by decide +kernel
theorem dX6_goOn_15 : decode (z_c zX6_goOn) 15 = .ok (.return_, 1) := by decide +kernel
theorem dX6_goOn_16 : decode (z_c zX6_goOn) 16 = .ok (.aload_n 0, 1) := by decide +kernel
theorem dX6_goOn_17 : decode (z_c zX6_goOn) 17 = .ok (.getfield 28, 3) := by decide +kernel
theorem dX6_goOn_20 : decode (z_c zX6_goOn) 20 = .ok (.aload_n 0, 1) := by decide +kernel
theorem dX6_goOn_21 : decode (z_c zX6_goOn) 21 = .ok (.getfield 34, 3) := by decide +kernel
theorem dX6_goOn_24 : decode (z_c zX6_goOn) 24 = .ok (.getfield 42, 3) := by decide +kernel
theorem dX6_goOn_27 : decode (z_c zX6_goOn) 27 = .ok (.invokevirtual 65, 3) := by decide +kernel
theorem dX6_goOn_30 : decode (z_c zX6_goOn) 30 = .ok (.aload_n 0, 1) := by decide +kernel
theorem dX6_goOn_31 : decode (z_c zX6_goOn) 31 = .ok (.iconst 0, 1) := by decide +kernel
theorem dX6_goOn_32 : decode (z_c zX6_goOn) 32 = .ok (.putfield 58, 3) := by decide +kernel
theorem dX6_goOn_35 : decode (z_c zX6_goOn) 35 = .ok (.return_, 1) := by decide +kernel
theorem dX6_find_0 : decode (z_c zX6_find) 0 = .ok (.aload_n 0, 1) := by decide +kernel
theorem dX6_find_1 : decode (z_c zX6_find) 1 = .ok (.getfield 34, 3) := by decide +kernel
theorem dX6_find_4 : decode (z_c zX6_find) 4 = .ok (.getfield 68, 3) := by decide +kernel
theorem dX6_find_7 : decode (z_c zX6_find) 7 = .ok (.getfield 72, 3) := by decide +kernel
theorem dX6_find_10 : decode (z_c zX6_find) 10 = .ok (.istore_n 2, 1) := by decide +kernel
theorem dX6_find_11 : decode (z_c zX6_find) 11 = .ok (.iconst 0, 1) := by decide +kernel
theorem dX6_find_12 : decode (z_c zX6_find) 12 = .ok (.istore_n 3, 1) := by decide +kernel
theorem dX6_find_13 : decode (z_c zX6_find) 13 = .ok (.iload_n 3, 1) := by decide +kernel
theorem dX6_find_14 : decode (z_c zX6_find) 14 = .ok (.iload_n 2, 1) := by decide +kernel
theorem dX6_find_15 : decode (z_c zX6_find) 15 = .ok (.if_icmp .ge 33, 3) := by decide +kernel
theorem dX6_find_18 : decode (z_c zX6_find) 18 = .ok (.aload_n 0, 1) := by decide +kernel
theorem dX6_find_19 : decode (z_c zX6_find) 19 = .ok (.getfield 34, 3) := by decide +kernel
theorem dX6_find_22 : decode (z_c zX6_find) 22 = .ok (.getfield 78, 3) := by decide +kernel
theorem dX6_find_25 : decode (z_c zX6_find) 25 = .ok (.iload_n 3, 1) := by decide +kernel
theorem dX6_find_26 : decode (z_c zX6_find) 26 = .ok (.invokevirtual 81, 3) := by decide +kernel
theorem dX6_find_29 : decode (z_c zX6_find) 29 = .ok (.ifCond .eq 13, 3) := by decide +kernel
theorem dX6_find_32 : decode (z_c zX6_find) 32 = .ok (.aload_n 0, 1) := by decide +kernel
theorem dX6_find_33 : decode (z_c zX6_find) 33 = .ok (.iload_n 3, 1) := by decide +kernel
theorem dX6_find_34 : decode (z_c zX6_find) 34 = .ok (.invokevirtual 85, 3) := by decide +kernel
theorem dX6_find_37 : decode (z_c zX6_find) 37 = .ok (.ifCond .eq 5, 3) := by decide +kernel
theorem dX6_find_40 : decode (z_c zX6_find) 40 = .ok (.iconst 1, 1) := by decide +kernel
theorem dX6_find_41 : decode (z_c zX6_find) 41 = .ok (.ireturn, 1) := by decide +kernel
theorem dX6_find_42 : decode (z_c zX6_find) 42 = .ok (.iinc 3 1, 3) := by decide +kernel
theorem dX6_find_45 : decode (z_c zX6_find) 45 = .ok (.goto (-32), 3) := by decide +kernel
theorem dX6_find_48 : decode (z_c zX6_find) 48 = .ok (.iconst 0, 1) := by decide +kernel
theorem dX6_find_49 : decode (z_c zX6_find) 49 = .ok (.istore_n 3, 1) := by decide +kernel
theorem dX6_find_50 : decode (z_c zX6_find) 50 = .ok (.iload_n 3, 1) := by decide +kernel
theorem dX6_find_51 : decode (z_c zX6_find) 51 = .ok (.iload_n 2, 1) := by decide +kernel
theorem dX6_find_52 : decode (z_c zX6_find) 52 = .ok (.if_icmp .ge 38, 3) := by decide +kernel
theorem dX6_find_55 : decode (z_c zX6_find) 55 = .ok (.iload_n 1, 1) := by decide +kernel
theorem dX6_find_56 : decode (z_c zX6_find) 56 = .ok (.iconst 2, 1) := by decide +kernel
theorem dX6_find_57 : decode (z_c zX6_find) 57 = .ok (.if_icmp .lt 33, 3) := by decide +kernel
theorem dX6_find_60 : decode (z_c zX6_find) 60 = .ok (.aload_n 0, 1) := by decide +kernel
theorem dX6_find_61 : decode (z_c zX6_find) 61 = .ok (.getfield 34, 3) := by decide +kernel
theorem dX6_find_64 : decode (z_c zX6_find) 64 = .ok (.getfield 78, 3) := by decide +kernel
theorem dX6_find_67 : decode (z_c zX6_find) 67 = .ok (.iload_n 3, 1) := by decide +kernel
theorem dX6_find_68 : decode (z_c zX6_find) 68 = .ok (.invokevirtual 81, 3) := by decide +kernel
theorem dX6_find_71 : decode (z_c zX6_find) 71 = .ok (.ifCond .eq 13, 3) := by decide +kernel
theorem dX6_find_74 : decode (z_c zX6_find) 74 = .ok (.aload_n 0, 1) := by decide +kernel
theorem dX6_find_75 : decode (z_c zX6_find) 75 = .ok (.iload_n 3, 1) := by decide +kernel
theorem dX6_find_76 : decode (z_c zX6_find) 76 = .ok (.invokevirtual 88, 3) := by decide +kernel
theorem dX6_find_79 : decode (z_c zX6_find) 79 = .ok (.ifCond .eq 5, 3) := by decide +kernel
theorem dX6_find_82 : decode (z_c zX6_find) 82 = .ok (.iconst 1, 1) := by decide +kernel
theorem dX6_find_83 : decode (z_c zX6_find) 83 = .ok (.ireturn, 1) := by decide +kernel
theorem dX6_find_84 : decode (z_c zX6_find) 84 = .ok (.iinc 3 1, 3) := by decide +kernel
theorem dX6_find_87 : decode (z_c zX6_find) 87 = .ok (.goto (-37), 3) := by decide +kernel
theorem dX6_find_90 : decode (z_c zX6_find) 90 = .ok (.iload_n 1, 1) := by decide +kernel
theorem dX6_find_91 : decode (z_c zX6_find) 91 = .ok (.iconst 3, 1) := by decide +kernel
theorem dX6_find_92 : decode (z_c zX6_find) 92 = .ok (.if_icmp .ge 5, 3) := by decide +kernel
theorem dX6_find_95 : decode (z_c zX6_find) 95 = .ok (.iconst 0, 1) := by decide +kernel
theorem dX6_find_96 : decode (z_c zX6_find) 96 = .ok (.ireturn, 1) := by decide +kernel
theorem dX6_find_97 : decode (z_c zX6_find) 97 = .ok (.aload_n 0, 1) := by decide +kernel
theorem dX6_find_98 : decode (z_c zX6_find) 98 = .ok (.getfield 58, 3) := by decide +kernel
theorem dX6_find_101 : decode (z_c zX6_find) 101 = .ok (.ifCond .ne 52, 3) := by decide +kernel
theorem dX6_find_104 : decode (z_c zX6_find) 104 = .ok (.aload_n 0, 1) := by decide +kernel
theorem dX6_find_105 : decode (z_c zX6_find) 105 = .ok (.iconst 1, 1) := by decide +kernel
theorem dX6_find_106 : decode (z_c zX6_find) 106 = .ok (.putfield 58, 3) := by decide +kernel
theorem dX6_find_109 : decode (z_c zX6_find) 109 = .ok (.aload_n 0, 1) := by decide +kernel
theorem dX6_find_110 : decode (z_c zX6_find) 110 = .ok (.aload_n 0, 1) := by decide +kernel
theorem dX6_find_111 : decode (z_c zX6_find) 111 = .ok (.getfield 38, 3) := by decide +kernel
theorem dX6_find_114 : decode (z_c zX6_find) 114 = .ok (.aload_n 0, 1) := by decide +kernel
theorem dX6_find_115 : decode (z_c zX6_find) 115 = .ok (.getfield 34, 3) := by decide +kernel
theorem dX6_find_118 : decode (z_c zX6_find) 118 = .ok (.invokevirtual 91, 3) := by decide +kernel
theorem dX6_find_121 : decode (z_c zX6_find) 121 = .ok (.putfield 97, 3) := by decide +kernel
theorem dX6_find_124 : decode (z_c zX6_find) 124 = .ok (.aload_n 0, 1) := by decide +kernel
theorem dX6_find_125 : decode (z_c zX6_find) 125 = .ok (.getfield 97, 3) := by decide +kernel
theorem dX6_find_128 : decode (z_c zX6_find) 128 = .ok (.ifCond .eq 25, 3) := by decide +kernel
theorem dX6_find_131 : decode (z_c zX6_find) 131 = .ok (.aload_n 0, 1) := by decide +kernel
theorem dX6_find_132 : decode (z_c zX6_find) 132 = .ok (.getfield 38, 3) := by decide +kernel
theorem dX6_find_135 : decode (z_c zX6_find) 135 = .ok (.aload_n 0, 1) := by decide +kernel
theorem dX6_find_136 : decode (z_c zX6_find) 136 = .ok (.getfield 34, 3) := by decide +kernel
theorem dX6_find_139 : decode (z_c zX6_find) 139 = .ok (.invokevirtual 100, 3) := by decide +kernel
theorem dX6_find_142 : decode (z_c zX6_find) 142 = .ok (.aload_n 0, 1) := by decide +kernel
theorem dX6_find_143 : decode (z_c zX6_find) 143 = .ok (.getfield 38, 3) := by decide +kernel
theorem dX6_find_146 : decode (z_c zX6_find) 146 = .ok (.aload_n 0, 1) := by decide +kernel
theorem dX6_find_147 : decode (z_c zX6_find) 147 = .ok (.getfield 34, 3) := by decide +kernel
theorem dX6_find_150 : decode (z_c zX6_find) 150 = .ok (.invokevirtual 103, 3) := by decide +kernel
theorem dX6_find_153 : decode (z_c zX6_find) 153 = .ok (.aload_n 0, 1) := by decide +kernel
theorem dX6_find_154 : decode (z_c zX6_find) 154 = .ok (.getfield 97, 3) := by decide +kernel
theorem dX6_find_157 : decode (z_c zX6_find) 157 = .ok (.ifCond .eq 14, 3) := by decide +kernel
theorem dX6_find_160 : decode (z_c zX6_find) 160 = .ok (.aload_n 0, 1) := by decide +kernel
theorem dX6_find_161 : decode (z_c zX6_find) 161 = .ok (.invokevirtual 106, 3) := by decide +kernel
theorem dX6_find_164 : decode (z_c zX6_find) 164 = .ok (.ifCond .eq 7, 3) := by decide +kernel
theorem dX6_find_167 : decode (z_c zX6_find) 167 = .ok (.iconst 1, 1) := by decide +kernel
theorem dX6_find_168 : decode (z_c zX6_find) 168 = .ok (.goto 4, 3) := by decide +kernel
theorem dX6_find_171 : decode (z_c zX6_find) 171 = .ok (.iconst 0, 1) := by decide +kernel
theorem dX6_find_172 : decode (z_c zX6_find) 172 = .ok (.ireturn, 1) := by decide +kernel
theorem dX6_firstNews_0 : decode (z_c zX6_firstNews) 0 = .ok (.aload_n 0, 1) := by decide +kernel
theorem dX6_firstNews_1 : decode (z_c zX6_firstNews) 1 = .ok (.getfield 34, 3) := by decide +kernel
theorem dX6_firstNews_4 : decode (z_c zX6_firstNews) 4 = .ok (.getfield 110, 3) := by decide +kernel
theorem dX6_firstNews_7 : decode (z_c zX6_firstNews) 7 = .ok (.astore_n 1, 1) := by decide +kernel
theorem dX6_firstNews_8 : decode (z_c zX6_firstNews) 8 = .ok (.iconst 0, 1) := by decide +kernel
theorem dX6_firstNews_9 : decode (z_c zX6_firstNews) 9 = .ok (.istore_n 2, 1) := by decide +kernel
theorem dX6_firstNews_10 : decode (z_c zX6_firstNews) 10 = .ok (.iload_n 2, 1) := by decide +kernel
theorem dX6_firstNews_11 : decode (z_c zX6_firstNews) 11 = .ok (.aload_n 0, 1) := by decide +kernel
theorem dX6_firstNews_12 : decode (z_c zX6_firstNews) 12 = .ok (.getfield 34, 3) := by decide +kernel
theorem dX6_firstNews_15 : decode (z_c zX6_firstNews) 15 = .ok (.getfield 68, 3) := by decide +kernel
theorem dX6_firstNews_18 : decode (z_c zX6_firstNews) 18 = .ok (.getfield 72, 3) := by decide +kernel
theorem dX6_firstNews_21 : decode (z_c zX6_firstNews) 21 = .ok (.if_icmp .ge 37, 3) := by decide +kernel
theorem dX6_firstNews_24 : decode (z_c zX6_firstNews) 24 = .ok (.aload_n 0, 1) := by decide +kernel
theorem dX6_firstNews_25 : decode (z_c zX6_firstNews) 25 = .ok (.getfield 12, 3) := by decide +kernel
theorem dX6_firstNews_28 : decode (z_c zX6_firstNews) 28 = .ok (.iload_n 2, 1) := by decide +kernel
theorem dX6_firstNews_29 : decode (z_c zX6_firstNews) 29 = .ok (.invokevirtual 81, 3) := by decide +kernel
theorem dX6_firstNews_32 : decode (z_c zX6_firstNews) 32 = .ok (.ifCond .eq 20, 3) := by decide +kernel
theorem dX6_firstNews_35 : decode (z_c zX6_firstNews) 35 = .ok (.aload_n 0, 1) := by decide +kernel
theorem dX6_firstNews_36 : decode (z_c zX6_firstNews) 36 = .ok (.getfield 113, 3) := by decide +kernel
theorem dX6_firstNews_39 : decode (z_c zX6_firstNews) 39 = .ok (.ifCond .eq 11, 3) := by decide +kernel
theorem dX6_firstNews_42 : decode (z_c zX6_firstNews) 42 = .ok (.aload_n 1, 1) := by decide +kernel
theorem dX6_firstNews_43 : decode (z_c zX6_firstNews) 43 = .ok (.iload_n 2, 1) := by decide +kernel
theorem dX6_firstNews_44 : decode (z_c zX6_firstNews) 44 = .ok (.invokevirtual 81, 3) := by decide +kernel
theorem dX6_firstNews_47 : decode (z_c zX6_firstNews) 47 = .ok (.ifCond .ne 5, 3) := by decide +kernel
theorem dX6_firstNews_50 : decode (z_c zX6_firstNews) 50 = .ok (.iload_n 2, 1) := by decide +kernel
theorem dX6_firstNews_51 : decode (z_c zX6_firstNews) 51 = .ok (.ireturn, 1) := by decide +kernel
theorem dX6_firstNews_52 : decode (z_c zX6_firstNews) 52 = .ok (.iinc 2 1, 3) := by decide +kernel
theorem dX6_firstNews_55 : decode (z_c zX6_firstNews) 55 = .ok (.goto (-45), 3) := by decide +kernel
theorem dX6_firstNews_58 : decode (z_c zX6_firstNews) 58 = .ok (.iconst (-1), 1) := by decide +kernel
theorem dX6_firstNews_59 : decode (z_c zX6_firstNews) 59 = .ok (.ireturn, 1) := by decide +kernel
theorem dX6_accept_0 : decode (z_c zX6_accept) 0 = .ok (.iconst 0, 1) := by decide +kernel
theorem dX6_accept_1 : decode (z_c zX6_accept) 1 = .ok (.istore_n 1, 1) := by decide +kernel
theorem dX6_accept_2 : decode (z_c zX6_accept) 2 = .ok (.iload_n 1, 1) := by decide +kernel
theorem dX6_accept_3 : decode (z_c zX6_accept) 3 = .ok (.aload_n 0, 1) := by decide +kernel
theorem dX6_accept_4 : decode (z_c zX6_accept) 4 = .ok (.getfield 34, 3) := by decide +kernel
theorem dX6_accept_7 : decode (z_c zX6_accept) 7 = .ok (.getfield 68, 3) := by decide +kernel
theorem dX6_accept_10 : decode (z_c zX6_accept) 10 = .ok (.getfield 72, 3) := by decide +kernel
theorem dX6_accept_13 : decode (z_c zX6_accept) 13 = .ok (.if_icmp .ge 46, 3) := by decide +kernel
theorem dX6_accept_16 : decode (z_c zX6_accept) 16 = .ok (.aload_n 0, 1) := by decide +kernel
theorem dX6_accept_17 : decode (z_c zX6_accept) 17 = .ok (.getfield 12, 3) := by decide +kernel
theorem dX6_accept_20 : decode (z_c zX6_accept) 20 = .ok (.iload_n 1, 1) := by decide +kernel
theorem dX6_accept_21 : decode (z_c zX6_accept) 21 = .ok (.invokevirtual 81, 3) := by decide +kernel
theorem dX6_accept_24 : decode (z_c zX6_accept) 24 = .ok (.ifCond .eq 29, 3) := by decide +kernel
theorem dX6_accept_27 : decode (z_c zX6_accept) 27 = .ok (.aload_n 0, 1) := by decide +kernel
theorem dX6_accept_28 : decode (z_c zX6_accept) 28 = .ok (.getfield 21, 3) := by decide +kernel
theorem dX6_accept_31 : decode (z_c zX6_accept) 31 = .ok (.iload_n 1, 1) := by decide +kernel
theorem dX6_accept_32 : decode (z_c zX6_accept) 32 = .ok (.aload_n 0, 1) := by decide +kernel
theorem dX6_accept_33 : decode (z_c zX6_accept) 33 = .ok (.getfield 18, 3) := by decide +kernel
theorem dX6_accept_36 : decode (z_c zX6_accept) 36 = .ok (.getfield 116, 3) := by decide +kernel
theorem dX6_accept_39 : decode (z_c zX6_accept) 39 = .ok (.lastore, 1) := by decide +kernel
theorem dX6_accept_40 : decode (z_c zX6_accept) 40 = .ok (.aload_n 0, 1) := by decide +kernel
theorem dX6_accept_41 : decode (z_c zX6_accept) 41 = .ok (.getfield 25, 3) := by decide +kernel
theorem dX6_accept_44 : decode (z_c zX6_accept) 44 = .ok (.iload_n 1, 1) := by decide +kernel
theorem dX6_accept_45 : decode (z_c zX6_accept) 45 = .ok (.aload_n 0, 1) := by decide +kernel
theorem dX6_accept_46 : decode (z_c zX6_accept) 46 = .ok (.getfield 18, 3) := by decide +kernel
theorem dX6_accept_49 : decode (z_c zX6_accept) 49 = .ok (.getfield 120, 3) := by decide +kernel
theorem dX6_accept_52 : decode (z_c zX6_accept) 52 = .ok (.lastore, 1) := by decide +kernel
theorem dX6_accept_53 : decode (z_c zX6_accept) 53 = .ok (.iinc 1 1, 3) := by decide +kernel
theorem dX6_accept_56 : decode (z_c zX6_accept) 56 = .ok (.goto (-54), 3) := by decide +kernel
theorem dX6_accept_59 : decode (z_c zX6_accept) 59 = .ok (.aload_n 0, 1) := by decide +kernel
theorem dX6_accept_60 : decode (z_c zX6_accept) 60 = .ok (.getfield 28, 3) := by decide +kernel
theorem dX6_accept_63 : decode (z_c zX6_accept) 63 = .ok (.aload_n 0, 1) := by decide +kernel
theorem dX6_accept_64 : decode (z_c zX6_accept) 64 = .ok (.getfield 12, 3) := by decide +kernel
theorem dX6_accept_67 : decode (z_c zX6_accept) 67 = .ok (.invokevirtual 123, 3) := by decide +kernel
theorem dX6_accept_70 : decode (z_c zX6_accept) 70 = .ok (.aload_n 0, 1) := by decide +kernel
theorem dX6_accept_71 : decode (z_c zX6_accept) 71 = .ok (.getfield 113, 3) := by decide +kernel
theorem dX6_accept_74 : decode (z_c zX6_accept) 74 = .ok (.ifCond .eq 14, 3) := by decide +kernel
theorem dX6_accept_77 : decode (z_c zX6_accept) 77 = .ok (.aload_n 0, 1) := by decide +kernel
theorem dX6_accept_78 : decode (z_c zX6_accept) 78 = .ok (.getfield 31, 3) := by decide +kernel
theorem dX6_accept_81 : decode (z_c zX6_accept) 81 = .ok (.aload_n 0, 1) := by decide +kernel
theorem dX6_accept_82 : decode (z_c zX6_accept) 82 = .ok (.getfield 12, 3) := by decide +kernel
theorem dX6_accept_85 : decode (z_c zX6_accept) 85 = .ok (.invokevirtual 126, 3) := by decide +kernel
theorem dX6_accept_88 : decode (z_c zX6_accept) 88 = .ok (.aload_n 0, 1) := by decide +kernel
theorem dX6_accept_89 : decode (z_c zX6_accept) 89 = .ok (.aload_n 0, 1) := by decide +kernel
theorem dX6_accept_90 : decode (z_c zX6_accept) 90 = .ok (.getfield 54, 3) := by decide +kernel
theorem dX6_accept_93 : decode (z_c zX6_accept) 93 = .ok (.ifCond .ne 11, 3) := by decide +kernel
theorem dX6_accept_96 : decode (z_c zX6_accept) 96 = .ok (.aload_n 0, 1) := by decide +kernel
theorem dX6_accept_97 : decode (z_c zX6_accept) 97 = .ok (.getfield 129, 3) := by decide +kernel
theorem dX6_accept_100 : decode (z_c zX6_accept) 100 = .ok (.iconst 3, 1) := by decide +kernel
theorem dX6_accept_101 : decode (z_c zX6_accept) 101 = .ok (.if_icmp .ne 7, 3) := by decide +kernel
theorem dX6_accept_104 : decode (z_c zX6_accept) 104 = .ok (.iconst 1, 1) := by decide +kernel
theorem dX6_accept_105 : decode (z_c zX6_accept) 105 = .ok (.goto 4, 3) := by decide +kernel
theorem dX6_accept_108 : decode (z_c zX6_accept) 108 = .ok (.iconst 0, 1) := by decide +kernel
theorem dX6_accept_109 : decode (z_c zX6_accept) 109 = .ok (.putfield 54, 3) := by decide +kernel
theorem dX6_accept_112 : decode (z_c zX6_accept) 112 = .ok (.return_, 1) := by decide +kernel
theorem dX6_giveByOne_0 : decode (z_c zX6_giveByOne) 0 = .ok (.aload_n 0, 1) := by decide +kernel
theorem dX6_giveByOne_1 : decode (z_c zX6_giveByOne) 1 = .ok (.getfield 34, 3) := by decide +kernel
theorem dX6_giveByOne_4 : decode (z_c zX6_giveByOne) 4 = .ok (.getfield 68, 3) := by decide +kernel
theorem dX6_giveByOne_7 : decode (z_c zX6_giveByOne) 7 = .ok (.getfield 132, 3) := by decide +kernel
theorem dX6_giveByOne_10 : decode (z_c zX6_giveByOne) 10 = .ok (.iload_n 1, 1) := by decide +kernel
theorem dX6_giveByOne_11 : decode (z_c zX6_giveByOne) 11 = .ok (.laload, 1) := by decide +kernel
theorem dX6_giveByOne_12 : decode (z_c zX6_giveByOne) 12 = .ok (.aload_n 0, 1) := by decide +kernel
theorem dX6_giveByOne_13 : decode (z_c zX6_giveByOne) 13 = .ok (.getfield 28, 3) := by decide +kernel
theorem dX6_giveByOne_16 : decode (z_c zX6_giveByOne) 16 = .ok (.getfield 116, 3) := by decide +kernel
theorem dX6_giveByOne_19 : decode (z_c zX6_giveByOne) 19 = .ok (.land, 1) := by decide +kernel
theorem dX6_giveByOne_20 : decode (z_c zX6_giveByOne) 20 = .ok (.lstore_n 2, 1) := by decide +kernel
theorem dX6_giveByOne_21 : decode (z_c zX6_giveByOne) 21 = .ok (.aload_n 0, 1) := by decide +kernel
theorem dX6_giveByOne_22 : decode (z_c zX6_giveByOne) 22 = .ok (.getfield 34, 3) := by decide +kernel
theorem dX6_giveByOne_25 : decode (z_c zX6_giveByOne) 25 = .ok (.getfield 68, 3) := by decide +kernel
theorem dX6_giveByOne_28 : decode (z_c zX6_giveByOne) 28 = .ok (.getfield 135, 3) := by decide +kernel
theorem dX6_giveByOne_31 : decode (z_c zX6_giveByOne) 31 = .ok (.iload_n 1, 1) := by decide +kernel
theorem dX6_giveByOne_32 : decode (z_c zX6_giveByOne) 32 = .ok (.laload, 1) := by decide +kernel
theorem dX6_giveByOne_33 : decode (z_c zX6_giveByOne) 33 = .ok (.aload_n 0, 1) := by decide +kernel
theorem dX6_giveByOne_34 : decode (z_c zX6_giveByOne) 34 = .ok (.getfield 28, 3) := by decide +kernel
theorem dX6_giveByOne_37 : decode (z_c zX6_giveByOne) 37 = .ok (.getfield 120, 3) := by decide +kernel
theorem dX6_giveByOne_40 : decode (z_c zX6_giveByOne) 40 = .ok (.land, 1) := by decide +kernel
theorem dX6_giveByOne_41 : decode (z_c zX6_giveByOne) 41 = .ok (.lstore 4, 2) := by decide +kernel
theorem dX6_giveByOne_43 : decode (z_c zX6_giveByOne) 43 = .ok (.lload_n 2, 1) := by decide +kernel
theorem dX6_giveByOne_44 : decode (z_c zX6_giveByOne) 44 = .ok (.lload 4, 2) := by decide +kernel
theorem dX6_giveByOne_46 : decode (z_c zX6_giveByOne) 46 = .ok (.lor, 1) := by decide +kernel
theorem dX6_giveByOne_47 : decode (z_c zX6_giveByOne) 47 = .ok (.lconst 0, 1) := by decide +kernel
theorem dX6_giveByOne_48 : decode (z_c zX6_giveByOne) 48 = .ok (.lcmp, 1) := by decide +kernel
theorem dX6_giveByOne_49 : decode (z_c zX6_giveByOne) 49 = .ok (.ifCond .eq 25, 3) := by decide +kernel
theorem dX6_giveByOne_52 : decode (z_c zX6_giveByOne) 52 = .ok (.aload_n 0, 1) := by decide +kernel
theorem dX6_giveByOne_53 : decode (z_c zX6_giveByOne) 53 = .ok (.lload_n 2, 1) := by decide +kernel
theorem dX6_giveByOne_54 : decode (z_c zX6_giveByOne) 54 = .ok (.lload 4, 2) := by decide +kernel
theorem dX6_giveByOne_56 : decode (z_c zX6_giveByOne) 56 = .ok (.aload_n 0, 1) := by decide +kernel
theorem dX6_giveByOne_57 : decode (z_c zX6_giveByOne) 57 = .ok (.getfield 34, 3) := by decide +kernel
theorem dX6_giveByOne_60 : decode (z_c zX6_giveByOne) 60 = .ok (.iload_n 1, 1) := by decide +kernel
theorem dX6_giveByOne_61 : decode (z_c zX6_giveByOne) 61 = .ok (.aload_n 0, 1) := by decide +kernel
theorem dX6_giveByOne_62 : decode (z_c zX6_giveByOne) 62 = .ok (.getfield 31, 3) := by decide +kernel
theorem dX6_giveByOne_65 : decode (z_c zX6_giveByOne) 65 = .ok (.invokevirtual 138, 3) := by decide +kernel
theorem dX6_giveByOne_68 : decode (z_c zX6_giveByOne) 68 = .ok (.invokevirtual 142, 3) := by decide +kernel
theorem dX6_giveByOne_71 : decode (z_c zX6_giveByOne) 71 = .ok (.ifCond .ne 5, 3) := by decide +kernel
theorem dX6_giveByOne_74 : decode (z_c zX6_giveByOne) 74 = .ok (.iconst 0, 1) := by decide +kernel
theorem dX6_giveByOne_75 : decode (z_c zX6_giveByOne) 75 = .ok (.ireturn, 1) := by decide +kernel
theorem dX6_giveByOne_76 : decode (z_c zX6_giveByOne) 76 = .ok (.aload_n 0, 1) := by decide +kernel
theorem dX6_giveByOne_77 : decode (z_c zX6_giveByOne) 77 = .ok (.iconst 1, 1) := by decide +kernel
theorem dX6_giveByOne_78 : decode (z_c zX6_giveByOne) 78 = .ok (.putfield 129, 3) := by decide +kernel
theorem dX6_giveByOne_81 : decode (z_c zX6_giveByOne) 81 = .ok (.aload_n 0, 1) := by decide +kernel
theorem dX6_giveByOne_82 : decode (z_c zX6_giveByOne) 82 = .ok (.getfield 18, 3) := by decide +kernel
theorem dX6_giveByOne_85 : decode (z_c zX6_giveByOne) 85 = .ok (.invokevirtual 146, 3) := by decide +kernel
theorem dX6_giveByOne_88 : decode (z_c zX6_giveByOne) 88 = .ok (.aload_n 0, 1) := by decide +kernel
theorem dX6_giveByOne_89 : decode (z_c zX6_giveByOne) 89 = .ok (.iload_n 1, 1) := by decide +kernel
theorem dX6_giveByOne_90 : decode (z_c zX6_giveByOne) 90 = .ok (.invokevirtual 149, 3) := by decide +kernel
theorem dX6_giveByOne_93 : decode (z_c zX6_giveByOne) 93 = .ok (.iconst 1, 1) := by decide +kernel
theorem dX6_giveByOne_94 : decode (z_c zX6_giveByOne) 94 = .ok (.ireturn, 1) := by decide +kernel
theorem dX6_giveByTwo_0 : decode (z_c zX6_giveByTwo) 0 = .ok (.aload_n 0, 1) := by decide +kernel
theorem dX6_giveByTwo_1 : decode (z_c zX6_giveByTwo) 1 = .ok (.getfield 34, 3) := by decide +kernel
theorem dX6_giveByTwo_4 : decode (z_c zX6_giveByTwo) 4 = .ok (.getfield 68, 3) := by decide +kernel
theorem dX6_giveByTwo_7 : decode (z_c zX6_giveByTwo) 7 = .ok (.astore_n 2, 1) := by decide +kernel
theorem dX6_giveByTwo_8 : decode (z_c zX6_giveByTwo) 8 = .ok (.aload_n 2, 1) := by decide +kernel
theorem dX6_giveByTwo_9 : decode (z_c zX6_giveByTwo) 9 = .ok (.getfield 132, 3) := by decide +kernel
theorem dX6_giveByTwo_12 : decode (z_c zX6_giveByTwo) 12 = .ok (.iload_n 1, 1) := by decide +kernel
theorem dX6_giveByTwo_13 : decode (z_c zX6_giveByTwo) 13 = .ok (.laload, 1) := by decide +kernel
theorem dX6_giveByTwo_14 : decode (z_c zX6_giveByTwo) 14 = .ok (.aload_n 0, 1) := by decide +kernel
theorem dX6_giveByTwo_15 : decode (z_c zX6_giveByTwo) 15 = .ok (.getfield 28, 3) := by decide +kernel
theorem dX6_giveByTwo_18 : decode (z_c zX6_giveByTwo) 18 = .ok (.getfield 116, 3) := by decide +kernel
theorem dX6_giveByTwo_21 : decode (z_c zX6_giveByTwo) 21 = .ok (.land, 1) := by decide +kernel
theorem dX6_giveByTwo_22 : decode (z_c zX6_giveByTwo) 22 = .ok (.lstore_n 3, 1) := by decide +kernel
theorem dX6_giveByTwo_23 : decode (z_c zX6_giveByTwo) 23 = .ok (.aload_n 2, 1) := by decide +kernel
theorem dX6_giveByTwo_24 : decode (z_c zX6_giveByTwo) 24 = .ok (.getfield 135, 3) := by decide +kernel
theorem dX6_giveByTwo_27 : decode (z_c zX6_giveByTwo) 27 = .ok (.iload_n 1, 1) := by decide +kernel
theorem dX6_giveByTwo_28 : decode (z_c zX6_giveByTwo) 28 = .ok (.laload, 1) := by decide +kernel
theorem dX6_giveByTwo_29 : decode (z_c zX6_giveByTwo) 29 = .ok (.aload_n 0, 1) := by decide +kernel
theorem dX6_giveByTwo_30 : decode (z_c zX6_giveByTwo) 30 = .ok (.getfield 28, 3) := by decide +kernel
theorem dX6_giveByTwo_33 : decode (z_c zX6_giveByTwo) 33 = .ok (.getfield 120, 3) := by decide +kernel
theorem dX6_giveByTwo_36 : decode (z_c zX6_giveByTwo) 36 = .ok (.land, 1) := by decide +kernel
theorem dX6_giveByTwo_37 : decode (z_c zX6_giveByTwo) 37 = .ok (.lstore 5, 2) := by decide +kernel
theorem dX6_giveByTwo_39 : decode (z_c zX6_giveByTwo) 39 = .ok (.lload_n 3, 1) := by decide +kernel
theorem dX6_giveByTwo_40 : decode (z_c zX6_giveByTwo) 40 = .ok (.lconst 0, 1) := by decide +kernel
theorem dX6_giveByTwo_41 : decode (z_c zX6_giveByTwo) 41 = .ok (.lcmp, 1) := by decide +kernel
theorem dX6_giveByTwo_42 : decode (z_c zX6_giveByTwo) 42 = .ok (.ifCond .eq 10, 3) := by decide +kernel
theorem dX6_giveByTwo_45 : decode (z_c zX6_giveByTwo) 45 = .ok (.lload_n 3, 1) := by decide +kernel
theorem dX6_giveByTwo_46 : decode (z_c zX6_giveByTwo) 46 = .ok (.invokestatic 153, 3) := by decide +kernel
theorem dX6_giveByTwo_49 : decode (z_c zX6_giveByTwo) 49 = .ok (.goto 11, 3) := by decide +kernel
theorem dX6_giveByTwo_52 : decode (z_c zX6_giveByTwo) 52 = .ok (.bipush 64, 2) := by decide +kernel
theorem dX6_giveByTwo_54 : decode (z_c zX6_giveByTwo) 54 = .ok (.lload 5, 2) := by decide +kernel
theorem dX6_giveByTwo_56 : decode (z_c zX6_giveByTwo) 56 = .ok (.invokestatic 153, 3) := by decide +kernel
theorem dX6_giveByTwo_59 : decode (z_c zX6_giveByTwo) 59 = .ok (.iadd, 1) := by decide +kernel
theorem dX6_giveByTwo_60 : decode (z_c zX6_giveByTwo) 60 = .ok (.istore 7, 2) := by decide +kernel
theorem dX6_giveByTwo_62 : decode (z_c zX6_giveByTwo) 62 = .ok (.aload_n 2, 1) := by decide +kernel
theorem dX6_giveByTwo_63 : decode (z_c zX6_giveByTwo) 63 = .ok (.iload 7, 2) := by decide +kernel
theorem dX6_giveByTwo_65 : decode (z_c zX6_giveByTwo) 65 = .ok (.invokevirtual 157, 3) := by decide +kernel
theorem dX6_giveByTwo_68 : decode (z_c zX6_giveByTwo) 68 = .ok (.ifCond .ne 5, 3) := by decide +kernel
theorem dX6_giveByTwo_71 : decode (z_c zX6_giveByTwo) 71 = .ok (.iconst 0, 1) := by decide +kernel
theorem dX6_giveByTwo_72 : decode (z_c zX6_giveByTwo) 72 = .ok (.ireturn, 1) := by decide +kernel
theorem dX6_giveByTwo_73 : decode (z_c zX6_giveByTwo) 73 = .ok (.iconst 0, 1) := by decide +kernel
theorem dX6_giveByTwo_74 : decode (z_c zX6_giveByTwo) 74 = .ok (.istore 8, 2) := by decide +kernel
theorem dX6_giveByTwo_76 : decode (z_c zX6_giveByTwo) 76 = .ok (.iload 8, 2) := by decide +kernel
theorem dX6_giveByTwo_78 : decode (z_c zX6_giveByTwo) 78 = .ok (.aload_n 2, 1) := by decide +kernel
theorem dX6_giveByTwo_79 : decode (z_c zX6_giveByTwo) 79 = .ok (.getfield 160, 3) := by decide +kernel
theorem dX6_giveByTwo_82 : decode (z_c zX6_giveByTwo) 82 = .ok (.iload 7, 2) := by decide +kernel
theorem dX6_giveByTwo_84 : decode (z_c zX6_giveByTwo) 84 = .ok (.iaload, 1) := by decide +kernel
theorem dX6_giveByTwo_85 : decode (z_c zX6_giveByTwo) 85 = .ok (.if_icmp .ge 94, 3) := by decide +kernel
theorem dX6_giveByTwo_88 : decode (z_c zX6_giveByTwo) 88 = .ok (.aload_n 2, 1) := by decide +kernel
theorem dX6_giveByTwo_89 : decode (z_c zX6_giveByTwo) 89 = .ok (.getfield 164, 3) := by decide +kernel
theorem dX6_giveByTwo_92 : decode (z_c zX6_giveByTwo) 92 = .ok (.iload 7, 2) := by decide +kernel
theorem dX6_giveByTwo_94 : decode (z_c zX6_giveByTwo) 94 = .ok (.bipush 8, 2) := by decide +kernel
theorem dX6_giveByTwo_96 : decode (z_c zX6_giveByTwo) 96 = .ok (.imul, 1) := by decide +kernel
theorem dX6_giveByTwo_97 : decode (z_c zX6_giveByTwo) 97 = .ok (.iload 8, 2) := by decide +kernel
theorem dX6_giveByTwo_99 : decode (z_c zX6_giveByTwo) 99 = .ok (.iadd, 1) := by decide +kernel
theorem dX6_giveByTwo_100 : decode (z_c zX6_giveByTwo) 100 = .ok (.iaload, 1) := by decide +kernel
theorem dX6_giveByTwo_101 : decode (z_c zX6_giveByTwo) 101 = .ok (.istore 9, 2) := by decide +kernel
theorem dX6_giveByTwo_103 : decode (z_c zX6_giveByTwo) 103 = .ok (.lload_n 3, 1) := by decide +kernel
theorem dX6_giveByTwo_104 : decode (z_c zX6_giveByTwo) 104 = .ok (.aload_n 2, 1) := by decide +kernel
theorem dX6_giveByTwo_105 : decode (z_c zX6_giveByTwo) 105 = .ok (.getfield 132, 3) := by decide +kernel
theorem dX6_giveByTwo_108 : decode (z_c zX6_giveByTwo) 108 = .ok (.iload 9, 2) := by decide +kernel
theorem dX6_giveByTwo_110 : decode (z_c zX6_giveByTwo) 110 = .ok (.laload, 1) := by decide +kernel
theorem dX6_giveByTwo_111 : decode (z_c zX6_giveByTwo) 111 = .ok (.ldc2_w 167, 3) := by decide +kernel
theorem dX6_giveByTwo_114 : decode (z_c zX6_giveByTwo) 114 = .ok (.lxor, 1) := by decide +kernel
theorem dX6_giveByTwo_115 : decode (z_c zX6_giveByTwo) 115 = .ok (.land, 1) := by decide +kernel
theorem dX6_giveByTwo_116 : decode (z_c zX6_giveByTwo) 116 = .ok (.lload 5, 2) := by decide +kernel
theorem dX6_giveByTwo_118 : decode (z_c zX6_giveByTwo) 118 = .ok (.aload_n 2, 1) := by decide +kernel
theorem dX6_giveByTwo_119 : decode (z_c zX6_giveByTwo) 119 = .ok (.getfield 135, 3) := by decide +kernel
theorem dX6_giveByTwo_122 : decode (z_c zX6_giveByTwo) 122 = .ok (.iload 9, 2) := by decide +kernel
theorem dX6_giveByTwo_124 : decode (z_c zX6_giveByTwo) 124 = .ok (.laload, 1) := by decide +kernel
theorem dX6_giveByTwo_125 : decode (z_c zX6_giveByTwo) 125 = .ok (.ldc2_w 167, 3) := by decide +kernel
theorem dX6_giveByTwo_128 : decode (z_c zX6_giveByTwo) 128 = .ok (.lxor, 1) := by decide +kernel
theorem dX6_giveByTwo_129 : decode (z_c zX6_giveByTwo) 129 = .ok (.land, 1) := by decide +kernel
theorem dX6_giveByTwo_130 : decode (z_c zX6_giveByTwo) 130 = .ok (.lor, 1) := by decide +kernel
theorem dX6_giveByTwo_131 : decode (z_c zX6_giveByTwo) 131 = .ok (.lstore 10, 2) := by decide +kernel
theorem dX6_giveByTwo_133 : decode (z_c zX6_giveByTwo) 133 = .ok (.lload 10, 2) := by decide +kernel
theorem dX6_giveByTwo_135 : decode (z_c zX6_giveByTwo) 135 = .ok (.lconst 0, 1) := by decide +kernel
theorem dX6_giveByTwo_136 : decode (z_c zX6_giveByTwo) 136 = .ok (.lcmp, 1) := by decide +kernel
theorem dX6_giveByTwo_137 : decode (z_c zX6_giveByTwo) 137 = .ok (.ifCond .ne 36, 3) := by decide +kernel
theorem dX6_giveByTwo_140 : decode (z_c zX6_giveByTwo) 140 = .ok (.iload 9, 2) := by decide +kernel
theorem dX6_giveByTwo_142 : decode (z_c zX6_giveByTwo) 142 = .ok (.iload_n 1, 1) := by decide +kernel
theorem dX6_giveByTwo_143 : decode (z_c zX6_giveByTwo) 143 = .ok (.if_icmp .eq 30, 3) := by decide +kernel
theorem dX6_giveByTwo_146 : decode (z_c zX6_giveByTwo) 146 = .ok (.aload_n 0, 1) := by decide +kernel
theorem dX6_giveByTwo_147 : decode (z_c zX6_giveByTwo) 147 = .ok (.getfield 34, 3) := by decide +kernel
theorem dX6_giveByTwo_150 : decode (z_c zX6_giveByTwo) 150 = .ok (.getfield 78, 3) := by decide +kernel
theorem dX6_giveByTwo_153 : decode (z_c zX6_giveByTwo) 153 = .ok (.iload 9, 2) := by decide +kernel
theorem dX6_giveByTwo_155 : decode (z_c zX6_giveByTwo) 155 = .ok (.invokevirtual 81, 3) := by decide +kernel
theorem dX6_giveByTwo_158 : decode (z_c zX6_giveByTwo) 158 = .ok (.ifCond .eq 15, 3) := by decide +kernel
theorem dX6_giveByTwo_161 : decode (z_c zX6_giveByTwo) 161 = .ok (.aload_n 0, 1) := by decide +kernel
theorem dX6_giveByTwo_162 : decode (z_c zX6_giveByTwo) 162 = .ok (.iload_n 1, 1) := by decide +kernel
theorem dX6_giveByTwo_163 : decode (z_c zX6_giveByTwo) 163 = .ok (.iload 9, 2) := by decide +kernel
theorem dX6_giveByTwo_165 : decode (z_c zX6_giveByTwo) 165 = .ok (.invokevirtual 169, 3) := by decide +kernel
theorem dX6_giveByTwo_168 : decode (z_c zX6_giveByTwo) 168 = .ok (.ifCond .eq 5, 3) := by decide +kernel
theorem dX6_giveByTwo_171 : decode (z_c zX6_giveByTwo) 171 = .ok (.iconst 1, 1) := by decide +kernel
theorem dX6_giveByTwo_172 : decode (z_c zX6_giveByTwo) 172 = .ok (.ireturn, 1) := by decide +kernel
theorem dX6_giveByTwo_173 : decode (z_c zX6_giveByTwo) 173 = .ok (.iinc 8 1, 3) := by decide +kernel
theorem dX6_giveByTwo_176 : decode (z_c zX6_giveByTwo) 176 = .ok (.goto (-100), 3) := by decide +kernel
theorem dX6_giveByTwo_179 : decode (z_c zX6_giveByTwo) 179 = .ok (.iconst 0, 1) := by decide +kernel
theorem dX6_giveByTwo_180 : decode (z_c zX6_giveByTwo) 180 = .ok (.ireturn, 1) := by decide +kernel
theorem dX6_giveByPair_0 : decode (z_c zX6_giveByPair) 0 = .ok (.aload_n 0, 1) := by decide +kernel
theorem dX6_giveByPair_1 : decode (z_c zX6_giveByPair) 1 = .ok (.getfield 34, 3) := by decide +kernel
theorem dX6_giveByPair_4 : decode (z_c zX6_giveByPair) 4 = .ok (.getfield 68, 3) := by decide +kernel
theorem dX6_giveByPair_7 : decode (z_c zX6_giveByPair) 7 = .ok (.astore_n 3, 1) := by decide +kernel
theorem dX6_giveByPair_8 : decode (z_c zX6_giveByPair) 8 = .ok (.aload_n 3, 1) := by decide +kernel
theorem dX6_giveByPair_9 : decode (z_c zX6_giveByPair) 9 = .ok (.getfield 132, 3) := by decide +kernel
theorem dX6_giveByPair_12 : decode (z_c zX6_giveByPair) 12 = .ok (.iload_n 2, 1) := by decide +kernel
theorem dX6_giveByPair_13 : decode (z_c zX6_giveByPair) 13 = .ok (.laload, 1) := by decide +kernel
theorem dX6_giveByPair_14 : decode (z_c zX6_giveByPair) 14 = .ok (.aload_n 0, 1) := by decide +kernel
theorem dX6_giveByPair_15 : decode (z_c zX6_giveByPair) 15 = .ok (.getfield 28, 3) := by decide +kernel
theorem dX6_giveByPair_18 : decode (z_c zX6_giveByPair) 18 = .ok (.getfield 116, 3) := by decide +kernel
theorem dX6_giveByPair_21 : decode (z_c zX6_giveByPair) 21 = .ok (.land, 1) := by decide +kernel
theorem dX6_giveByPair_22 : decode (z_c zX6_giveByPair) 22 = .ok (.aload_n 3, 1) := by decide +kernel
theorem dX6_giveByPair_23 : decode (z_c zX6_giveByPair) 23 = .ok (.getfield 132, 3) := by decide +kernel
theorem dX6_giveByPair_26 : decode (z_c zX6_giveByPair) 26 = .ok (.iload_n 1, 1) := by decide +kernel
theorem dX6_giveByPair_27 : decode (z_c zX6_giveByPair) 27 = .ok (.laload, 1) := by decide +kernel
theorem dX6_giveByPair_28 : decode (z_c zX6_giveByPair) 28 = .ok (.ldc2_w 167, 3) := by decide +kernel
theorem dX6_giveByPair_31 : decode (z_c zX6_giveByPair) 31 = .ok (.lxor, 1) := by decide +kernel
theorem dX6_giveByPair_32 : decode (z_c zX6_giveByPair) 32 = .ok (.land, 1) := by decide +kernel
theorem dX6_giveByPair_33 : decode (z_c zX6_giveByPair) 33 = .ok (.lstore 4, 2) := by decide +kernel
theorem dX6_giveByPair_35 : decode (z_c zX6_giveByPair) 35 = .ok (.aload_n 3, 1) := by decide +kernel
theorem dX6_giveByPair_36 : decode (z_c zX6_giveByPair) 36 = .ok (.getfield 135, 3) := by decide +kernel
theorem dX6_giveByPair_39 : decode (z_c zX6_giveByPair) 39 = .ok (.iload_n 2, 1) := by decide +kernel
theorem dX6_giveByPair_40 : decode (z_c zX6_giveByPair) 40 = .ok (.laload, 1) := by decide +kernel
theorem dX6_giveByPair_41 : decode (z_c zX6_giveByPair) 41 = .ok (.aload_n 0, 1) := by decide +kernel
theorem dX6_giveByPair_42 : decode (z_c zX6_giveByPair) 42 = .ok (.getfield 28, 3) := by decide +kernel
theorem dX6_giveByPair_45 : decode (z_c zX6_giveByPair) 45 = .ok (.getfield 120, 3) := by decide +kernel
theorem dX6_giveByPair_48 : decode (z_c zX6_giveByPair) 48 = .ok (.land, 1) := by decide +kernel
theorem dX6_giveByPair_49 : decode (z_c zX6_giveByPair) 49 = .ok (.aload_n 3, 1) := by decide +kernel
theorem dX6_giveByPair_50 : decode (z_c zX6_giveByPair) 50 = .ok (.getfield 135, 3) := by decide +kernel
theorem dX6_giveByPair_53 : decode (z_c zX6_giveByPair) 53 = .ok (.iload_n 1, 1) := by decide +kernel
theorem dX6_giveByPair_54 : decode (z_c zX6_giveByPair) 54 = .ok (.laload, 1) := by decide +kernel
theorem dX6_giveByPair_55 : decode (z_c zX6_giveByPair) 55 = .ok (.ldc2_w 167, 3) := by decide +kernel
theorem dX6_giveByPair_58 : decode (z_c zX6_giveByPair) 58 = .ok (.lxor, 1) := by decide +kernel
theorem dX6_giveByPair_59 : decode (z_c zX6_giveByPair) 59 = .ok (.land, 1) := by decide +kernel
theorem dX6_giveByPair_60 : decode (z_c zX6_giveByPair) 60 = .ok (.lstore 6, 2) := by decide +kernel
theorem dX6_giveByPair_62 : decode (z_c zX6_giveByPair) 62 = .ok (.aload_n 0, 1) := by decide +kernel
theorem dX6_giveByPair_63 : decode (z_c zX6_giveByPair) 63 = .ok (.getfield 34, 3) := by decide +kernel
theorem dX6_giveByPair_66 : decode (z_c zX6_giveByPair) 66 = .ok (.iload_n 2, 1) := by decide +kernel
theorem dX6_giveByPair_67 : decode (z_c zX6_giveByPair) 67 = .ok (.aload_n 0, 1) := by decide +kernel
theorem dX6_giveByPair_68 : decode (z_c zX6_giveByPair) 68 = .ok (.getfield 31, 3) := by decide +kernel
theorem dX6_giveByPair_71 : decode (z_c zX6_giveByPair) 71 = .ok (.invokevirtual 138, 3) := by decide +kernel
theorem dX6_giveByPair_74 : decode (z_c zX6_giveByPair) 74 = .ok (.aload_n 0, 1) := by decide +kernel
theorem dX6_giveByPair_75 : decode (z_c zX6_giveByPair) 75 = .ok (.getfield 34, 3) := by decide +kernel
theorem dX6_giveByPair_78 : decode (z_c zX6_giveByPair) 78 = .ok (.iload_n 1, 1) := by decide +kernel
theorem dX6_giveByPair_79 : decode (z_c zX6_giveByPair) 79 = .ok (.aload_n 0, 1) := by decide +kernel
theorem dX6_giveByPair_80 : decode (z_c zX6_giveByPair) 80 = .ok (.getfield 31, 3) := by decide +kernel
theorem dX6_giveByPair_83 : decode (z_c zX6_giveByPair) 83 = .ok (.invokevirtual 138, 3) := by decide +kernel
theorem dX6_giveByPair_86 : decode (z_c zX6_giveByPair) 86 = .ok (.isub, 1) := by decide +kernel
theorem dX6_giveByPair_87 : decode (z_c zX6_giveByPair) 87 = .ok (.istore 8, 2) := by decide +kernel
theorem dX6_giveByPair_89 : decode (z_c zX6_giveByPair) 89 = .ok (.lload 4, 2) := by decide +kernel
theorem dX6_giveByPair_91 : decode (z_c zX6_giveByPair) 91 = .ok (.lload 6, 2) := by decide +kernel
theorem dX6_giveByPair_93 : decode (z_c zX6_giveByPair) 93 = .ok (.lor, 1) := by decide +kernel
theorem dX6_giveByPair_94 : decode (z_c zX6_giveByPair) 94 = .ok (.lconst 0, 1) := by decide +kernel
theorem dX6_giveByPair_95 : decode (z_c zX6_giveByPair) 95 = .ok (.lcmp, 1) := by decide +kernel
theorem dX6_giveByPair_96 : decode (z_c zX6_giveByPair) 96 = .ok (.ifCond .eq 16, 3) := by decide +kernel
theorem dX6_giveByPair_99 : decode (z_c zX6_giveByPair) 99 = .ok (.aload_n 0, 1) := by decide +kernel
theorem dX6_giveByPair_100 : decode (z_c zX6_giveByPair) 100 = .ok (.lload 4, 2) := by decide +kernel
theorem dX6_giveByPair_102 : decode (z_c zX6_giveByPair) 102 = .ok (.lload 6, 2) := by decide +kernel
theorem dX6_giveByPair_104 : decode (z_c zX6_giveByPair) 104 = .ok (.iload 8, 2) := by decide +kernel
theorem dX6_giveByPair_106 : decode (z_c zX6_giveByPair) 106 = .ok (.invokevirtual 142, 3) := by decide +kernel
theorem dX6_giveByPair_109 : decode (z_c zX6_giveByPair) 109 = .ok (.ifCond .ne 5, 3) := by decide +kernel
theorem dX6_giveByPair_112 : decode (z_c zX6_giveByPair) 112 = .ok (.iconst 0, 1) := by decide +kernel
theorem dX6_giveByPair_113 : decode (z_c zX6_giveByPair) 113 = .ok (.ireturn, 1) := by decide +kernel
theorem dX6_giveByPair_114 : decode (z_c zX6_giveByPair) 114 = .ok (.aload_n 0, 1) := by decide +kernel
theorem dX6_giveByPair_115 : decode (z_c zX6_giveByPair) 115 = .ok (.iconst 2, 1) := by decide +kernel
theorem dX6_giveByPair_116 : decode (z_c zX6_giveByPair) 116 = .ok (.putfield 129, 3) := by decide +kernel
theorem dX6_giveByPair_119 : decode (z_c zX6_giveByPair) 119 = .ok (.aload_n 0, 1) := by decide +kernel
theorem dX6_giveByPair_120 : decode (z_c zX6_giveByPair) 120 = .ok (.getfield 18, 3) := by decide +kernel
theorem dX6_giveByPair_123 : decode (z_c zX6_giveByPair) 123 = .ok (.invokevirtual 146, 3) := by decide +kernel
theorem dX6_giveByPair_126 : decode (z_c zX6_giveByPair) 126 = .ok (.aload_n 0, 1) := by decide +kernel
theorem dX6_giveByPair_127 : decode (z_c zX6_giveByPair) 127 = .ok (.iload_n 1, 1) := by decide +kernel
theorem dX6_giveByPair_128 : decode (z_c zX6_giveByPair) 128 = .ok (.invokevirtual 149, 3) := by decide +kernel
theorem dX6_giveByPair_131 : decode (z_c zX6_giveByPair) 131 = .ok (.aload_n 0, 1) := by decide +kernel
theorem dX6_giveByPair_132 : decode (z_c zX6_giveByPair) 132 = .ok (.iload_n 2, 1) := by decide +kernel
theorem dX6_giveByPair_133 : decode (z_c zX6_giveByPair) 133 = .ok (.invokevirtual 149, 3) := by decide +kernel
theorem dX6_giveByPair_136 : decode (z_c zX6_giveByPair) 136 = .ok (.iconst 1, 1) := by decide +kernel
theorem dX6_giveByPair_137 : decode (z_c zX6_giveByPair) 137 = .ok (.ireturn, 1) := by decide +kernel
theorem dX6_giveByAll_0 : decode (z_c zX6_giveByAll) 0 = .ok (.aload_n 0, 1) := by decide +kernel
theorem dX6_giveByAll_1 : decode (z_c zX6_giveByAll) 1 = .ok (.getfield 12, 3) := by decide +kernel
theorem dX6_giveByAll_4 : decode (z_c zX6_giveByAll) 4 = .ok (.aload_n 0, 1) := by decide +kernel
theorem dX6_giveByAll_5 : decode (z_c zX6_giveByAll) 5 = .ok (.getfield 38, 3) := by decide +kernel
theorem dX6_giveByAll_8 : decode (z_c zX6_giveByAll) 8 = .ok (.getfield 173, 3) := by decide +kernel
theorem dX6_giveByAll_11 : decode (z_c zX6_giveByAll) 11 = .ok (.invokevirtual 47, 3) := by decide +kernel
theorem dX6_giveByAll_14 : decode (z_c zX6_giveByAll) 14 = .ok (.aload_n 0, 1) := by decide +kernel
theorem dX6_giveByAll_15 : decode (z_c zX6_giveByAll) 15 = .ok (.getfield 12, 3) := by decide +kernel
theorem dX6_giveByAll_18 : decode (z_c zX6_giveByAll) 18 = .ok (.aload_n 0, 1) := by decide +kernel
theorem dX6_giveByAll_19 : decode (z_c zX6_giveByAll) 19 = .ok (.getfield 38, 3) := by decide +kernel
theorem dX6_giveByAll_22 : decode (z_c zX6_giveByAll) 22 = .ok (.getfield 176, 3) := by decide +kernel
theorem dX6_giveByAll_25 : decode (z_c zX6_giveByAll) 25 = .ok (.invokevirtual 126, 3) := by decide +kernel
theorem dX6_giveByAll_28 : decode (z_c zX6_giveByAll) 28 = .ok (.aload_n 0, 1) := by decide +kernel
theorem dX6_giveByAll_29 : decode (z_c zX6_giveByAll) 29 = .ok (.getfield 12, 3) := by decide +kernel
theorem dX6_giveByAll_32 : decode (z_c zX6_giveByAll) 32 = .ok (.aload_n 0, 1) := by decide +kernel
theorem dX6_giveByAll_33 : decode (z_c zX6_giveByAll) 33 = .ok (.getfield 28, 3) := by decide +kernel
theorem dX6_giveByAll_36 : decode (z_c zX6_giveByAll) 36 = .ok (.invokevirtual 65, 3) := by decide +kernel
theorem dX6_giveByAll_39 : decode (z_c zX6_giveByAll) 39 = .ok (.aload_n 0, 1) := by decide +kernel
theorem dX6_giveByAll_40 : decode (z_c zX6_giveByAll) 40 = .ok (.getfield 12, 3) := by decide +kernel
theorem dX6_giveByAll_43 : decode (z_c zX6_giveByAll) 43 = .ok (.invokevirtual 179, 3) := by decide +kernel
theorem dX6_giveByAll_46 : decode (z_c zX6_giveByAll) 46 = .ok (.istore_n 1, 1) := by decide +kernel
theorem dX6_giveByAll_47 : decode (z_c zX6_giveByAll) 47 = .ok (.aload_n 0, 1) := by decide +kernel
theorem dX6_giveByAll_48 : decode (z_c zX6_giveByAll) 48 = .ok (.getfield 34, 3) := by decide +kernel
theorem dX6_giveByAll_51 : decode (z_c zX6_giveByAll) 51 = .ok (.getfield 68, 3) := by decide +kernel
theorem dX6_giveByAll_54 : decode (z_c zX6_giveByAll) 54 = .ok (.iload_n 1, 1) := by decide +kernel
theorem dX6_giveByAll_55 : decode (z_c zX6_giveByAll) 55 = .ok (.invokevirtual 157, 3) := by decide +kernel
theorem dX6_giveByAll_58 : decode (z_c zX6_giveByAll) 58 = .ok (.ifCond .ne 5, 3) := by decide +kernel
theorem dX6_giveByAll_61 : decode (z_c zX6_giveByAll) 61 = .ok (.iconst 0, 1) := by decide +kernel
theorem dX6_giveByAll_62 : decode (z_c zX6_giveByAll) 62 = .ok (.ireturn, 1) := by decide +kernel
theorem dX6_giveByAll_63 : decode (z_c zX6_giveByAll) 63 = .ok (.aload_n 0, 1) := by decide +kernel
theorem dX6_giveByAll_64 : decode (z_c zX6_giveByAll) 64 = .ok (.getfield 12, 3) := by decide +kernel
theorem dX6_giveByAll_67 : decode (z_c zX6_giveByAll) 67 = .ok (.invokevirtual 146, 3) := by decide +kernel
theorem dX6_giveByAll_70 : decode (z_c zX6_giveByAll) 70 = .ok (.aload_n 0, 1) := by decide +kernel
theorem dX6_giveByAll_71 : decode (z_c zX6_giveByAll) 71 = .ok (.getfield 12, 3) := by decide +kernel
theorem dX6_giveByAll_74 : decode (z_c zX6_giveByAll) 74 = .ok (.iload_n 1, 1) := by decide +kernel
theorem dX6_giveByAll_75 : decode (z_c zX6_giveByAll) 75 = .ok (.invokevirtual 183, 3) := by decide +kernel
theorem dX6_giveByAll_78 : decode (z_c zX6_giveByAll) 78 = .ok (.aload_n 0, 1) := by decide +kernel
theorem dX6_giveByAll_79 : decode (z_c zX6_giveByAll) 79 = .ok (.aload_n 0, 1) := by decide +kernel
theorem dX6_giveByAll_80 : decode (z_c zX6_giveByAll) 80 = .ok (.getfield 38, 3) := by decide +kernel
theorem dX6_giveByAll_83 : decode (z_c zX6_giveByAll) 83 = .ok (.getfield 173, 3) := by decide +kernel
theorem dX6_giveByAll_86 : decode (z_c zX6_giveByAll) 86 = .ok (.iload_n 1, 1) := by decide +kernel
theorem dX6_giveByAll_87 : decode (z_c zX6_giveByAll) 87 = .ok (.invokevirtual 81, 3) := by decide +kernel
theorem dX6_giveByAll_90 : decode (z_c zX6_giveByAll) 90 = .ok (.putfield 113, 3) := by decide +kernel
theorem dX6_giveByAll_93 : decode (z_c zX6_giveByAll) 93 = .ok (.aload_n 0, 1) := by decide +kernel
theorem dX6_giveByAll_94 : decode (z_c zX6_giveByAll) 94 = .ok (.iconst 3, 1) := by decide +kernel
theorem dX6_giveByAll_95 : decode (z_c zX6_giveByAll) 95 = .ok (.putfield 129, 3) := by decide +kernel
theorem dX6_giveByAll_98 : decode (z_c zX6_giveByAll) 98 = .ok (.aload_n 0, 1) := by decide +kernel
theorem dX6_giveByAll_99 : decode (z_c zX6_giveByAll) 99 = .ok (.getfield 18, 3) := by decide +kernel
theorem dX6_giveByAll_102 : decode (z_c zX6_giveByAll) 102 = .ok (.invokevirtual 146, 3) := by decide +kernel
theorem dX6_giveByAll_105 : decode (z_c zX6_giveByAll) 105 = .ok (.aload_n 0, 1) := by decide +kernel
theorem dX6_giveByAll_106 : decode (z_c zX6_giveByAll) 106 = .ok (.getfield 18, 3) := by decide +kernel
theorem dX6_giveByAll_109 : decode (z_c zX6_giveByAll) 109 = .ok (.bipush 100, 2) := by decide +kernel
theorem dX6_giveByAll_111 : decode (z_c zX6_giveByAll) 111 = .ok (.invokevirtual 183, 3) := by decide +kernel
theorem dX6_giveByAll_114 : decode (z_c zX6_giveByAll) 114 = .ok (.iconst 0, 1) := by decide +kernel
theorem dX6_giveByAll_115 : decode (z_c zX6_giveByAll) 115 = .ok (.istore_n 2, 1) := by decide +kernel
theorem dX6_giveByAll_116 : decode (z_c zX6_giveByAll) 116 = .ok (.iload_n 2, 1) := by decide +kernel
theorem dX6_giveByAll_117 : decode (z_c zX6_giveByAll) 117 = .ok (.aload_n 0, 1) := by decide +kernel
theorem dX6_giveByAll_118 : decode (z_c zX6_giveByAll) 118 = .ok (.getfield 34, 3) := by decide +kernel
theorem dX6_giveByAll_121 : decode (z_c zX6_giveByAll) 121 = .ok (.getfield 68, 3) := by decide +kernel
theorem dX6_giveByAll_124 : decode (z_c zX6_giveByAll) 124 = .ok (.getfield 72, 3) := by decide +kernel
theorem dX6_giveByAll_127 : decode (z_c zX6_giveByAll) 127 = .ok (.if_icmp .ge 52, 3) := by decide +kernel
theorem dX6_giveByAll_130 : decode (z_c zX6_giveByAll) 130 = .ok (.aload_n 0, 1) := by decide +kernel
theorem dX6_giveByAll_131 : decode (z_c zX6_giveByAll) 131 = .ok (.getfield 34, 3) := by decide +kernel
theorem dX6_giveByAll_134 : decode (z_c zX6_giveByAll) 134 = .ok (.getfield 78, 3) := by decide +kernel
theorem dX6_giveByAll_137 : decode (z_c zX6_giveByAll) 137 = .ok (.iload_n 2, 1) := by decide +kernel
theorem dX6_giveByAll_138 : decode (z_c zX6_giveByAll) 138 = .ok (.invokevirtual 81, 3) := by decide +kernel
theorem dX6_giveByAll_141 : decode (z_c zX6_giveByAll) 141 = .ok (.ifCond .eq 32, 3) := by decide +kernel
theorem dX6_giveByAll_144 : decode (z_c zX6_giveByAll) 144 = .ok (.aload_n 0, 1) := by decide +kernel
theorem dX6_giveByAll_145 : decode (z_c zX6_giveByAll) 145 = .ok (.getfield 34, 3) := by decide +kernel
theorem dX6_giveByAll_148 : decode (z_c zX6_giveByAll) 148 = .ok (.getfield 68, 3) := by decide +kernel
theorem dX6_giveByAll_151 : decode (z_c zX6_giveByAll) 151 = .ok (.iload_n 2, 1) := by decide +kernel
theorem dX6_giveByAll_152 : decode (z_c zX6_giveByAll) 152 = .ok (.aload_n 0, 1) := by decide +kernel
theorem dX6_giveByAll_153 : decode (z_c zX6_giveByAll) 153 = .ok (.getfield 34, 3) := by decide +kernel
theorem dX6_giveByAll_156 : decode (z_c zX6_giveByAll) 156 = .ok (.getfield 42, 3) := by decide +kernel
theorem dX6_giveByAll_159 : decode (z_c zX6_giveByAll) 159 = .ok (.invokevirtual 186, 3) := by decide +kernel
theorem dX6_giveByAll_162 : decode (z_c zX6_giveByAll) 162 = .ok (.ifCond .eq 11, 3) := by decide +kernel
theorem dX6_giveByAll_165 : decode (z_c zX6_giveByAll) 165 = .ok (.aload_n 0, 1) := by decide +kernel
theorem dX6_giveByAll_166 : decode (z_c zX6_giveByAll) 166 = .ok (.getfield 18, 3) := by decide +kernel
theorem dX6_giveByAll_169 : decode (z_c zX6_giveByAll) 169 = .ok (.iload_n 2, 1) := by decide +kernel
theorem dX6_giveByAll_170 : decode (z_c zX6_giveByAll) 170 = .ok (.invokevirtual 183, 3) := by decide +kernel
theorem dX6_giveByAll_173 : decode (z_c zX6_giveByAll) 173 = .ok (.iinc 2 1, 3) := by decide +kernel
theorem dX6_giveByAll_176 : decode (z_c zX6_giveByAll) 176 = .ok (.goto (-60), 3) := by decide +kernel
theorem dX6_giveByAll_179 : decode (z_c zX6_giveByAll) 179 = .ok (.iconst 1, 1) := by decide +kernel
theorem dX6_giveByAll_180 : decode (z_c zX6_giveByAll) 180 = .ok (.ireturn, 1) := by decide +kernel
theorem dX6_give_0 : decode (z_c zX6_give) 0 = .ok (.iload 5, 2) := by decide +kernel
theorem dX6_give_2 : decode (z_c zX6_give) 2 = .ok (.ifCond .eq 19, 3) := by decide +kernel
theorem dX6_give_5 : decode (z_c zX6_give) 5 = .ok (.iload 5, 2) := by decide +kernel
theorem dX6_give_7 : decode (z_c zX6_give) 7 = .ok (.lload_n 1, 1) := by decide +kernel
theorem dX6_give_8 : decode (z_c zX6_give) 8 = .ok (.invokestatic 190, 3) := by decide +kernel
theorem dX6_give_11 : decode (z_c zX6_give) 11 = .ok (.lload_n 3, 1) := by decide +kernel
theorem dX6_give_12 : decode (z_c zX6_give) 12 = .ok (.invokestatic 190, 3) := by decide +kernel
theorem dX6_give_15 : decode (z_c zX6_give) 15 = .ok (.iadd, 1) := by decide +kernel
theorem dX6_give_16 : decode (z_c zX6_give) 16 = .ok (.if_icmp .eq 5, 3) := by decide +kernel
theorem dX6_give_19 : decode (z_c zX6_give) 19 = .ok (.iconst 0, 1) := by decide +kernel
theorem dX6_give_20 : decode (z_c zX6_give) 20 = .ok (.ireturn, 1) := by decide +kernel
theorem dX6_give_21 : decode (z_c zX6_give) 21 = .ok (.aload_n 0, 1) := by decide +kernel
theorem dX6_give_22 : decode (z_c zX6_give) 22 = .ok (.getfield 12, 3) := by decide +kernel
theorem dX6_give_25 : decode (z_c zX6_give) 25 = .ok (.lload_n 1, 1) := by decide +kernel
theorem dX6_give_26 : decode (z_c zX6_give) 26 = .ok (.putfield 116, 3) := by decide +kernel
theorem dX6_give_29 : decode (z_c zX6_give) 29 = .ok (.aload_n 0, 1) := by decide +kernel
theorem dX6_give_30 : decode (z_c zX6_give) 30 = .ok (.getfield 12, 3) := by decide +kernel
theorem dX6_give_33 : decode (z_c zX6_give) 33 = .ok (.lload_n 3, 1) := by decide +kernel
theorem dX6_give_34 : decode (z_c zX6_give) 34 = .ok (.putfield 120, 3) := by decide +kernel
theorem dX6_give_37 : decode (z_c zX6_give) 37 = .ok (.aload_n 0, 1) := by decide +kernel
theorem dX6_give_38 : decode (z_c zX6_give) 38 = .ok (.iload 5, 2) := by decide +kernel
theorem dX6_give_40 : decode (z_c zX6_give) 40 = .ok (.ifCond .eq 7, 3) := by decide +kernel
theorem dX6_give_43 : decode (z_c zX6_give) 43 = .ok (.iconst 1, 1) := by decide +kernel
theorem dX6_give_44 : decode (z_c zX6_give) 44 = .ok (.goto 4, 3) := by decide +kernel
theorem dX6_give_47 : decode (z_c zX6_give) 47 = .ok (.iconst 0, 1) := by decide +kernel
theorem dX6_give_48 : decode (z_c zX6_give) 48 = .ok (.putfield 113, 3) := by decide +kernel
theorem dX6_give_51 : decode (z_c zX6_give) 51 = .ok (.iconst 1, 1) := by decide +kernel
theorem dX6_give_52 : decode (z_c zX6_give) 52 = .ok (.ireturn, 1) := by decide +kernel
theorem dX6_blame_0 : decode (z_c zX6_blame) 0 = .ok (.aload_n 0, 1) := by decide +kernel
theorem dX6_blame_1 : decode (z_c zX6_blame) 1 = .ok (.getfield 18, 3) := by decide +kernel
theorem dX6_blame_4 : decode (z_c zX6_blame) 4 = .ok (.iload_n 1, 1) := by decide +kernel
theorem dX6_blame_5 : decode (z_c zX6_blame) 5 = .ok (.invokevirtual 183, 3) := by decide +kernel
theorem dX6_blame_8 : decode (z_c zX6_blame) 8 = .ok (.iconst 0, 1) := by decide +kernel
theorem dX6_blame_9 : decode (z_c zX6_blame) 9 = .ok (.istore_n 2, 1) := by decide +kernel
theorem dX6_blame_10 : decode (z_c zX6_blame) 10 = .ok (.iload_n 2, 1) := by decide +kernel
theorem dX6_blame_11 : decode (z_c zX6_blame) 11 = .ok (.aload_n 0, 1) := by decide +kernel
theorem dX6_blame_12 : decode (z_c zX6_blame) 12 = .ok (.getfield 34, 3) := by decide +kernel
theorem dX6_blame_15 : decode (z_c zX6_blame) 15 = .ok (.getfield 68, 3) := by decide +kernel
theorem dX6_blame_18 : decode (z_c zX6_blame) 18 = .ok (.getfield 160, 3) := by decide +kernel
theorem dX6_blame_21 : decode (z_c zX6_blame) 21 = .ok (.iload_n 1, 1) := by decide +kernel
theorem dX6_blame_22 : decode (z_c zX6_blame) 22 = .ok (.iaload, 1) := by decide +kernel
theorem dX6_blame_23 : decode (z_c zX6_blame) 23 = .ok (.if_icmp .ge 88, 3) := by decide +kernel
theorem dX6_blame_26 : decode (z_c zX6_blame) 26 = .ok (.aload_n 0, 1) := by decide +kernel
theorem dX6_blame_27 : decode (z_c zX6_blame) 27 = .ok (.getfield 34, 3) := by decide +kernel
theorem dX6_blame_30 : decode (z_c zX6_blame) 30 = .ok (.getfield 68, 3) := by decide +kernel
theorem dX6_blame_33 : decode (z_c zX6_blame) 33 = .ok (.getfield 164, 3) := by decide +kernel
theorem dX6_blame_36 : decode (z_c zX6_blame) 36 = .ok (.iload_n 1, 1) := by decide +kernel
theorem dX6_blame_37 : decode (z_c zX6_blame) 37 = .ok (.bipush 8, 2) := by decide +kernel
theorem dX6_blame_39 : decode (z_c zX6_blame) 39 = .ok (.imul, 1) := by decide +kernel
theorem dX6_blame_40 : decode (z_c zX6_blame) 40 = .ok (.iload_n 2, 1) := by decide +kernel
theorem dX6_blame_41 : decode (z_c zX6_blame) 41 = .ok (.iadd, 1) := by decide +kernel
theorem dX6_blame_42 : decode (z_c zX6_blame) 42 = .ok (.iaload, 1) := by decide +kernel
theorem dX6_blame_43 : decode (z_c zX6_blame) 43 = .ok (.istore_n 3, 1) := by decide +kernel
theorem dX6_blame_44 : decode (z_c zX6_blame) 44 = .ok (.aload_n 0, 1) := by decide +kernel
theorem dX6_blame_45 : decode (z_c zX6_blame) 45 = .ok (.getfield 34, 3) := by decide +kernel
theorem dX6_blame_48 : decode (z_c zX6_blame) 48 = .ok (.getfield 42, 3) := by decide +kernel
theorem dX6_blame_51 : decode (z_c zX6_blame) 51 = .ok (.iload_n 3, 1) := by decide +kernel
theorem dX6_blame_52 : decode (z_c zX6_blame) 52 = .ok (.invokevirtual 81, 3) := by decide +kernel
theorem dX6_blame_55 : decode (z_c zX6_blame) 55 = .ok (.ifCond .eq 50, 3) := by decide +kernel
theorem dX6_blame_58 : decode (z_c zX6_blame) 58 = .ok (.aload_n 0, 1) := by decide +kernel
theorem dX6_blame_59 : decode (z_c zX6_blame) 59 = .ok (.getfield 28, 3) := by decide +kernel
theorem dX6_blame_62 : decode (z_c zX6_blame) 62 = .ok (.iload_n 3, 1) := by decide +kernel
theorem dX6_blame_63 : decode (z_c zX6_blame) 63 = .ok (.invokevirtual 81, 3) := by decide +kernel
theorem dX6_blame_66 : decode (z_c zX6_blame) 66 = .ok (.ifCond .ne 39, 3) := by decide +kernel
theorem dX6_blame_69 : decode (z_c zX6_blame) 69 = .ok (.aload_n 0, 1) := by decide +kernel
theorem dX6_blame_70 : decode (z_c zX6_blame) 70 = .ok (.getfield 18, 3) := by decide +kernel
theorem dX6_blame_73 : decode (z_c zX6_blame) 73 = .ok (.dup, 1) := by decide +kernel
theorem dX6_blame_74 : decode (z_c zX6_blame) 74 = .ok (.getfield 116, 3) := by decide +kernel
theorem dX6_blame_77 : decode (z_c zX6_blame) 77 = .ok (.aload_n 0, 1) := by decide +kernel
theorem dX6_blame_78 : decode (z_c zX6_blame) 78 = .ok (.getfield 21, 3) := by decide +kernel
theorem dX6_blame_81 : decode (z_c zX6_blame) 81 = .ok (.iload_n 3, 1) := by decide +kernel
theorem dX6_blame_82 : decode (z_c zX6_blame) 82 = .ok (.laload, 1) := by decide +kernel
theorem dX6_blame_83 : decode (z_c zX6_blame) 83 = .ok (.lor, 1) := by decide +kernel
theorem dX6_blame_84 : decode (z_c zX6_blame) 84 = .ok (.putfield 116, 3) := by decide +kernel
theorem dX6_blame_87 : decode (z_c zX6_blame) 87 = .ok (.aload_n 0, 1) := by decide +kernel
theorem dX6_blame_88 : decode (z_c zX6_blame) 88 = .ok (.getfield 18, 3) := by decide +kernel
theorem dX6_blame_91 : decode (z_c zX6_blame) 91 = .ok (.dup, 1) := by decide +kernel
theorem dX6_blame_92 : decode (z_c zX6_blame) 92 = .ok (.getfield 120, 3) := by decide +kernel
theorem dX6_blame_95 : decode (z_c zX6_blame) 95 = .ok (.aload_n 0, 1) := by decide +kernel
theorem dX6_blame_96 : decode (z_c zX6_blame) 96 = .ok (.getfield 25, 3) := by decide +kernel
theorem dX6_blame_99 : decode (z_c zX6_blame) 99 = .ok (.iload_n 3, 1) := by decide +kernel
theorem dX6_blame_100 : decode (z_c zX6_blame) 100 = .ok (.laload, 1) := by decide +kernel
theorem dX6_blame_101 : decode (z_c zX6_blame) 101 = .ok (.lor, 1) := by decide +kernel
theorem dX6_blame_102 : decode (z_c zX6_blame) 102 = .ok (.putfield 120, 3) := by decide +kernel
theorem dX6_blame_105 : decode (z_c zX6_blame) 105 = .ok (.iinc 2 1, 3) := by decide +kernel
theorem dX6_blame_108 : decode (z_c zX6_blame) 108 = .ok (.goto (-98), 3) := by decide +kernel
theorem dX6_blame_111 : decode (z_c zX6_blame) 111 = .ok (.return_, 1) := by decide +kernel
theorem dX7_clear_0 : decode (z_c zX7_clear) 0 = .ok (.aload_n 0, 1) := by decide +kernel
theorem dX7_clear_1 : decode (z_c zX7_clear) 1 = .ok (.iconst 0, 1) := by decide +kernel
theorem dX7_clear_2 : decode (z_c zX7_clear) 2 = .ok (.putfield 33, 3) := by decide +kernel
theorem dX7_clear_5 : decode (z_c zX7_clear) 5 = .ok (.return_, 1) := by decide +kernel
theorem dX7_push_0 : decode (z_c zX7_push) 0 = .ok (.aload_n 0, 1) := by decide +kernel
theorem dX7_push_1 : decode (z_c zX7_push) 1 = .ok (.getfield 33, 3) := by decide +kernel
theorem dX7_push_4 : decode (z_c zX7_push) 4 = .ok (.bipush 14, 2) := by decide +kernel
theorem dX7_push_6 : decode (z_c zX7_push) 6 = .ok (.if_icmp .lt 5, 3) := by decide +kernel
theorem dX7_push_9 : decode (z_c zX7_push) 9 = .ok (.iconst 0, 1) := by decide +kernel
theorem dX7_push_10 : decode (z_c zX7_push) 10 = .ok (.ireturn, 1) := by decide +kernel
theorem dX7_push_11 : decode (z_c zX7_push) 11 = .ok (.aload_n 0, 1) := by decide +kernel
theorem dX7_push_12 : decode (z_c zX7_push) 12 = .ok (.getfield 9, 3) := by decide +kernel
theorem dX7_push_15 : decode (z_c zX7_push) 15 = .ok (.aload_n 0, 1) := by decide +kernel
theorem dX7_push_16 : decode (z_c zX7_push) 16 = .ok (.getfield 33, 3) := by decide +kernel
theorem dX7_push_19 : decode (z_c zX7_push) 19 = .ok (.iload_n 1, 1) := by decide +kernel
theorem dX7_push_20 : decode (z_c zX7_push) 20 = .ok (.iastore, 1) := by decide +kernel
theorem dX7_push_21 : decode (z_c zX7_push) 21 = .ok (.aload_n 0, 1) := by decide +kernel
theorem dX7_push_22 : decode (z_c zX7_push) 22 = .ok (.dup, 1) := by decide +kernel
theorem dX7_push_23 : decode (z_c zX7_push) 23 = .ok (.getfield 33, 3) := by decide +kernel
theorem dX7_push_26 : decode (z_c zX7_push) 26 = .ok (.iconst 1, 1) := by decide +kernel
theorem dX7_push_27 : decode (z_c zX7_push) 27 = .ok (.iadd, 1) := by decide +kernel
theorem dX7_push_28 : decode (z_c zX7_push) 28 = .ok (.putfield 33, 3) := by decide +kernel
theorem dX7_push_31 : decode (z_c zX7_push) 31 = .ok (.iconst 1, 1) := by decide +kernel
theorem dX7_push_32 : decode (z_c zX7_push) 32 = .ok (.ireturn, 1) := by decide +kernel
theorem dX7_size_0 : decode (z_c zX7_size) 0 = .ok (.aload_n 0, 1) := by decide +kernel
theorem dX7_size_1 : decode (z_c zX7_size) 1 = .ok (.getfield 33, 3) := by decide +kernel
theorem dX7_size_4 : decode (z_c zX7_size) 4 = .ok (.ireturn, 1) := by decide +kernel
theorem dX7_found_0 : decode (z_c zX7_found) 0 = .ok (.iload_n 1, 1) := by decide +kernel
theorem dX7_found_1 : decode (z_c zX7_found) 1 = .ok (.ifCond .lt 20, 3) := by decide +kernel
theorem dX7_found_4 : decode (z_c zX7_found) 4 = .ok (.iload_n 1, 1) := by decide +kernel
theorem dX7_found_5 : decode (z_c zX7_found) 5 = .ok (.aload_n 0, 1) := by decide +kernel
theorem dX7_found_6 : decode (z_c zX7_found) 6 = .ok (.getfield 33, 3) := by decide +kernel
theorem dX7_found_9 : decode (z_c zX7_found) 9 = .ok (.if_icmp .gt 12, 3) := by decide +kernel
theorem dX7_found_12 : decode (z_c zX7_found) 12 = .ok (.aload_n 0, 1) := by decide +kernel
theorem dX7_found_13 : decode (z_c zX7_found) 13 = .ok (.getfield 27, 3) := by decide +kernel
theorem dX7_found_16 : decode (z_c zX7_found) 16 = .ok (.iload_n 1, 1) := by decide +kernel
theorem dX7_found_17 : decode (z_c zX7_found) 17 = .ok (.iaload, 1) := by decide +kernel
theorem dX7_found_18 : decode (z_c zX7_found) 18 = .ok (.goto 4, 3) := by decide +kernel
theorem dX7_found_21 : decode (z_c zX7_found) 21 = .ok (.iconst 0, 1) := by decide +kernel
theorem dX7_found_22 : decode (z_c zX7_found) 22 = .ok (.ireturn, 1) := by decide +kernel
theorem dX7_foundHolding_0 : decode (z_c zX7_foundHolding) 0 = .ok (.iload_n 1, 1) := by decide +kernel
theorem dX7_foundHolding_1 : decode (z_c zX7_foundHolding) 1 = .ok (.ifCond .lt 27, 3) := by decide +kernel
theorem dX7_foundHolding_4 : decode (z_c zX7_foundHolding) 4 = .ok (.iload_n 1, 1) := by decide +kernel
theorem dX7_foundHolding_5 : decode (z_c zX7_foundHolding) 5 = .ok (.aload_n 0, 1) := by decide +kernel
theorem dX7_foundHolding_6 : decode (z_c zX7_foundHolding) 6 = .ok (.getfield 33, 3) := by decide +kernel
theorem dX7_foundHolding_9 : decode (z_c zX7_foundHolding) 9 = .ok (.if_icmp .ge 19, 3) := by decide +kernel
theorem dX7_foundHolding_12 : decode (z_c zX7_foundHolding) 12 = .ok (.iload_n 2, 1) := by decide +kernel
theorem dX7_foundHolding_13 : decode (z_c zX7_foundHolding) 13 = .ok (.ifCond .lt 15, 3) := by decide +kernel
theorem dX7_foundHolding_16 : decode (z_c zX7_foundHolding) 16 = .ok (.iload_n 2, 1) := by decide +kernel
theorem dX7_foundHolding_17 : decode (z_c zX7_foundHolding) 17 = .ok (.aload_n 0, 1) := by decide +kernel
theorem dX7_foundHolding_18 : decode (z_c zX7_foundHolding) 18 = .ok (.getfield 33, 3) := by decide +kernel
theorem dX7_foundHolding_21 : decode (z_c zX7_foundHolding) 21 = .ok (.if_icmp .gt 7, 3) := by decide +kernel
theorem dX7_foundHolding_24 : decode (z_c zX7_foundHolding) 24 = .ok (.iconst 1, 1) := by decide +kernel
theorem dX7_foundHolding_25 : decode (z_c zX7_foundHolding) 25 = .ok (.goto 4, 3) := by decide +kernel
theorem dX7_foundHolding_28 : decode (z_c zX7_foundHolding) 28 = .ok (.iconst 0, 1) := by decide +kernel
theorem dX7_foundHolding_29 : decode (z_c zX7_foundHolding) 29 = .ok (.istore_n 3, 1) := by decide +kernel
theorem dX7_foundHolding_30 : decode (z_c zX7_foundHolding) 30 = .ok (.iload_n 3, 1) := by decide +kernel
theorem dX7_foundHolding_31 : decode (z_c zX7_foundHolding) 31 = .ok (.ifCond .eq 17, 3) := by decide +kernel
theorem dX7_foundHolding_34 : decode (z_c zX7_foundHolding) 34 = .ok (.aload_n 0, 1) := by decide +kernel
theorem dX7_foundHolding_35 : decode (z_c zX7_foundHolding) 35 = .ok (.getfield 30, 3) := by decide +kernel
theorem dX7_foundHolding_38 : decode (z_c zX7_foundHolding) 38 = .ok (.iload_n 1, 1) := by decide +kernel
theorem dX7_foundHolding_39 : decode (z_c zX7_foundHolding) 39 = .ok (.bipush 15, 2) := by decide +kernel
theorem dX7_foundHolding_41 : decode (z_c zX7_foundHolding) 41 = .ok (.imul, 1) := by decide +kernel
theorem dX7_foundHolding_42 : decode (z_c zX7_foundHolding) 42 = .ok (.iload_n 2, 1) := by decide +kernel
theorem dX7_foundHolding_43 : decode (z_c zX7_foundHolding) 43 = .ok (.iadd, 1) := by decide +kernel
theorem dX7_foundHolding_44 : decode (z_c zX7_foundHolding) 44 = .ok (.iaload, 1) := by decide +kernel
theorem dX7_foundHolding_45 : decode (z_c zX7_foundHolding) 45 = .ok (.goto 4, 3) := by decide +kernel
theorem dX7_foundHolding_48 : decode (z_c zX7_foundHolding) 48 = .ok (.iconst 0, 1) := by decide +kernel
theorem dX7_foundHolding_49 : decode (z_c zX7_foundHolding) 49 = .ok (.ireturn, 1) := by decide +kernel
theorem dX7_bind_0 : decode (z_c zX7_bind) 0 = .ok (.aload_n 1, 1) := by decide +kernel
theorem dX7_bind_1 : decode (z_c zX7_bind) 1 = .ok (.getfield 37, 3) := by decide +kernel
theorem dX7_bind_4 : decode (z_c zX7_bind) 4 = .ok (.astore_n 3, 1) := by decide +kernel
theorem dX7_bind_5 : decode (z_c zX7_bind) 5 = .ok (.iconst 0, 1) := by decide +kernel
theorem dX7_bind_6 : decode (z_c zX7_bind) 6 = .ok (.istore 4, 2) := by decide +kernel
theorem dX7_bind_8 : decode (z_c zX7_bind) 8 = .ok (.iload 4, 2) := by decide +kernel
theorem dX7_bind_10 : decode (z_c zX7_bind) 10 = .ok (.aload_n 0, 1) := by decide +kernel
theorem dX7_bind_11 : decode (z_c zX7_bind) 11 = .ok (.getfield 33, 3) := by decide +kernel
theorem dX7_bind_14 : decode (z_c zX7_bind) 14 = .ok (.if_icmp .ge 63, 3) := by decide +kernel
theorem dX7_bind_17 : decode (z_c zX7_bind) 17 = .ok (.aload_n 0, 1) := by decide +kernel
theorem dX7_bind_18 : decode (z_c zX7_bind) 18 = .ok (.getfield 9, 3) := by decide +kernel
theorem dX7_bind_21 : decode (z_c zX7_bind) 21 = .ok (.iload 4, 2) := by decide +kernel
theorem dX7_bind_23 : decode (z_c zX7_bind) 23 = .ok (.iaload, 1) := by decide +kernel
theorem dX7_bind_24 : decode (z_c zX7_bind) 24 = .ok (.bipush 8, 2) := by decide +kernel
theorem dX7_bind_26 : decode (z_c zX7_bind) 26 = .ok (.imul, 1) := by decide +kernel
theorem dX7_bind_27 : decode (z_c zX7_bind) 27 = .ok (.istore 5, 2) := by decide +kernel
theorem dX7_bind_29 : decode (z_c zX7_bind) 29 = .ok (.iconst 0, 1) := by decide +kernel
theorem dX7_bind_30 : decode (z_c zX7_bind) 30 = .ok (.istore 6, 2) := by decide +kernel
theorem dX7_bind_32 : decode (z_c zX7_bind) 32 = .ok (.iload 6, 2) := by decide +kernel
theorem dX7_bind_34 : decode (z_c zX7_bind) 34 = .ok (.aload_n 3, 1) := by decide +kernel
theorem dX7_bind_35 : decode (z_c zX7_bind) 35 = .ok (.getfield 43, 3) := by decide +kernel
theorem dX7_bind_38 : decode (z_c zX7_bind) 38 = .ok (.aload_n 0, 1) := by decide +kernel
theorem dX7_bind_39 : decode (z_c zX7_bind) 39 = .ok (.getfield 9, 3) := by decide +kernel
theorem dX7_bind_42 : decode (z_c zX7_bind) 42 = .ok (.iload 4, 2) := by decide +kernel
theorem dX7_bind_44 : decode (z_c zX7_bind) 44 = .ok (.iaload, 1) := by decide +kernel
theorem dX7_bind_45 : decode (z_c zX7_bind) 45 = .ok (.iaload, 1) := by decide +kernel
theorem dX7_bind_46 : decode (z_c zX7_bind) 46 = .ok (.if_icmp .ge 25, 3) := by decide +kernel
theorem dX7_bind_49 : decode (z_c zX7_bind) 49 = .ok (.aload_n 0, 1) := by decide +kernel
theorem dX7_bind_50 : decode (z_c zX7_bind) 50 = .ok (.getfield 21, 3) := by decide +kernel
theorem dX7_bind_53 : decode (z_c zX7_bind) 53 = .ok (.aload_n 3, 1) := by decide +kernel
theorem dX7_bind_54 : decode (z_c zX7_bind) 54 = .ok (.getfield 48, 3) := by decide +kernel
theorem dX7_bind_57 : decode (z_c zX7_bind) 57 = .ok (.iload 5, 2) := by decide +kernel
theorem dX7_bind_59 : decode (z_c zX7_bind) 59 = .ok (.iload 6, 2) := by decide +kernel
theorem dX7_bind_61 : decode (z_c zX7_bind) 61 = .ok (.iadd, 1) := by decide +kernel
theorem dX7_bind_62 : decode (z_c zX7_bind) 62 = .ok (.iaload, 1) := by decide +kernel
theorem dX7_bind_63 : decode (z_c zX7_bind) 63 = .ok (.iconst 0, 1) := by decide +kernel
theorem dX7_bind_64 : decode (z_c zX7_bind) 64 = .ok (.iastore, 1) := by decide +kernel
theorem dX7_bind_65 : decode (z_c zX7_bind) 65 = .ok (.iinc 6 1, 3) := by decide +kernel
theorem dX7_bind_68 : decode (z_c zX7_bind) 68 = .ok (.goto (-36), 3) := by decide +kernel
theorem dX7_bind_71 : decode (z_c zX7_bind) 71 = .ok (.iinc 4 1, 3) := by decide +kernel
theorem dX7_bind_74 : decode (z_c zX7_bind) 74 = .ok (.goto (-66), 3) := by decide +kernel
theorem dX7_bind_77 : decode (z_c zX7_bind) 77 = .ok (.iconst 0, 1) := by decide +kernel
theorem dX7_bind_78 : decode (z_c zX7_bind) 78 = .ok (.istore 4, 2) := by decide +kernel
theorem dX7_bind_80 : decode (z_c zX7_bind) 80 = .ok (.iload 4, 2) := by decide +kernel
theorem dX7_bind_82 : decode (z_c zX7_bind) 82 = .ok (.aload_n 0, 1) := by decide +kernel
theorem dX7_bind_83 : decode (z_c zX7_bind) 83 = .ok (.getfield 33, 3) := by decide +kernel
theorem dX7_bind_86 : decode (z_c zX7_bind) 86 = .ok (.if_icmp .ge 129, 3) := by decide +kernel
theorem dX7_bind_89 : decode (z_c zX7_bind) 89 = .ok (.aload_n 0, 1) := by decide +kernel
theorem dX7_bind_90 : decode (z_c zX7_bind) 90 = .ok (.getfield 9, 3) := by decide +kernel
theorem dX7_bind_93 : decode (z_c zX7_bind) 93 = .ok (.iload 4, 2) := by decide +kernel
theorem dX7_bind_95 : decode (z_c zX7_bind) 95 = .ok (.iaload, 1) := by decide +kernel
theorem dX7_bind_96 : decode (z_c zX7_bind) 96 = .ok (.bipush 8, 2) := by decide +kernel
theorem dX7_bind_98 : decode (z_c zX7_bind) 98 = .ok (.imul, 1) := by decide +kernel
theorem dX7_bind_99 : decode (z_c zX7_bind) 99 = .ok (.istore 5, 2) := by decide +kernel
theorem dX7_bind_101 : decode (z_c zX7_bind) 101 = .ok (.iconst 0, 1) := by decide +kernel
theorem dX7_bind_102 : decode (z_c zX7_bind) 102 = .ok (.istore 6, 2) := by decide +kernel
theorem dX7_bind_104 : decode (z_c zX7_bind) 104 = .ok (.iconst 0, 1) := by decide +kernel
theorem dX7_bind_105 : decode (z_c zX7_bind) 105 = .ok (.istore 7, 2) := by decide +kernel
theorem dX7_bind_107 : decode (z_c zX7_bind) 107 = .ok (.iload 7, 2) := by decide +kernel
theorem dX7_bind_109 : decode (z_c zX7_bind) 109 = .ok (.aload_n 3, 1) := by decide +kernel
theorem dX7_bind_110 : decode (z_c zX7_bind) 110 = .ok (.getfield 43, 3) := by decide +kernel
theorem dX7_bind_113 : decode (z_c zX7_bind) 113 = .ok (.aload_n 0, 1) := by decide +kernel
theorem dX7_bind_114 : decode (z_c zX7_bind) 114 = .ok (.getfield 9, 3) := by decide +kernel
theorem dX7_bind_117 : decode (z_c zX7_bind) 117 = .ok (.iload 4, 2) := by decide +kernel
theorem dX7_bind_119 : decode (z_c zX7_bind) 119 = .ok (.iaload, 1) := by decide +kernel
theorem dX7_bind_120 : decode (z_c zX7_bind) 120 = .ok (.iaload, 1) := by decide +kernel
theorem dX7_bind_121 : decode (z_c zX7_bind) 121 = .ok (.if_icmp .ge 79, 3) := by decide +kernel
theorem dX7_bind_124 : decode (z_c zX7_bind) 124 = .ok (.aload_n 3, 1) := by decide +kernel
theorem dX7_bind_125 : decode (z_c zX7_bind) 125 = .ok (.getfield 48, 3) := by decide +kernel
theorem dX7_bind_128 : decode (z_c zX7_bind) 128 = .ok (.iload 5, 2) := by decide +kernel
theorem dX7_bind_130 : decode (z_c zX7_bind) 130 = .ok (.iload 7, 2) := by decide +kernel
theorem dX7_bind_132 : decode (z_c zX7_bind) 132 = .ok (.iadd, 1) := by decide +kernel
theorem dX7_bind_133 : decode (z_c zX7_bind) 133 = .ok (.iaload, 1) := by decide +kernel
theorem dX7_bind_134 : decode (z_c zX7_bind) 134 = .ok (.istore 8, 2) := by decide +kernel
theorem dX7_bind_136 : decode (z_c zX7_bind) 136 = .ok (.aload_n 2, 1) := by decide +kernel
theorem dX7_bind_137 : decode (z_c zX7_bind) 137 = .ok (.iload 8, 2) := by decide +kernel
theorem dX7_bind_139 : decode (z_c zX7_bind) 139 = .ok (.invokevirtual 51, 3) := by decide +kernel
theorem dX7_bind_142 : decode (z_c zX7_bind) 142 = .ok (.ifCond .eq 52, 3) := by decide +kernel
theorem dX7_bind_145 : decode (z_c zX7_bind) 145 = .ok (.aload_n 0, 1) := by decide +kernel
theorem dX7_bind_146 : decode (z_c zX7_bind) 146 = .ok (.getfield 21, 3) := by decide +kernel
theorem dX7_bind_149 : decode (z_c zX7_bind) 149 = .ok (.iload 8, 2) := by decide +kernel
theorem dX7_bind_151 : decode (z_c zX7_bind) 151 = .ok (.dup2, 1) := by decide +kernel
theorem dX7_bind_152 : decode (z_c zX7_bind) 152 = .ok (.iaload, 1) := by decide +kernel
theorem dX7_bind_153 : decode (z_c zX7_bind) 153 = .ok (.iconst 1, 1) := by decide +kernel
theorem dX7_bind_154 : decode (z_c zX7_bind) 154 = .ok (.iload 4, 2) := by decide +kernel
theorem dX7_bind_156 : decode (z_c zX7_bind) 156 = .ok (.ishl, 1) := by decide +kernel
theorem dX7_bind_157 : decode (z_c zX7_bind) 157 = .ok (.ior, 1) := by decide +kernel
theorem dX7_bind_158 : decode (z_c zX7_bind) 158 = .ok (.iastore, 1) := by decide +kernel
theorem dX7_bind_159 : decode (z_c zX7_bind) 159 = .ok (.aload_n 0, 1) := by decide +kernel
theorem dX7_bind_160 : decode (z_c zX7_bind) 160 = .ok (.getfield 24, 3) := by decide +kernel
theorem dX7_bind_163 : decode (z_c zX7_bind) 163 = .ok (.iload 8, 2) := by decide +kernel
theorem dX7_bind_165 : decode (z_c zX7_bind) 165 = .ok (.aload_n 1, 1) := by decide +kernel
theorem dX7_bind_166 : decode (z_c zX7_bind) 166 = .ok (.iload 8, 2) := by decide +kernel
theorem dX7_bind_168 : decode (z_c zX7_bind) 168 = .ok (.aload_n 1, 1) := by decide +kernel
theorem dX7_bind_169 : decode (z_c zX7_bind) 169 = .ok (.getfield 57, 3) := by decide +kernel
theorem dX7_bind_172 : decode (z_c zX7_bind) 172 = .ok (.invokevirtual 61, 3) := by decide +kernel
theorem dX7_bind_175 : decode (z_c zX7_bind) 175 = .ok (.iastore, 1) := by decide +kernel
theorem dX7_bind_176 : decode (z_c zX7_bind) 176 = .ok (.aload_n 0, 1) := by decide +kernel
theorem dX7_bind_177 : decode (z_c zX7_bind) 177 = .ok (.getfield 15, 3) := by decide +kernel
theorem dX7_bind_180 : decode (z_c zX7_bind) 180 = .ok (.iload 4, 2) := by decide +kernel
theorem dX7_bind_182 : decode (z_c zX7_bind) 182 = .ok (.bipush 8, 2) := by decide +kernel
theorem dX7_bind_184 : decode (z_c zX7_bind) 184 = .ok (.imul, 1) := by decide +kernel
theorem dX7_bind_185 : decode (z_c zX7_bind) 185 = .ok (.iload 6, 2) := by decide +kernel
theorem dX7_bind_187 : decode (z_c zX7_bind) 187 = .ok (.iadd, 1) := by decide +kernel
theorem dX7_bind_188 : decode (z_c zX7_bind) 188 = .ok (.iload 8, 2) := by decide +kernel
theorem dX7_bind_190 : decode (z_c zX7_bind) 190 = .ok (.iastore, 1) := by decide +kernel
theorem dX7_bind_191 : decode (z_c zX7_bind) 191 = .ok (.iinc 6 1, 3) := by decide +kernel
theorem dX7_bind_194 : decode (z_c zX7_bind) 194 = .ok (.iinc 7 1, 3) := by decide +kernel
theorem dX7_bind_197 : decode (z_c zX7_bind) 197 = .ok (.goto (-90), 3) := by decide +kernel
theorem dX7_bind_200 : decode (z_c zX7_bind) 200 = .ok (.aload_n 0, 1) := by decide +kernel
theorem dX7_bind_201 : decode (z_c zX7_bind) 201 = .ok (.getfield 18, 3) := by decide +kernel
theorem dX7_bind_204 : decode (z_c zX7_bind) 204 = .ok (.iload 4, 2) := by decide +kernel
theorem dX7_bind_206 : decode (z_c zX7_bind) 206 = .ok (.iload 6, 2) := by decide +kernel
theorem dX7_bind_208 : decode (z_c zX7_bind) 208 = .ok (.iastore, 1) := by decide +kernel
theorem dX7_bind_209 : decode (z_c zX7_bind) 209 = .ok (.iinc 4 1, 3) := by decide +kernel
theorem dX7_bind_212 : decode (z_c zX7_bind) 212 = .ok (.goto (-132), 3) := by decide +kernel
theorem dX7_bind_215 : decode (z_c zX7_bind) 215 = .ok (.return_, 1) := by decide +kernel
theorem dX7_run_0 : decode (z_c zX7_run) 0 = .ok (.iconst 0, 1) := by decide +kernel
theorem dX7_run_1 : decode (z_c zX7_run) 1 = .ok (.istore_n 1, 1) := by decide +kernel
theorem dX7_run_2 : decode (z_c zX7_run) 2 = .ok (.iload_n 1, 1) := by decide +kernel
theorem dX7_run_3 : decode (z_c zX7_run) 3 = .ok (.bipush 15, 2) := by decide +kernel
theorem dX7_run_5 : decode (z_c zX7_run) 5 = .ok (.if_icmp .ge 16, 3) := by decide +kernel
theorem dX7_run_8 : decode (z_c zX7_run) 8 = .ok (.aload_n 0, 1) := by decide +kernel
theorem dX7_run_9 : decode (z_c zX7_run) 9 = .ok (.getfield 27, 3) := by decide +kernel
theorem dX7_run_12 : decode (z_c zX7_run) 12 = .ok (.iload_n 1, 1) := by decide +kernel
theorem dX7_run_13 : decode (z_c zX7_run) 13 = .ok (.iconst 0, 1) := by decide +kernel
theorem dX7_run_14 : decode (z_c zX7_run) 14 = .ok (.iastore, 1) := by decide +kernel
theorem dX7_run_15 : decode (z_c zX7_run) 15 = .ok (.iinc 1 1, 3) := by decide +kernel
theorem dX7_run_18 : decode (z_c zX7_run) 18 = .ok (.goto (-16), 3) := by decide +kernel
theorem dX7_run_21 : decode (z_c zX7_run) 21 = .ok (.iconst 0, 1) := by decide +kernel
theorem dX7_run_22 : decode (z_c zX7_run) 22 = .ok (.istore_n 1, 1) := by decide +kernel
theorem dX7_run_23 : decode (z_c zX7_run) 23 = .ok (.iload_n 1, 1) := by decide +kernel
theorem dX7_run_24 : decode (z_c zX7_run) 24 = .ok (.aload_n 0, 1) := by decide +kernel
theorem dX7_run_25 : decode (z_c zX7_run) 25 = .ok (.getfield 33, 3) := by decide +kernel
theorem dX7_run_28 : decode (z_c zX7_run) 28 = .ok (.bipush 15, 2) := by decide +kernel
theorem dX7_run_30 : decode (z_c zX7_run) 30 = .ok (.imul, 1) := by decide +kernel
theorem dX7_run_31 : decode (z_c zX7_run) 31 = .ok (.if_icmp .ge 16, 3) := by decide +kernel
theorem dX7_run_34 : decode (z_c zX7_run) 34 = .ok (.aload_n 0, 1) := by decide +kernel
theorem dX7_run_35 : decode (z_c zX7_run) 35 = .ok (.getfield 30, 3) := by decide +kernel
theorem dX7_run_38 : decode (z_c zX7_run) 38 = .ok (.iload_n 1, 1) := by decide +kernel
theorem dX7_run_39 : decode (z_c zX7_run) 39 = .ok (.iconst 0, 1) := by decide +kernel
theorem dX7_run_40 : decode (z_c zX7_run) 40 = .ok (.iastore, 1) := by decide +kernel
theorem dX7_run_41 : decode (z_c zX7_run) 41 = .ok (.iinc 1 1, 3) := by decide +kernel
theorem dX7_run_44 : decode (z_c zX7_run) 44 = .ok (.goto (-21), 3) := by decide +kernel
theorem dX7_run_47 : decode (z_c zX7_run) 47 = .ok (.iconst 0, 1) := by decide +kernel
theorem dX7_run_48 : decode (z_c zX7_run) 48 = .ok (.istore_n 1, 1) := by decide +kernel
theorem dX7_run_49 : decode (z_c zX7_run) 49 = .ok (.iconst 0, 1) := by decide +kernel
theorem dX7_run_50 : decode (z_c zX7_run) 50 = .ok (.istore_n 2, 1) := by decide +kernel
theorem dX7_run_51 : decode (z_c zX7_run) 51 = .ok (.iconst 0, 1) := by decide +kernel
theorem dX7_run_52 : decode (z_c zX7_run) 52 = .ok (.istore_n 3, 1) := by decide +kernel
theorem dX7_run_53 : decode (z_c zX7_run) 53 = .ok (.iload_n 3, 1) := by decide +kernel
theorem dX7_run_54 : decode (z_c zX7_run) 54 = .ok (.ldc 65, 2) := by decide +kernel
theorem dX7_run_56 : decode (z_c zX7_run) 56 = .ok (.if_icmp .ge 90, 3) := by decide +kernel
theorem dX7_run_59 : decode (z_c zX7_run) 59 = .ok (.aload_n 0, 1) := by decide +kernel
theorem dX7_run_60 : decode (z_c zX7_run) 60 = .ok (.iload_n 1, 1) := by decide +kernel
theorem dX7_run_61 : decode (z_c zX7_run) 61 = .ok (.iload_n 2, 1) := by decide +kernel
theorem dX7_run_62 : decode (z_c zX7_run) 62 = .ok (.invokevirtual 66, 3) := by decide +kernel
theorem dX7_run_65 : decode (z_c zX7_run) 65 = .ok (.istore 4, 2) := by decide +kernel
theorem dX7_run_67 : decode (z_c zX7_run) 67 = .ok (.iload 4, 2) := by decide +kernel
theorem dX7_run_69 : decode (z_c zX7_run) 69 = .ok (.ifCond .eq 17, 3) := by decide +kernel
theorem dX7_run_72 : decode (z_c zX7_run) 72 = .ok (.iload_n 2, 1) := by decide +kernel
theorem dX7_run_73 : decode (z_c zX7_run) 73 = .ok (.aload_n 0, 1) := by decide +kernel
theorem dX7_run_74 : decode (z_c zX7_run) 74 = .ok (.getfield 33, 3) := by decide +kernel
theorem dX7_run_77 : decode (z_c zX7_run) 77 = .ok (.if_icmp .ge 9, 3) := by decide +kernel
theorem dX7_run_80 : decode (z_c zX7_run) 80 = .ok (.iinc 2 1, 3) := by decide +kernel
theorem dX7_run_83 : decode (z_c zX7_run) 83 = .ok (.goto 57, 3) := by decide +kernel
theorem dX7_run_86 : decode (z_c zX7_run) 86 = .ok (.iload 4, 2) := by decide +kernel
theorem dX7_run_88 : decode (z_c zX7_run) 88 = .ok (.ifCond .eq 8, 3) := by decide +kernel
theorem dX7_run_91 : decode (z_c zX7_run) 91 = .ok (.aload_n 0, 1) := by decide +kernel
theorem dX7_run_92 : decode (z_c zX7_run) 92 = .ok (.iload_n 1, 1) := by decide +kernel
theorem dX7_run_93 : decode (z_c zX7_run) 93 = .ok (.invokevirtual 70, 3) := by decide +kernel
theorem dX7_run_96 : decode (z_c zX7_run) 96 = .ok (.iload_n 2, 1) := by decide +kernel
theorem dX7_run_97 : decode (z_c zX7_run) 97 = .ok (.ifCond .le 30, 3) := by decide +kernel
theorem dX7_run_100 : decode (z_c zX7_run) 100 = .ok (.iload_n 1, 1) := by decide +kernel
theorem dX7_run_101 : decode (z_c zX7_run) 101 = .ok (.iload_n 2, 1) := by decide +kernel
theorem dX7_run_102 : decode (z_c zX7_run) 102 = .ok (.iconst 1, 1) := by decide +kernel
theorem dX7_run_103 : decode (z_c zX7_run) 103 = .ok (.isub, 1) := by decide +kernel
theorem dX7_run_104 : decode (z_c zX7_run) 104 = .ok (.iushr, 1) := by decide +kernel
theorem dX7_run_105 : decode (z_c zX7_run) 105 = .ok (.iconst 1, 1) := by decide +kernel
theorem dX7_run_106 : decode (z_c zX7_run) 106 = .ok (.iand, 1) := by decide +kernel
theorem dX7_run_107 : decode (z_c zX7_run) 107 = .ok (.iconst 1, 1) := by decide +kernel
theorem dX7_run_108 : decode (z_c zX7_run) 108 = .ok (.if_icmp .ne 19, 3) := by decide +kernel
theorem dX7_run_111 : decode (z_c zX7_run) 111 = .ok (.iload_n 1, 1) := by decide +kernel
theorem dX7_run_112 : decode (z_c zX7_run) 112 = .ok (.iconst 1, 1) := by decide +kernel
theorem dX7_run_113 : decode (z_c zX7_run) 113 = .ok (.iload_n 2, 1) := by decide +kernel
theorem dX7_run_114 : decode (z_c zX7_run) 114 = .ok (.iconst 1, 1) := by decide +kernel
theorem dX7_run_115 : decode (z_c zX7_run) 115 = .ok (.isub, 1) := by decide +kernel
theorem dX7_run_116 : decode (z_c zX7_run) 116 = .ok (.ishl, 1) := by decide +kernel
theorem dX7_run_117 : decode (z_c zX7_run) 117 = .ok (.iconst (-1), 1) := by decide +kernel
theorem dX7_run_118 : decode (z_c zX7_run) 118 = .ok (.ixor, 1) := by decide +kernel
theorem dX7_run_119 : decode (z_c zX7_run) 119 = .ok (.iand, 1) := by decide +kernel
theorem dX7_run_120 : decode (z_c zX7_run) 120 = .ok (.istore_n 1, 1) := by decide +kernel
theorem dX7_run_121 : decode (z_c zX7_run) 121 = .ok (.iinc 2 (-1), 3) := by decide +kernel
theorem dX7_run_124 : decode (z_c zX7_run) 124 = .ok (.goto (-28), 3) := by decide +kernel
theorem dX7_run_127 : decode (z_c zX7_run) 127 = .ok (.iload_n 2, 1) := by decide +kernel
theorem dX7_run_128 : decode (z_c zX7_run) 128 = .ok (.ifCond .ne 4, 3) := by decide +kernel
theorem dX7_run_131 : decode (z_c zX7_run) 131 = .ok (.return_, 1) := by decide +kernel
theorem dX7_run_132 : decode (z_c zX7_run) 132 = .ok (.iload_n 1, 1) := by decide +kernel
theorem dX7_run_133 : decode (z_c zX7_run) 133 = .ok (.iconst 1, 1) := by decide +kernel
theorem dX7_run_134 : decode (z_c zX7_run) 134 = .ok (.iload_n 2, 1) := by decide +kernel
theorem dX7_run_135 : decode (z_c zX7_run) 135 = .ok (.iconst 1, 1) := by decide +kernel
theorem dX7_run_136 : decode (z_c zX7_run) 136 = .ok (.isub, 1) := by decide +kernel
theorem dX7_run_137 : decode (z_c zX7_run) 137 = .ok (.ishl, 1) := by decide +kernel
theorem dX7_run_138 : decode (z_c zX7_run) 138 = .ok (.ior, 1) := by decide +kernel
theorem dX7_run_139 : decode (z_c zX7_run) 139 = .ok (.istore_n 1, 1) := by decide +kernel
theorem dX7_run_140 : decode (z_c zX7_run) 140 = .ok (.iinc 3 1, 3) := by decide +kernel
theorem dX7_run_143 : decode (z_c zX7_run) 143 = .ok (.goto (-90), 3) := by decide +kernel
theorem dX7_run_146 : decode (z_c zX7_run) 146 = .ok (.return_, 1) := by decide +kernel
theorem dX7_fits_0 : decode (z_c zX7_fits) 0 = .ok (.iload_n 2, 1) := by decide +kernel
theorem dX7_fits_1 : decode (z_c zX7_fits) 1 = .ok (.ifCond .ne 5, 3) := by decide +kernel
theorem dX7_fits_4 : decode (z_c zX7_fits) 4 = .ok (.iconst 1, 1) := by decide +kernel
theorem dX7_fits_5 : decode (z_c zX7_fits) 5 = .ok (.ireturn, 1) := by decide +kernel
theorem dX7_fits_6 : decode (z_c zX7_fits) 6 = .ok (.iload_n 2, 1) := by decide +kernel
theorem dX7_fits_7 : decode (z_c zX7_fits) 7 = .ok (.iconst 1, 1) := by decide +kernel
theorem dX7_fits_8 : decode (z_c zX7_fits) 8 = .ok (.isub, 1) := by decide +kernel
theorem dX7_fits_9 : decode (z_c zX7_fits) 9 = .ok (.istore_n 3, 1) := by decide +kernel
theorem dX7_fits_10 : decode (z_c zX7_fits) 10 = .ok (.iconst 0, 1) := by decide +kernel
theorem dX7_fits_11 : decode (z_c zX7_fits) 11 = .ok (.istore 4, 2) := by decide +kernel
theorem dX7_fits_13 : decode (z_c zX7_fits) 13 = .ok (.iload 4, 2) := by decide +kernel
theorem dX7_fits_15 : decode (z_c zX7_fits) 15 = .ok (.aload_n 0, 1) := by decide +kernel
theorem dX7_fits_16 : decode (z_c zX7_fits) 16 = .ok (.getfield 18, 3) := by decide +kernel
theorem dX7_fits_19 : decode (z_c zX7_fits) 19 = .ok (.iload_n 3, 1) := by decide +kernel
theorem dX7_fits_20 : decode (z_c zX7_fits) 20 = .ok (.iaload, 1) := by decide +kernel
theorem dX7_fits_21 : decode (z_c zX7_fits) 21 = .ok (.if_icmp .ge 80, 3) := by decide +kernel
theorem dX7_fits_24 : decode (z_c zX7_fits) 24 = .ok (.aload_n 0, 1) := by decide +kernel
theorem dX7_fits_25 : decode (z_c zX7_fits) 25 = .ok (.getfield 15, 3) := by decide +kernel
theorem dX7_fits_28 : decode (z_c zX7_fits) 28 = .ok (.iload_n 3, 1) := by decide +kernel
theorem dX7_fits_29 : decode (z_c zX7_fits) 29 = .ok (.bipush 8, 2) := by decide +kernel
theorem dX7_fits_31 : decode (z_c zX7_fits) 31 = .ok (.imul, 1) := by decide +kernel
theorem dX7_fits_32 : decode (z_c zX7_fits) 32 = .ok (.iload 4, 2) := by decide +kernel
theorem dX7_fits_34 : decode (z_c zX7_fits) 34 = .ok (.iadd, 1) := by decide +kernel
theorem dX7_fits_35 : decode (z_c zX7_fits) 35 = .ok (.iaload, 1) := by decide +kernel
theorem dX7_fits_36 : decode (z_c zX7_fits) 36 = .ok (.istore 5, 2) := by decide +kernel
theorem dX7_fits_38 : decode (z_c zX7_fits) 38 = .ok (.iload_n 1, 1) := by decide +kernel
theorem dX7_fits_39 : decode (z_c zX7_fits) 39 = .ok (.aload_n 0, 1) := by decide +kernel
theorem dX7_fits_40 : decode (z_c zX7_fits) 40 = .ok (.getfield 21, 3) := by decide +kernel
theorem dX7_fits_43 : decode (z_c zX7_fits) 43 = .ok (.iload 5, 2) := by decide +kernel
theorem dX7_fits_45 : decode (z_c zX7_fits) 45 = .ok (.iaload, 1) := by decide +kernel
theorem dX7_fits_46 : decode (z_c zX7_fits) 46 = .ok (.iand, 1) := by decide +kernel
theorem dX7_fits_47 : decode (z_c zX7_fits) 47 = .ok (.invokestatic 74, 3) := by decide +kernel
theorem dX7_fits_50 : decode (z_c zX7_fits) 50 = .ok (.istore 6, 2) := by decide +kernel
theorem dX7_fits_52 : decode (z_c zX7_fits) 52 = .ok (.aload_n 0, 1) := by decide +kernel
theorem dX7_fits_53 : decode (z_c zX7_fits) 53 = .ok (.getfield 21, 3) := by decide +kernel
theorem dX7_fits_56 : decode (z_c zX7_fits) 56 = .ok (.iload 5, 2) := by decide +kernel
theorem dX7_fits_58 : decode (z_c zX7_fits) 58 = .ok (.iaload, 1) := by decide +kernel
theorem dX7_fits_59 : decode (z_c zX7_fits) 59 = .ok (.iload_n 2, 1) := by decide +kernel
theorem dX7_fits_60 : decode (z_c zX7_fits) 60 = .ok (.iushr, 1) := by decide +kernel
theorem dX7_fits_61 : decode (z_c zX7_fits) 61 = .ok (.invokestatic 74, 3) := by decide +kernel
theorem dX7_fits_64 : decode (z_c zX7_fits) 64 = .ok (.istore 7, 2) := by decide +kernel
theorem dX7_fits_66 : decode (z_c zX7_fits) 66 = .ok (.iload 6, 2) := by decide +kernel
theorem dX7_fits_68 : decode (z_c zX7_fits) 68 = .ok (.aload_n 0, 1) := by decide +kernel
theorem dX7_fits_69 : decode (z_c zX7_fits) 69 = .ok (.getfield 24, 3) := by decide +kernel
theorem dX7_fits_72 : decode (z_c zX7_fits) 72 = .ok (.iload 5, 2) := by decide +kernel
theorem dX7_fits_74 : decode (z_c zX7_fits) 74 = .ok (.iaload, 1) := by decide +kernel
theorem dX7_fits_75 : decode (z_c zX7_fits) 75 = .ok (.if_icmp .gt 18, 3) := by decide +kernel
theorem dX7_fits_78 : decode (z_c zX7_fits) 78 = .ok (.iload 6, 2) := by decide +kernel
theorem dX7_fits_80 : decode (z_c zX7_fits) 80 = .ok (.iload 7, 2) := by decide +kernel
theorem dX7_fits_82 : decode (z_c zX7_fits) 82 = .ok (.iadd, 1) := by decide +kernel
theorem dX7_fits_83 : decode (z_c zX7_fits) 83 = .ok (.aload_n 0, 1) := by decide +kernel
theorem dX7_fits_84 : decode (z_c zX7_fits) 84 = .ok (.getfield 24, 3) := by decide +kernel
theorem dX7_fits_87 : decode (z_c zX7_fits) 87 = .ok (.iload 5, 2) := by decide +kernel
theorem dX7_fits_89 : decode (z_c zX7_fits) 89 = .ok (.iaload, 1) := by decide +kernel
theorem dX7_fits_90 : decode (z_c zX7_fits) 90 = .ok (.if_icmp .ge 5, 3) := by decide +kernel
theorem dX7_fits_93 : decode (z_c zX7_fits) 93 = .ok (.iconst 0, 1) := by decide +kernel
theorem dX7_fits_94 : decode (z_c zX7_fits) 94 = .ok (.ireturn, 1) := by decide +kernel
theorem dX7_fits_95 : decode (z_c zX7_fits) 95 = .ok (.iinc 4 1, 3) := by decide +kernel
theorem dX7_fits_98 : decode (z_c zX7_fits) 98 = .ok (.goto (-85), 3) := by decide +kernel
theorem dX7_fits_101 : decode (z_c zX7_fits) 101 = .ok (.iconst 1, 1) := by decide +kernel
theorem dX7_fits_102 : decode (z_c zX7_fits) 102 = .ok (.ireturn, 1) := by decide +kernel
theorem dX7_note_0 : decode (z_c zX7_note) 0 = .ok (.iload_n 1, 1) := by decide +kernel
theorem dX7_note_1 : decode (z_c zX7_note) 1 = .ok (.invokestatic 74, 3) := by decide +kernel
theorem dX7_note_4 : decode (z_c zX7_note) 4 = .ok (.istore_n 2, 1) := by decide +kernel
theorem dX7_note_5 : decode (z_c zX7_note) 5 = .ok (.aload_n 0, 1) := by decide +kernel
theorem dX7_note_6 : decode (z_c zX7_note) 6 = .ok (.getfield 27, 3) := by decide +kernel
theorem dX7_note_9 : decode (z_c zX7_note) 9 = .ok (.iload_n 2, 1) := by decide +kernel
theorem dX7_note_10 : decode (z_c zX7_note) 10 = .ok (.dup2, 1) := by decide +kernel
theorem dX7_note_11 : decode (z_c zX7_note) 11 = .ok (.iaload, 1) := by decide +kernel
theorem dX7_note_12 : decode (z_c zX7_note) 12 = .ok (.iconst 1, 1) := by decide +kernel
theorem dX7_note_13 : decode (z_c zX7_note) 13 = .ok (.iadd, 1) := by decide +kernel
theorem dX7_note_14 : decode (z_c zX7_note) 14 = .ok (.iastore, 1) := by decide +kernel
theorem dX7_note_15 : decode (z_c zX7_note) 15 = .ok (.iconst 0, 1) := by decide +kernel
theorem dX7_note_16 : decode (z_c zX7_note) 16 = .ok (.istore_n 3, 1) := by decide +kernel
theorem dX7_note_17 : decode (z_c zX7_note) 17 = .ok (.iload_n 3, 1) := by decide +kernel
theorem dX7_note_18 : decode (z_c zX7_note) 18 = .ok (.aload_n 0, 1) := by decide +kernel
theorem dX7_note_19 : decode (z_c zX7_note) 19 = .ok (.getfield 33, 3) := by decide +kernel
theorem dX7_note_22 : decode (z_c zX7_note) 22 = .ok (.if_icmp .ge 33, 3) := by decide +kernel
theorem dX7_note_25 : decode (z_c zX7_note) 25 = .ok (.iload_n 1, 1) := by decide +kernel
theorem dX7_note_26 : decode (z_c zX7_note) 26 = .ok (.iload_n 3, 1) := by decide +kernel
theorem dX7_note_27 : decode (z_c zX7_note) 27 = .ok (.iushr, 1) := by decide +kernel
theorem dX7_note_28 : decode (z_c zX7_note) 28 = .ok (.iconst 1, 1) := by decide +kernel
theorem dX7_note_29 : decode (z_c zX7_note) 29 = .ok (.iand, 1) := by decide +kernel
theorem dX7_note_30 : decode (z_c zX7_note) 30 = .ok (.iconst 1, 1) := by decide +kernel
theorem dX7_note_31 : decode (z_c zX7_note) 31 = .ok (.if_icmp .ne 18, 3) := by decide +kernel
theorem dX7_note_34 : decode (z_c zX7_note) 34 = .ok (.aload_n 0, 1) := by decide +kernel
theorem dX7_note_35 : decode (z_c zX7_note) 35 = .ok (.getfield 30, 3) := by decide +kernel
theorem dX7_note_38 : decode (z_c zX7_note) 38 = .ok (.iload_n 3, 1) := by decide +kernel
theorem dX7_note_39 : decode (z_c zX7_note) 39 = .ok (.bipush 15, 2) := by decide +kernel
theorem dX7_note_41 : decode (z_c zX7_note) 41 = .ok (.imul, 1) := by decide +kernel
theorem dX7_note_42 : decode (z_c zX7_note) 42 = .ok (.iload_n 2, 1) := by decide +kernel
theorem dX7_note_43 : decode (z_c zX7_note) 43 = .ok (.iadd, 1) := by decide +kernel
theorem dX7_note_44 : decode (z_c zX7_note) 44 = .ok (.dup2, 1) := by decide +kernel
theorem dX7_note_45 : decode (z_c zX7_note) 45 = .ok (.iaload, 1) := by decide +kernel
theorem dX7_note_46 : decode (z_c zX7_note) 46 = .ok (.iconst 1, 1) := by decide +kernel
theorem dX7_note_47 : decode (z_c zX7_note) 47 = .ok (.iadd, 1) := by decide +kernel
theorem dX7_note_48 : decode (z_c zX7_note) 48 = .ok (.iastore, 1) := by decide +kernel
theorem dX7_note_49 : decode (z_c zX7_note) 49 = .ok (.iinc 3 1, 3) := by decide +kernel
theorem dX7_note_52 : decode (z_c zX7_note) 52 = .ok (.goto (-35), 3) := by decide +kernel
theorem dX7_note_55 : decode (z_c zX7_note) 55 = .ok (.return_, 1) := by decide +kernel
theorem dX8_blank_0 : decode (z_c zX8_blank) 0 = .ok (.iload_n 1, 1) := by decide +kernel
theorem dX8_blank_1 : decode (z_c zX8_blank) 1 = .ok (.iload_n 2, 1) := by decide +kernel
theorem dX8_blank_2 : decode (z_c zX8_blank) 2 = .ok (.iload_n 3, 1) := by decide +kernel
theorem dX8_blank_3 : decode (z_c zX8_blank) 3 = .ok (.invokestatic 62, 3) := by decide +kernel
theorem dX8_blank_6 : decode (z_c zX8_blank) 6 = .ok (.ifCond .ne 5, 3) := by decide +kernel
theorem dX8_blank_9 : decode (z_c zX8_blank) 9 = .ok (.iconst (-1), 1) := by decide +kernel
theorem dX8_blank_10 : decode (z_c zX8_blank) 10 = .ok (.ireturn, 1) := by decide +kernel
theorem dX8_blank_11 : decode (z_c zX8_blank) 11 = .ok (.aload_n 0, 1) := by decide +kernel
theorem dX8_blank_12 : decode (z_c zX8_blank) 12 = .ok (.getfield 12, 3) := by decide +kernel
theorem dX8_blank_15 : decode (z_c zX8_blank) 15 = .ok (.iload_n 1, 1) := by decide +kernel
theorem dX8_blank_16 : decode (z_c zX8_blank) 16 = .ok (.iload_n 2, 1) := by decide +kernel
theorem dX8_blank_17 : decode (z_c zX8_blank) 17 = .ok (.iload_n 3, 1) := by decide +kernel
theorem dX8_blank_18 : decode (z_c zX8_blank) 18 = .ok (.invokevirtual 58, 3) := by decide +kernel
theorem dX8_blank_21 : decode (z_c zX8_blank) 21 = .ok (.aload_n 0, 1) := by decide +kernel
theorem dX8_blank_22 : decode (z_c zX8_blank) 22 = .ok (.invokevirtual 68, 3) := by decide +kernel
theorem dX8_blank_25 : decode (z_c zX8_blank) 25 = .ok (.aload_n 0, 1) := by decide +kernel
theorem dX8_blank_26 : decode (z_c zX8_blank) 26 = .ok (.getfield 12, 3) := by decide +kernel
theorem dX8_blank_29 : decode (z_c zX8_blank) 29 = .ok (.getfield 71, 3) := by decide +kernel
theorem dX8_blank_32 : decode (z_c zX8_blank) 32 = .ok (.getfield 75, 3) := by decide +kernel
theorem dX8_blank_35 : decode (z_c zX8_blank) 35 = .ok (.ireturn, 1) := by decide +kernel
theorem dX8_edit_0 : decode (z_c zX8_edit) 0 = .ok (.aload_n 0, 1) := by decide +kernel
theorem dX8_edit_1 : decode (z_c zX8_edit) 1 = .ok (.getfield 12, 3) := by decide +kernel
theorem dX8_edit_4 : decode (z_c zX8_edit) 4 = .ok (.getfield 71, 3) := by decide +kernel
theorem dX8_edit_7 : decode (z_c zX8_edit) 7 = .ok (.iload_n 1, 1) := by decide +kernel
theorem dX8_edit_8 : decode (z_c zX8_edit) 8 = .ok (.invokevirtual 79, 3) := by decide +kernel
theorem dX8_edit_11 : decode (z_c zX8_edit) 11 = .ok (.ifCond .ne 5, 3) := by decide +kernel
theorem dX8_edit_14 : decode (z_c zX8_edit) 14 = .ok (.iconst (-1), 1) := by decide +kernel
theorem dX8_edit_15 : decode (z_c zX8_edit) 15 = .ok (.ireturn, 1) := by decide +kernel
theorem dX8_edit_16 : decode (z_c zX8_edit) 16 = .ok (.aload_n 0, 1) := by decide +kernel
theorem dX8_edit_17 : decode (z_c zX8_edit) 17 = .ok (.getfield 12, 3) := by decide +kernel
theorem dX8_edit_20 : decode (z_c zX8_edit) 20 = .ok (.getfield 83, 3) := by decide +kernel
theorem dX8_edit_23 : decode (z_c zX8_edit) 23 = .ok (.invokevirtual 86, 3) := by decide +kernel
theorem dX8_edit_26 : decode (z_c zX8_edit) 26 = .ok (.aload_n 0, 1) := by decide +kernel
theorem dX8_edit_27 : decode (z_c zX8_edit) 27 = .ok (.getfield 12, 3) := by decide +kernel
theorem dX8_edit_30 : decode (z_c zX8_edit) 30 = .ok (.getfield 71, 3) := by decide +kernel
theorem dX8_edit_33 : decode (z_c zX8_edit) 33 = .ok (.getfield 75, 3) := by decide +kernel
theorem dX8_edit_36 : decode (z_c zX8_edit) 36 = .ok (.if_icmp .lt 18, 3) := by decide +kernel
theorem dX8_edit_39 : decode (z_c zX8_edit) 39 = .ok (.aload_n 0, 1) := by decide +kernel
theorem dX8_edit_40 : decode (z_c zX8_edit) 40 = .ok (.getfield 12, 3) := by decide +kernel
theorem dX8_edit_43 : decode (z_c zX8_edit) 43 = .ok (.getfield 90, 3) := by decide +kernel
theorem dX8_edit_46 : decode (z_c zX8_edit) 46 = .ok (.iload_n 1, 1) := by decide +kernel
theorem dX8_edit_47 : decode (z_c zX8_edit) 47 = .ok (.invokevirtual 93, 3) := by decide +kernel
theorem dX8_edit_50 : decode (z_c zX8_edit) 50 = .ok (.iload_n 2, 1) := by decide +kernel
theorem dX8_edit_51 : decode (z_c zX8_edit) 51 = .ok (.if_icmp .ne 6, 3) := by decide +kernel
theorem dX8_edit_54 : decode (z_c zX8_edit) 54 = .ok (.bipush (-2), 2) := by decide +kernel
theorem dX8_edit_56 : decode (z_c zX8_edit) 56 = .ok (.ireturn, 1) := by decide +kernel
theorem dX8_edit_57 : decode (z_c zX8_edit) 57 = .ok (.aload_n 0, 1) := by decide +kernel
theorem dX8_edit_58 : decode (z_c zX8_edit) 58 = .ok (.getfield 12, 3) := by decide +kernel
theorem dX8_edit_61 : decode (z_c zX8_edit) 61 = .ok (.getfield 90, 3) := by decide +kernel
theorem dX8_edit_64 : decode (z_c zX8_edit) 64 = .ok (.iload_n 1, 1) := by decide +kernel
theorem dX8_edit_65 : decode (z_c zX8_edit) 65 = .ok (.iload_n 2, 1) := by decide +kernel
theorem dX8_edit_66 : decode (z_c zX8_edit) 66 = .ok (.invokevirtual 96, 3) := by decide +kernel
theorem dX8_edit_69 : decode (z_c zX8_edit) 69 = .ok (.aload_n 0, 1) := by decide +kernel
theorem dX8_edit_70 : decode (z_c zX8_edit) 70 = .ok (.getfield 12, 3) := by decide +kernel
theorem dX8_edit_73 : decode (z_c zX8_edit) 73 = .ok (.getfield 90, 3) := by decide +kernel
theorem dX8_edit_76 : decode (z_c zX8_edit) 76 = .ok (.invokevirtual 86, 3) := by decide +kernel
theorem dX8_edit_79 : decode (z_c zX8_edit) 79 = .ok (.ireturn, 1) := by decide +kernel
theorem dX8_make_0 : decode (z_c zX8_make) 0 = .ok (.iload_n 1, 1) := by decide +kernel
theorem dX8_make_1 : decode (z_c zX8_make) 1 = .ok (.iload_n 2, 1) := by decide +kernel
theorem dX8_make_2 : decode (z_c zX8_make) 2 = .ok (.iload 4, 2) := by decide +kernel
theorem dX8_make_4 : decode (z_c zX8_make) 4 = .ok (.invokestatic 62, 3) := by decide +kernel
theorem dX8_make_7 : decode (z_c zX8_make) 7 = .ok (.ifCond .eq 15, 3) := by decide +kernel
theorem dX8_make_10 : decode (z_c zX8_make) 10 = .ok (.iload 6, 2) := by decide +kernel
theorem dX8_make_12 : decode (z_c zX8_make) 12 = .ok (.iconst 1, 1) := by decide +kernel
theorem dX8_make_13 : decode (z_c zX8_make) 13 = .ok (.if_icmp .lt 9, 3) := by decide +kernel
theorem dX8_make_16 : decode (z_c zX8_make) 16 = .ok (.iload 6, 2) := by decide +kernel
theorem dX8_make_18 : decode (z_c zX8_make) 18 = .ok (.iconst 3, 1) := by decide +kernel
theorem dX8_make_19 : decode (z_c zX8_make) 19 = .ok (.if_icmp .le 5, 3) := by decide +kernel
theorem dX8_make_22 : decode (z_c zX8_make) 22 = .ok (.iconst (-1), 1) := by decide +kernel
theorem dX8_make_23 : decode (z_c zX8_make) 23 = .ok (.ireturn, 1) := by decide +kernel
theorem dX8_make_24 : decode (z_c zX8_make) 24 = .ok (.aload_n 0, 1) := by decide +kernel
theorem dX8_make_25 : decode (z_c zX8_make) 25 = .ok (.getfield 44, 3) := by decide +kernel
theorem dX8_make_28 : decode (z_c zX8_make) 28 = .ok (.iload_n 1, 1) := by decide +kernel
theorem dX8_make_29 : decode (z_c zX8_make) 29 = .ok (.iload_n 2, 1) := by decide +kernel
theorem dX8_make_30 : decode (z_c zX8_make) 30 = .ok (.iload 4, 2) := by decide +kernel
theorem dX8_make_32 : decode (z_c zX8_make) 32 = .ok (.invokevirtual 100, 3) := by decide +kernel
theorem dX8_make_35 : decode (z_c zX8_make) 35 = .ok (.iload_n 3, 1) := by decide +kernel
theorem dX8_make_36 : decode (z_c zX8_make) 36 = .ok (.ifCond .lt 17, 3) := by decide +kernel
theorem dX8_make_39 : decode (z_c zX8_make) 39 = .ok (.iload_n 3, 1) := by decide +kernel
theorem dX8_make_40 : decode (z_c zX8_make) 40 = .ok (.aload_n 0, 1) := by decide +kernel
theorem dX8_make_41 : decode (z_c zX8_make) 41 = .ok (.getfield 44, 3) := by decide +kernel
theorem dX8_make_44 : decode (z_c zX8_make) 44 = .ok (.getfield 103, 3) := by decide +kernel
theorem dX8_make_47 : decode (z_c zX8_make) 47 = .ok (.invokevirtual 86, 3) := by decide +kernel
theorem dX8_make_50 : decode (z_c zX8_make) 50 = .ok (.if_icmp .le 5, 3) := by decide +kernel
theorem dX8_make_53 : decode (z_c zX8_make) 53 = .ok (.iconst (-1), 1) := by decide +kernel
theorem dX8_make_54 : decode (z_c zX8_make) 54 = .ok (.ireturn, 1) := by decide +kernel
theorem dX8_make_55 : decode (z_c zX8_make) 55 = .ok (.aload_n 0, 1) := by decide +kernel
theorem dX8_make_56 : decode (z_c zX8_make) 56 = .ok (.getfield 44, 3) := by decide +kernel
theorem dX8_make_59 : decode (z_c zX8_make) 59 = .ok (.iload_n 3, 1) := by decide +kernel
theorem dX8_make_60 : decode (z_c zX8_make) 60 = .ok (.iload 5, 2) := by decide +kernel
theorem dX8_make_62 : decode (z_c zX8_make) 62 = .ok (.invokevirtual 106, 3) := by decide +kernel
theorem dX8_make_65 : decode (z_c zX8_make) 65 = .ok (.aload_n 0, 1) := by decide +kernel
theorem dX8_make_66 : decode (z_c zX8_make) 66 = .ok (.getfield 44, 3) := by decide +kernel
theorem dX8_make_69 : decode (z_c zX8_make) 69 = .ok (.iload 6, 2) := by decide +kernel
theorem dX8_make_71 : decode (z_c zX8_make) 71 = .ok (.invokevirtual 110, 3) := by decide +kernel
theorem dX8_make_74 : decode (z_c zX8_make) 74 = .ok (.ifCond .ne 5, 3) := by decide +kernel
theorem dX8_make_77 : decode (z_c zX8_make) 77 = .ok (.iconst 0, 1) := by decide +kernel
theorem dX8_make_78 : decode (z_c zX8_make) 78 = .ok (.ireturn, 1) := by decide +kernel
theorem dX8_make_79 : decode (z_c zX8_make) 79 = .ok (.aload_n 0, 1) := by decide +kernel
theorem dX8_make_80 : decode (z_c zX8_make) 80 = .ok (.getfield 12, 3) := by decide +kernel
theorem dX8_make_83 : decode (z_c zX8_make) 83 = .ok (.iload_n 1, 1) := by decide +kernel
theorem dX8_make_84 : decode (z_c zX8_make) 84 = .ok (.iload_n 2, 1) := by decide +kernel
theorem dX8_make_85 : decode (z_c zX8_make) 85 = .ok (.iload 4, 2) := by decide +kernel
theorem dX8_make_87 : decode (z_c zX8_make) 87 = .ok (.invokevirtual 58, 3) := by decide +kernel
theorem dX8_make_90 : decode (z_c zX8_make) 90 = .ok (.aload_n 0, 1) := by decide +kernel
theorem dX8_make_91 : decode (z_c zX8_make) 91 = .ok (.getfield 12, 3) := by decide +kernel
theorem dX8_make_94 : decode (z_c zX8_make) 94 = .ok (.getfield 90, 3) := by decide +kernel
theorem dX8_make_97 : decode (z_c zX8_make) 97 = .ok (.aload_n 0, 1) := by decide +kernel
theorem dX8_make_98 : decode (z_c zX8_make) 98 = .ok (.getfield 44, 3) := by decide +kernel
theorem dX8_make_101 : decode (z_c zX8_make) 101 = .ok (.getfield 113, 3) := by decide +kernel
theorem dX8_make_104 : decode (z_c zX8_make) 104 = .ok (.getfield 90, 3) := by decide +kernel
theorem dX8_make_107 : decode (z_c zX8_make) 107 = .ok (.invokevirtual 114, 3) := by decide +kernel
theorem dX8_make_110 : decode (z_c zX8_make) 110 = .ok (.aload_n 0, 1) := by decide +kernel
theorem dX8_make_111 : decode (z_c zX8_make) 111 = .ok (.invokevirtual 68, 3) := by decide +kernel
theorem dX8_make_114 : decode (z_c zX8_make) 114 = .ok (.iconst 1, 1) := by decide +kernel
theorem dX8_make_115 : decode (z_c zX8_make) 115 = .ok (.ireturn, 1) := by decide +kernel
theorem dX8_mended_0 : decode (z_c zX8_mended) 0 = .ok (.aload_n 0, 1) := by decide +kernel
theorem dX8_mended_1 : decode (z_c zX8_mended) 1 = .ok (.getfield 44, 3) := by decide +kernel
theorem dX8_mended_4 : decode (z_c zX8_mended) 4 = .ok (.getfield 118, 3) := by decide +kernel
theorem dX8_mended_7 : decode (z_c zX8_mended) 7 = .ok (.ireturn, 1) := by decide +kernel
theorem dX8_count_0 : decode (z_c zX8_count) 0 = .ok (.iload_n 1, 1) := by decide +kernel
theorem dX8_count_1 : decode (z_c zX8_count) 1 = .ok (.tableswitch 132 0 7 #[47, 58, 69, 80, 91, 102, 113, 124], 47) := by decide +kernel
theorem dX8_count_48 : decode (z_c zX8_count) 48 = .ok (.aload_n 0, 1) := by decide +kernel
theorem dX8_count_49 : decode (z_c zX8_count) 49 = .ok (.getfield 12, 3) := by decide +kernel
theorem dX8_count_52 : decode (z_c zX8_count) 52 = .ok (.getfield 71, 3) := by decide +kernel
theorem dX8_count_55 : decode (z_c zX8_count) 55 = .ok (.getfield 121, 3) := by decide +kernel
theorem dX8_count_58 : decode (z_c zX8_count) 58 = .ok (.ireturn, 1) := by decide +kernel
theorem dX8_count_59 : decode (z_c zX8_count) 59 = .ok (.aload_n 0, 1) := by decide +kernel
theorem dX8_count_60 : decode (z_c zX8_count) 60 = .ok (.getfield 12, 3) := by decide +kernel
theorem dX8_count_63 : decode (z_c zX8_count) 63 = .ok (.getfield 71, 3) := by decide +kernel
theorem dX8_count_66 : decode (z_c zX8_count) 66 = .ok (.getfield 124, 3) := by decide +kernel
theorem dX8_count_69 : decode (z_c zX8_count) 69 = .ok (.ireturn, 1) := by decide +kernel
theorem dX8_count_70 : decode (z_c zX8_count) 70 = .ok (.aload_n 0, 1) := by decide +kernel
theorem dX8_count_71 : decode (z_c zX8_count) 71 = .ok (.getfield 12, 3) := by decide +kernel
theorem dX8_count_74 : decode (z_c zX8_count) 74 = .ok (.getfield 71, 3) := by decide +kernel
theorem dX8_count_77 : decode (z_c zX8_count) 77 = .ok (.getfield 127, 3) := by decide +kernel
theorem dX8_count_80 : decode (z_c zX8_count) 80 = .ok (.ireturn, 1) := by decide +kernel
theorem dX8_count_81 : decode (z_c zX8_count) 81 = .ok (.aload_n 0, 1) := by decide +kernel
theorem dX8_count_82 : decode (z_c zX8_count) 82 = .ok (.getfield 12, 3) := by decide +kernel
theorem dX8_count_85 : decode (z_c zX8_count) 85 = .ok (.getfield 90, 3) := by decide +kernel
theorem dX8_count_88 : decode (z_c zX8_count) 88 = .ok (.invokevirtual 86, 3) := by decide +kernel
theorem dX8_count_91 : decode (z_c zX8_count) 91 = .ok (.ireturn, 1) := by decide +kernel
theorem dX8_count_92 : decode (z_c zX8_count) 92 = .ok (.aload_n 0, 1) := by decide +kernel
theorem dX8_count_93 : decode (z_c zX8_count) 93 = .ok (.getfield 12, 3) := by decide +kernel
theorem dX8_count_96 : decode (z_c zX8_count) 96 = .ok (.getfield 130, 3) := by decide +kernel
theorem dX8_count_99 : decode (z_c zX8_count) 99 = .ok (.invokevirtual 86, 3) := by decide +kernel
theorem dX8_count_102 : decode (z_c zX8_count) 102 = .ok (.ireturn, 1) := by decide +kernel
theorem dX8_count_103 : decode (z_c zX8_count) 103 = .ok (.aload_n 0, 1) := by decide +kernel
theorem dX8_count_104 : decode (z_c zX8_count) 104 = .ok (.getfield 12, 3) := by decide +kernel
theorem dX8_count_107 : decode (z_c zX8_count) 107 = .ok (.getfield 133, 3) := by decide +kernel
theorem dX8_count_110 : decode (z_c zX8_count) 110 = .ok (.invokevirtual 86, 3) := by decide +kernel
theorem dX8_count_113 : decode (z_c zX8_count) 113 = .ok (.ireturn, 1) := by decide +kernel
theorem dX8_count_114 : decode (z_c zX8_count) 114 = .ok (.aload_n 0, 1) := by decide +kernel
theorem dX8_count_115 : decode (z_c zX8_count) 115 = .ok (.getfield 12, 3) := by decide +kernel
theorem dX8_count_118 : decode (z_c zX8_count) 118 = .ok (.getfield 136, 3) := by decide +kernel
theorem dX8_count_121 : decode (z_c zX8_count) 121 = .ok (.invokevirtual 86, 3) := by decide +kernel
theorem dX8_count_124 : decode (z_c zX8_count) 124 = .ok (.ireturn, 1) := by decide +kernel
theorem dX8_count_125 : decode (z_c zX8_count) 125 = .ok (.aload_n 0, 1) := by decide +kernel
theorem dX8_count_126 : decode (z_c zX8_count) 126 = .ok (.getfield 19, 3) := by decide +kernel
theorem dX8_count_129 : decode (z_c zX8_count) 129 = .ok (.getfield 139, 3) := by decide +kernel
theorem dX8_count_132 : decode (z_c zX8_count) 132 = .ok (.ireturn, 1) := by decide +kernel
theorem dX8_count_133 : decode (z_c zX8_count) 133 = .ok (.iconst (-1), 1) := by decide +kernel
theorem dX8_count_134 : decode (z_c zX8_count) 134 = .ok (.ireturn, 1) := by decide +kernel
theorem dX8_neighbour_0 : decode (z_c zX8_neighbour) 0 = .ok (.aload_n 0, 1) := by decide +kernel
theorem dX8_neighbour_1 : decode (z_c zX8_neighbour) 1 = .ok (.getfield 12, 3) := by decide +kernel
theorem dX8_neighbour_4 : decode (z_c zX8_neighbour) 4 = .ok (.getfield 71, 3) := by decide +kernel
theorem dX8_neighbour_7 : decode (z_c zX8_neighbour) 7 = .ok (.iload_n 1, 1) := by decide +kernel
theorem dX8_neighbour_8 : decode (z_c zX8_neighbour) 8 = .ok (.invokevirtual 79, 3) := by decide +kernel
theorem dX8_neighbour_11 : decode (z_c zX8_neighbour) 11 = .ok (.ifCond .eq 23, 3) := by decide +kernel
theorem dX8_neighbour_14 : decode (z_c zX8_neighbour) 14 = .ok (.iload_n 2, 1) := by decide +kernel
theorem dX8_neighbour_15 : decode (z_c zX8_neighbour) 15 = .ok (.ifCond .lt 19, 3) := by decide +kernel
theorem dX8_neighbour_18 : decode (z_c zX8_neighbour) 18 = .ok (.iload_n 2, 1) := by decide +kernel
theorem dX8_neighbour_19 : decode (z_c zX8_neighbour) 19 = .ok (.aload_n 0, 1) := by decide +kernel
theorem dX8_neighbour_20 : decode (z_c zX8_neighbour) 20 = .ok (.getfield 12, 3) := by decide +kernel
theorem dX8_neighbour_23 : decode (z_c zX8_neighbour) 23 = .ok (.getfield 71, 3) := by decide +kernel
theorem dX8_neighbour_26 : decode (z_c zX8_neighbour) 26 = .ok (.getfield 141, 3) := by decide +kernel
theorem dX8_neighbour_29 : decode (z_c zX8_neighbour) 29 = .ok (.iload_n 1, 1) := by decide +kernel
theorem dX8_neighbour_30 : decode (z_c zX8_neighbour) 30 = .ok (.iaload, 1) := by decide +kernel
theorem dX8_neighbour_31 : decode (z_c zX8_neighbour) 31 = .ok (.if_icmp .lt 5, 3) := by decide +kernel
theorem dX8_neighbour_34 : decode (z_c zX8_neighbour) 34 = .ok (.iconst (-1), 1) := by decide +kernel
theorem dX8_neighbour_35 : decode (z_c zX8_neighbour) 35 = .ok (.ireturn, 1) := by decide +kernel
theorem dX8_neighbour_36 : decode (z_c zX8_neighbour) 36 = .ok (.aload_n 0, 1) := by decide +kernel
theorem dX8_neighbour_37 : decode (z_c zX8_neighbour) 37 = .ok (.getfield 12, 3) := by decide +kernel
theorem dX8_neighbour_40 : decode (z_c zX8_neighbour) 40 = .ok (.getfield 71, 3) := by decide +kernel
theorem dX8_neighbour_43 : decode (z_c zX8_neighbour) 43 = .ok (.getfield 145, 3) := by decide +kernel
theorem dX8_neighbour_46 : decode (z_c zX8_neighbour) 46 = .ok (.iload_n 1, 1) := by decide +kernel
theorem dX8_neighbour_47 : decode (z_c zX8_neighbour) 47 = .ok (.bipush 8, 2) := by decide +kernel
theorem dX8_neighbour_49 : decode (z_c zX8_neighbour) 49 = .ok (.imul, 1) := by decide +kernel
theorem dX8_neighbour_50 : decode (z_c zX8_neighbour) 50 = .ok (.iload_n 2, 1) := by decide +kernel
theorem dX8_neighbour_51 : decode (z_c zX8_neighbour) 51 = .ok (.iadd, 1) := by decide +kernel
theorem dX8_neighbour_52 : decode (z_c zX8_neighbour) 52 = .ok (.iaload, 1) := by decide +kernel
theorem dX8_neighbour_53 : decode (z_c zX8_neighbour) 53 = .ok (.ireturn, 1) := by decide +kernel
theorem dX8_mined_0 : decode (z_c zX8_mined) 0 = .ok (.aload_n 0, 1) := by decide +kernel
theorem dX8_mined_1 : decode (z_c zX8_mined) 1 = .ok (.getfield 12, 3) := by decide +kernel
theorem dX8_mined_4 : decode (z_c zX8_mined) 4 = .ok (.getfield 71, 3) := by decide +kernel
theorem dX8_mined_7 : decode (z_c zX8_mined) 7 = .ok (.iload_n 1, 1) := by decide +kernel
theorem dX8_mined_8 : decode (z_c zX8_mined) 8 = .ok (.invokevirtual 79, 3) := by decide +kernel
theorem dX8_mined_11 : decode (z_c zX8_mined) 11 = .ok (.ifCond .eq 21, 3) := by decide +kernel
theorem dX8_mined_14 : decode (z_c zX8_mined) 14 = .ok (.aload_n 0, 1) := by decide +kernel
theorem dX8_mined_15 : decode (z_c zX8_mined) 15 = .ok (.getfield 12, 3) := by decide +kernel
theorem dX8_mined_18 : decode (z_c zX8_mined) 18 = .ok (.getfield 90, 3) := by decide +kernel
theorem dX8_mined_21 : decode (z_c zX8_mined) 21 = .ok (.iload_n 1, 1) := by decide +kernel
theorem dX8_mined_22 : decode (z_c zX8_mined) 22 = .ok (.invokevirtual 93, 3) := by decide +kernel
theorem dX8_mined_25 : decode (z_c zX8_mined) 25 = .ok (.ifCond .eq 7, 3) := by decide +kernel
theorem dX8_mined_28 : decode (z_c zX8_mined) 28 = .ok (.iconst 1, 1) := by decide +kernel
theorem dX8_mined_29 : decode (z_c zX8_mined) 29 = .ok (.goto 4, 3) := by decide +kernel
theorem dX8_mined_32 : decode (z_c zX8_mined) 32 = .ok (.iconst 0, 1) := by decide +kernel
theorem dX8_mined_33 : decode (z_c zX8_mined) 33 = .ok (.ireturn, 1) := by decide +kernel
theorem dX8_open_0 : decode (z_c zX8_open) 0 = .ok (.aload_n 0, 1) := by decide +kernel
theorem dX8_open_1 : decode (z_c zX8_open) 1 = .ok (.getfield 12, 3) := by decide +kernel
theorem dX8_open_4 : decode (z_c zX8_open) 4 = .ok (.getfield 71, 3) := by decide +kernel
theorem dX8_open_7 : decode (z_c zX8_open) 7 = .ok (.iload_n 1, 1) := by decide +kernel
theorem dX8_open_8 : decode (z_c zX8_open) 8 = .ok (.invokevirtual 79, 3) := by decide +kernel
theorem dX8_open_11 : decode (z_c zX8_open) 11 = .ok (.ifCond .ne 5, 3) := by decide +kernel
theorem dX8_open_14 : decode (z_c zX8_open) 14 = .ok (.iconst (-1), 1) := by decide +kernel
theorem dX8_open_15 : decode (z_c zX8_open) 15 = .ok (.ireturn, 1) := by decide +kernel
theorem dX8_open_16 : decode (z_c zX8_open) 16 = .ok (.aload_n 0, 1) := by decide +kernel
theorem dX8_open_17 : decode (z_c zX8_open) 17 = .ok (.getfield 12, 3) := by decide +kernel
theorem dX8_open_20 : decode (z_c zX8_open) 20 = .ok (.getfield 83, 3) := by decide +kernel
theorem dX8_open_23 : decode (z_c zX8_open) 23 = .ok (.iload_n 1, 1) := by decide +kernel
theorem dX8_open_24 : decode (z_c zX8_open) 24 = .ok (.invokevirtual 93, 3) := by decide +kernel
theorem dX8_open_27 : decode (z_c zX8_open) 27 = .ok (.ifCond .eq 17, 3) := by decide +kernel
theorem dX8_open_30 : decode (z_c zX8_open) 30 = .ok (.aload_n 0, 1) := by decide +kernel
theorem dX8_open_31 : decode (z_c zX8_open) 31 = .ok (.getfield 12, 3) := by decide +kernel
theorem dX8_open_34 : decode (z_c zX8_open) 34 = .ok (.getfield 133, 3) := by decide +kernel
theorem dX8_open_37 : decode (z_c zX8_open) 37 = .ok (.iload_n 1, 1) := by decide +kernel
theorem dX8_open_38 : decode (z_c zX8_open) 38 = .ok (.invokevirtual 93, 3) := by decide +kernel
theorem dX8_open_41 : decode (z_c zX8_open) 41 = .ok (.ifCond .eq 6, 3) := by decide +kernel
theorem dX8_open_44 : decode (z_c zX8_open) 44 = .ok (.bipush (-2), 2) := by decide +kernel
theorem dX8_open_46 : decode (z_c zX8_open) 46 = .ok (.ireturn, 1) := by decide +kernel
theorem dX8_open_47 : decode (z_c zX8_open) 47 = .ok (.aload_n 0, 1) := by decide +kernel
theorem dX8_open_48 : decode (z_c zX8_open) 48 = .ok (.getfield 19, 3) := by decide +kernel
theorem dX8_open_51 : decode (z_c zX8_open) 51 = .ok (.getfield 139, 3) := by decide +kernel
theorem dX8_open_54 : decode (z_c zX8_open) 54 = .ok (.sipush 200, 3) := by decide +kernel
theorem dX8_open_57 : decode (z_c zX8_open) 57 = .ok (.if_icmp .lt 6, 3) := by decide +kernel
theorem dX8_open_60 : decode (z_c zX8_open) 60 = .ok (.bipush (-4), 2) := by decide +kernel
theorem dX8_open_62 : decode (z_c zX8_open) 62 = .ok (.ireturn, 1) := by decide +kernel
theorem dX8_open_63 : decode (z_c zX8_open) 63 = .ok (.aload_n 0, 1) := by decide +kernel
theorem dX8_open_64 : decode (z_c zX8_open) 64 = .ok (.getfield 19, 3) := by decide +kernel
theorem dX8_open_67 : decode (z_c zX8_open) 67 = .ok (.aload_n 0, 1) := by decide +kernel
theorem dX8_open_68 : decode (z_c zX8_open) 68 = .ok (.getfield 12, 3) := by decide +kernel
theorem dX8_open_71 : decode (z_c zX8_open) 71 = .ok (.invokevirtual 148, 3) := by decide +kernel
theorem dX8_open_74 : decode (z_c zX8_open) 74 = .ok (.aload_n 0, 1) := by decide +kernel
theorem dX8_open_75 : decode (z_c zX8_open) 75 = .ok (.getfield 12, 3) := by decide +kernel
theorem dX8_open_78 : decode (z_c zX8_open) 78 = .ok (.iload_n 1, 1) := by decide +kernel
theorem dX8_open_79 : decode (z_c zX8_open) 79 = .ok (.invokevirtual 152, 3) := by decide +kernel
theorem dX8_open_82 : decode (z_c zX8_open) 82 = .ok (.aload_n 0, 1) := by decide +kernel
theorem dX8_open_83 : decode (z_c zX8_open) 83 = .ok (.getfield 12, 3) := by decide +kernel
theorem dX8_open_86 : decode (z_c zX8_open) 86 = .ok (.getfield 90, 3) := by decide +kernel
theorem dX8_open_89 : decode (z_c zX8_open) 89 = .ok (.iload_n 1, 1) := by decide +kernel
theorem dX8_open_90 : decode (z_c zX8_open) 90 = .ok (.invokevirtual 93, 3) := by decide +kernel
theorem dX8_open_93 : decode (z_c zX8_open) 93 = .ok (.ifCond .eq 8, 3) := by decide +kernel
theorem dX8_open_96 : decode (z_c zX8_open) 96 = .ok (.bipush (-5), 2) := by decide +kernel
theorem dX8_open_98 : decode (z_c zX8_open) 98 = .ok (.goto 11, 3) := by decide +kernel
theorem dX8_open_101 : decode (z_c zX8_open) 101 = .ok (.aload_n 0, 1) := by decide +kernel
theorem dX8_open_102 : decode (z_c zX8_open) 102 = .ok (.getfield 12, 3) := by decide +kernel
theorem dX8_open_105 : decode (z_c zX8_open) 105 = .ok (.iload_n 1, 1) := by decide +kernel
theorem dX8_open_106 : decode (z_c zX8_open) 106 = .ok (.invokevirtual 156, 3) := by decide +kernel
theorem dX8_open_109 : decode (z_c zX8_open) 109 = .ok (.ireturn, 1) := by decide +kernel
theorem dX8_flag_0 : decode (z_c zX8_flag) 0 = .ok (.aload_n 0, 1) := by decide +kernel
theorem dX8_flag_1 : decode (z_c zX8_flag) 1 = .ok (.getfield 12, 3) := by decide +kernel
theorem dX8_flag_4 : decode (z_c zX8_flag) 4 = .ok (.getfield 71, 3) := by decide +kernel
theorem dX8_flag_7 : decode (z_c zX8_flag) 7 = .ok (.iload_n 1, 1) := by decide +kernel
theorem dX8_flag_8 : decode (z_c zX8_flag) 8 = .ok (.invokevirtual 79, 3) := by decide +kernel
theorem dX8_flag_11 : decode (z_c zX8_flag) 11 = .ok (.ifCond .ne 5, 3) := by decide +kernel
theorem dX8_flag_14 : decode (z_c zX8_flag) 14 = .ok (.iconst (-1), 1) := by decide +kernel
theorem dX8_flag_15 : decode (z_c zX8_flag) 15 = .ok (.ireturn, 1) := by decide +kernel
theorem dX8_flag_16 : decode (z_c zX8_flag) 16 = .ok (.aload_n 0, 1) := by decide +kernel
theorem dX8_flag_17 : decode (z_c zX8_flag) 17 = .ok (.getfield 12, 3) := by decide +kernel
theorem dX8_flag_20 : decode (z_c zX8_flag) 20 = .ok (.getfield 83, 3) := by decide +kernel
theorem dX8_flag_23 : decode (z_c zX8_flag) 23 = .ok (.iload_n 1, 1) := by decide +kernel
theorem dX8_flag_24 : decode (z_c zX8_flag) 24 = .ok (.invokevirtual 93, 3) := by decide +kernel
theorem dX8_flag_27 : decode (z_c zX8_flag) 27 = .ok (.ifCond .ne 6, 3) := by decide +kernel
theorem dX8_flag_30 : decode (z_c zX8_flag) 30 = .ok (.bipush (-2), 2) := by decide +kernel
theorem dX8_flag_32 : decode (z_c zX8_flag) 32 = .ok (.ireturn, 1) := by decide +kernel
theorem dX8_flag_33 : decode (z_c zX8_flag) 33 = .ok (.aload_n 0, 1) := by decide +kernel
theorem dX8_flag_34 : decode (z_c zX8_flag) 34 = .ok (.getfield 19, 3) := by decide +kernel
theorem dX8_flag_37 : decode (z_c zX8_flag) 37 = .ok (.getfield 139, 3) := by decide +kernel
theorem dX8_flag_40 : decode (z_c zX8_flag) 40 = .ok (.sipush 200, 3) := by decide +kernel
theorem dX8_flag_43 : decode (z_c zX8_flag) 43 = .ok (.if_icmp .lt 6, 3) := by decide +kernel
theorem dX8_flag_46 : decode (z_c zX8_flag) 46 = .ok (.bipush (-4), 2) := by decide +kernel
theorem dX8_flag_48 : decode (z_c zX8_flag) 48 = .ok (.ireturn, 1) := by decide +kernel
theorem dX8_flag_49 : decode (z_c zX8_flag) 49 = .ok (.aload_n 0, 1) := by decide +kernel
theorem dX8_flag_50 : decode (z_c zX8_flag) 50 = .ok (.getfield 19, 3) := by decide +kernel
theorem dX8_flag_53 : decode (z_c zX8_flag) 53 = .ok (.aload_n 0, 1) := by decide +kernel
theorem dX8_flag_54 : decode (z_c zX8_flag) 54 = .ok (.getfield 12, 3) := by decide +kernel
theorem dX8_flag_57 : decode (z_c zX8_flag) 57 = .ok (.invokevirtual 148, 3) := by decide +kernel
theorem dX8_flag_60 : decode (z_c zX8_flag) 60 = .ok (.aload_n 0, 1) := by decide +kernel
theorem dX8_flag_61 : decode (z_c zX8_flag) 61 = .ok (.getfield 12, 3) := by decide +kernel
theorem dX8_flag_64 : decode (z_c zX8_flag) 64 = .ok (.getfield 133, 3) := by decide +kernel
theorem dX8_flag_67 : decode (z_c zX8_flag) 67 = .ok (.iload_n 1, 1) := by decide +kernel
theorem dX8_flag_68 : decode (z_c zX8_flag) 68 = .ok (.aload_n 0, 1) := by decide +kernel
theorem dX8_flag_69 : decode (z_c zX8_flag) 69 = .ok (.getfield 12, 3) := by decide +kernel
theorem dX8_flag_72 : decode (z_c zX8_flag) 72 = .ok (.getfield 133, 3) := by decide +kernel
theorem dX8_flag_75 : decode (z_c zX8_flag) 75 = .ok (.iload_n 1, 1) := by decide +kernel
theorem dX8_flag_76 : decode (z_c zX8_flag) 76 = .ok (.invokevirtual 93, 3) := by decide +kernel
theorem dX8_flag_79 : decode (z_c zX8_flag) 79 = .ok (.ifCond .ne 7, 3) := by decide +kernel
theorem dX8_flag_82 : decode (z_c zX8_flag) 82 = .ok (.iconst 1, 1) := by decide +kernel
theorem dX8_flag_83 : decode (z_c zX8_flag) 83 = .ok (.goto 4, 3) := by decide +kernel
theorem dX8_flag_86 : decode (z_c zX8_flag) 86 = .ok (.iconst 0, 1) := by decide +kernel
theorem dX8_flag_87 : decode (z_c zX8_flag) 87 = .ok (.invokevirtual 96, 3) := by decide +kernel
theorem dX8_flag_90 : decode (z_c zX8_flag) 90 = .ok (.aload_n 0, 1) := by decide +kernel
theorem dX8_flag_91 : decode (z_c zX8_flag) 91 = .ok (.getfield 12, 3) := by decide +kernel
theorem dX8_flag_94 : decode (z_c zX8_flag) 94 = .ok (.getfield 133, 3) := by decide +kernel
theorem dX8_flag_97 : decode (z_c zX8_flag) 97 = .ok (.iload_n 1, 1) := by decide +kernel
theorem dX8_flag_98 : decode (z_c zX8_flag) 98 = .ok (.invokevirtual 93, 3) := by decide +kernel
theorem dX8_flag_101 : decode (z_c zX8_flag) 101 = .ok (.ifCond .eq 7, 3) := by decide +kernel
theorem dX8_flag_104 : decode (z_c zX8_flag) 104 = .ok (.iconst 1, 1) := by decide +kernel
theorem dX8_flag_105 : decode (z_c zX8_flag) 105 = .ok (.goto 4, 3) := by decide +kernel
theorem dX8_flag_108 : decode (z_c zX8_flag) 108 = .ok (.iconst 0, 1) := by decide +kernel
theorem dX8_flag_109 : decode (z_c zX8_flag) 109 = .ok (.ireturn, 1) := by decide +kernel
theorem dX8_chord_0 : decode (z_c zX8_chord) 0 = .ok (.aload_n 0, 1) := by decide +kernel
theorem dX8_chord_1 : decode (z_c zX8_chord) 1 = .ok (.getfield 12, 3) := by decide +kernel
theorem dX8_chord_4 : decode (z_c zX8_chord) 4 = .ok (.getfield 71, 3) := by decide +kernel
theorem dX8_chord_7 : decode (z_c zX8_chord) 7 = .ok (.iload_n 1, 1) := by decide +kernel
theorem dX8_chord_8 : decode (z_c zX8_chord) 8 = .ok (.invokevirtual 79, 3) := by decide +kernel
theorem dX8_chord_11 : decode (z_c zX8_chord) 11 = .ok (.ifCond .ne 5, 3) := by decide +kernel
theorem dX8_chord_14 : decode (z_c zX8_chord) 14 = .ok (.iconst (-1), 1) := by decide +kernel
theorem dX8_chord_15 : decode (z_c zX8_chord) 15 = .ok (.ireturn, 1) := by decide +kernel
theorem dX8_chord_16 : decode (z_c zX8_chord) 16 = .ok (.aload_n 0, 1) := by decide +kernel
theorem dX8_chord_17 : decode (z_c zX8_chord) 17 = .ok (.getfield 12, 3) := by decide +kernel
theorem dX8_chord_20 : decode (z_c zX8_chord) 20 = .ok (.getfield 130, 3) := by decide +kernel
theorem dX8_chord_23 : decode (z_c zX8_chord) 23 = .ok (.iload_n 1, 1) := by decide +kernel
theorem dX8_chord_24 : decode (z_c zX8_chord) 24 = .ok (.invokevirtual 93, 3) := by decide +kernel
theorem dX8_chord_27 : decode (z_c zX8_chord) 27 = .ok (.ifCond .eq 22, 3) := by decide +kernel
theorem dX8_chord_30 : decode (z_c zX8_chord) 30 = .ok (.aload_n 0, 1) := by decide +kernel
theorem dX8_chord_31 : decode (z_c zX8_chord) 31 = .ok (.getfield 12, 3) := by decide +kernel
theorem dX8_chord_34 : decode (z_c zX8_chord) 34 = .ok (.iload_n 1, 1) := by decide +kernel
theorem dX8_chord_35 : decode (z_c zX8_chord) 35 = .ok (.invokevirtual 160, 3) := by decide +kernel
theorem dX8_chord_38 : decode (z_c zX8_chord) 38 = .ok (.aload_n 0, 1) := by decide +kernel
theorem dX8_chord_39 : decode (z_c zX8_chord) 39 = .ok (.getfield 12, 3) := by decide +kernel
theorem dX8_chord_42 : decode (z_c zX8_chord) 42 = .ok (.iload_n 1, 1) := by decide +kernel
theorem dX8_chord_43 : decode (z_c zX8_chord) 43 = .ok (.invokevirtual 156, 3) := by decide +kernel
theorem dX8_chord_46 : decode (z_c zX8_chord) 46 = .ok (.if_icmp .eq 6, 3) := by decide +kernel
theorem dX8_chord_49 : decode (z_c zX8_chord) 49 = .ok (.bipush (-2), 2) := by decide +kernel
theorem dX8_chord_51 : decode (z_c zX8_chord) 51 = .ok (.ireturn, 1) := by decide +kernel
theorem dX8_chord_52 : decode (z_c zX8_chord) 52 = .ok (.aload_n 0, 1) := by decide +kernel
theorem dX8_chord_53 : decode (z_c zX8_chord) 53 = .ok (.getfield 19, 3) := by decide +kernel
theorem dX8_chord_56 : decode (z_c zX8_chord) 56 = .ok (.getfield 139, 3) := by decide +kernel
theorem dX8_chord_59 : decode (z_c zX8_chord) 59 = .ok (.sipush 200, 3) := by decide +kernel
theorem dX8_chord_62 : decode (z_c zX8_chord) 62 = .ok (.if_icmp .lt 6, 3) := by decide +kernel
theorem dX8_chord_65 : decode (z_c zX8_chord) 65 = .ok (.bipush (-4), 2) := by decide +kernel
theorem dX8_chord_67 : decode (z_c zX8_chord) 67 = .ok (.ireturn, 1) := by decide +kernel
theorem dX8_chord_68 : decode (z_c zX8_chord) 68 = .ok (.aload_n 0, 1) := by decide +kernel
theorem dX8_chord_69 : decode (z_c zX8_chord) 69 = .ok (.getfield 19, 3) := by decide +kernel
theorem dX8_chord_72 : decode (z_c zX8_chord) 72 = .ok (.aload_n 0, 1) := by decide +kernel
theorem dX8_chord_73 : decode (z_c zX8_chord) 73 = .ok (.getfield 12, 3) := by decide +kernel
theorem dX8_chord_76 : decode (z_c zX8_chord) 76 = .ok (.invokevirtual 148, 3) := by decide +kernel
theorem dX8_chord_79 : decode (z_c zX8_chord) 79 = .ok (.aload_n 0, 1) := by decide +kernel
theorem dX8_chord_80 : decode (z_c zX8_chord) 80 = .ok (.getfield 12, 3) := by decide +kernel
theorem dX8_chord_83 : decode (z_c zX8_chord) 83 = .ok (.getfield 83, 3) := by decide +kernel
theorem dX8_chord_86 : decode (z_c zX8_chord) 86 = .ok (.invokevirtual 86, 3) := by decide +kernel
theorem dX8_chord_89 : decode (z_c zX8_chord) 89 = .ok (.istore_n 2, 1) := by decide +kernel
theorem dX8_chord_90 : decode (z_c zX8_chord) 90 = .ok (.aload_n 0, 1) := by decide +kernel
theorem dX8_chord_91 : decode (z_c zX8_chord) 91 = .ok (.getfield 12, 3) := by decide +kernel
theorem dX8_chord_94 : decode (z_c zX8_chord) 94 = .ok (.iload_n 1, 1) := by decide +kernel
theorem dX8_chord_95 : decode (z_c zX8_chord) 95 = .ok (.invokevirtual 163, 3) := by decide +kernel
theorem dX8_chord_98 : decode (z_c zX8_chord) 98 = .ok (.iload_n 2, 1) := by decide +kernel
theorem dX8_chord_99 : decode (z_c zX8_chord) 99 = .ok (.aload_n 0, 1) := by decide +kernel
theorem dX8_chord_100 : decode (z_c zX8_chord) 100 = .ok (.getfield 12, 3) := by decide +kernel
theorem dX8_chord_103 : decode (z_c zX8_chord) 103 = .ok (.getfield 83, 3) := by decide +kernel
theorem dX8_chord_106 : decode (z_c zX8_chord) 106 = .ok (.invokevirtual 86, 3) := by decide +kernel
theorem dX8_chord_109 : decode (z_c zX8_chord) 109 = .ok (.isub, 1) := by decide +kernel
theorem dX8_chord_110 : decode (z_c zX8_chord) 110 = .ok (.ireturn, 1) := by decide +kernel
theorem dX8_undo_0 : decode (z_c zX8_undo) 0 = .ok (.aload_n 0, 1) := by decide +kernel
theorem dX8_undo_1 : decode (z_c zX8_undo) 1 = .ok (.getfield 19, 3) := by decide +kernel
theorem dX8_undo_4 : decode (z_c zX8_undo) 4 = .ok (.aload_n 0, 1) := by decide +kernel
theorem dX8_undo_5 : decode (z_c zX8_undo) 5 = .ok (.getfield 12, 3) := by decide +kernel
theorem dX8_undo_8 : decode (z_c zX8_undo) 8 = .ok (.invokevirtual 166, 3) := by decide +kernel
theorem dX8_undo_11 : decode (z_c zX8_undo) 11 = .ok (.ifCond .eq 7, 3) := by decide +kernel
theorem dX8_undo_14 : decode (z_c zX8_undo) 14 = .ok (.iconst 1, 1) := by decide +kernel
theorem dX8_undo_15 : decode (z_c zX8_undo) 15 = .ok (.goto 5, 3) := by decide +kernel
theorem dX8_undo_18 : decode (z_c zX8_undo) 18 = .ok (.bipush (-2), 2) := by decide +kernel
theorem dX8_undo_20 : decode (z_c zX8_undo) 20 = .ok (.ireturn, 1) := by decide +kernel
theorem dX8_shown_0 : decode (z_c zX8_shown) 0 = .ok (.aload_n 0, 1) := by decide +kernel
theorem dX8_shown_1 : decode (z_c zX8_shown) 1 = .ok (.getfield 12, 3) := by decide +kernel
theorem dX8_shown_4 : decode (z_c zX8_shown) 4 = .ok (.getfield 71, 3) := by decide +kernel
theorem dX8_shown_7 : decode (z_c zX8_shown) 7 = .ok (.iload_n 1, 1) := by decide +kernel
theorem dX8_shown_8 : decode (z_c zX8_shown) 8 = .ok (.invokevirtual 79, 3) := by decide +kernel
theorem dX8_shown_11 : decode (z_c zX8_shown) 11 = .ok (.ifCond .ne 5, 3) := by decide +kernel
theorem dX8_shown_14 : decode (z_c zX8_shown) 14 = .ok (.iconst (-1), 1) := by decide +kernel
theorem dX8_shown_15 : decode (z_c zX8_shown) 15 = .ok (.ireturn, 1) := by decide +kernel
theorem dX8_shown_16 : decode (z_c zX8_shown) 16 = .ok (.aload_n 0, 1) := by decide +kernel
theorem dX8_shown_17 : decode (z_c zX8_shown) 17 = .ok (.getfield 12, 3) := by decide +kernel
theorem dX8_shown_20 : decode (z_c zX8_shown) 20 = .ok (.getfield 130, 3) := by decide +kernel
theorem dX8_shown_23 : decode (z_c zX8_shown) 23 = .ok (.iload_n 1, 1) := by decide +kernel
theorem dX8_shown_24 : decode (z_c zX8_shown) 24 = .ok (.invokevirtual 93, 3) := by decide +kernel
theorem dX8_shown_27 : decode (z_c zX8_shown) 27 = .ok (.ifCond .eq 12, 3) := by decide +kernel
theorem dX8_shown_30 : decode (z_c zX8_shown) 30 = .ok (.aload_n 0, 1) := by decide +kernel
theorem dX8_shown_31 : decode (z_c zX8_shown) 31 = .ok (.getfield 12, 3) := by decide +kernel
theorem dX8_shown_34 : decode (z_c zX8_shown) 34 = .ok (.iload_n 1, 1) := by decide +kernel
theorem dX8_shown_35 : decode (z_c zX8_shown) 35 = .ok (.invokevirtual 156, 3) := by decide +kernel
theorem dX8_shown_38 : decode (z_c zX8_shown) 38 = .ok (.ireturn, 1) := by decide +kernel
theorem dX8_shown_39 : decode (z_c zX8_shown) 39 = .ok (.aload_n 0, 1) := by decide +kernel
theorem dX8_shown_40 : decode (z_c zX8_shown) 40 = .ok (.getfield 12, 3) := by decide +kernel
theorem dX8_shown_43 : decode (z_c zX8_shown) 43 = .ok (.getfield 136, 3) := by decide +kernel
theorem dX8_shown_46 : decode (z_c zX8_shown) 46 = .ok (.iload_n 1, 1) := by decide +kernel
theorem dX8_shown_47 : decode (z_c zX8_shown) 47 = .ok (.invokevirtual 93, 3) := by decide +kernel
theorem dX8_shown_50 : decode (z_c zX8_shown) 50 = .ok (.ifCond .eq 6, 3) := by decide +kernel
theorem dX8_shown_53 : decode (z_c zX8_shown) 53 = .ok (.bipush 11, 2) := by decide +kernel
theorem dX8_shown_55 : decode (z_c zX8_shown) 55 = .ok (.ireturn, 1) := by decide +kernel
theorem dX8_shown_56 : decode (z_c zX8_shown) 56 = .ok (.aload_n 0, 1) := by decide +kernel
theorem dX8_shown_57 : decode (z_c zX8_shown) 57 = .ok (.getfield 12, 3) := by decide +kernel
theorem dX8_shown_60 : decode (z_c zX8_shown) 60 = .ok (.getfield 133, 3) := by decide +kernel
theorem dX8_shown_63 : decode (z_c zX8_shown) 63 = .ok (.iload_n 1, 1) := by decide +kernel
theorem dX8_shown_64 : decode (z_c zX8_shown) 64 = .ok (.invokevirtual 93, 3) := by decide +kernel
theorem dX8_shown_67 : decode (z_c zX8_shown) 67 = .ok (.ifCond .eq 8, 3) := by decide +kernel
theorem dX8_shown_70 : decode (z_c zX8_shown) 70 = .ok (.bipush 10, 2) := by decide +kernel
theorem dX8_shown_72 : decode (z_c zX8_shown) 72 = .ok (.goto 5, 3) := by decide +kernel
theorem dX8_shown_75 : decode (z_c zX8_shown) 75 = .ok (.bipush 9, 2) := by decide +kernel
theorem dX8_shown_77 : decode (z_c zX8_shown) 77 = .ok (.ireturn, 1) := by decide +kernel
theorem dX8_solved_0 : decode (z_c zX8_solved) 0 = .ok (.aload_n 0, 1) := by decide +kernel
theorem dX8_solved_1 : decode (z_c zX8_solved) 1 = .ok (.getfield 12, 3) := by decide +kernel
theorem dX8_solved_4 : decode (z_c zX8_solved) 4 = .ok (.invokevirtual 170, 3) := by decide +kernel
theorem dX8_solved_7 : decode (z_c zX8_solved) 7 = .ok (.ireturn, 1) := by decide +kernel
theorem dX8_clicks_0 : decode (z_c zX8_clicks) 0 = .ok (.aload_n 0, 1) := by decide +kernel
theorem dX8_clicks_1 : decode (z_c zX8_clicks) 1 = .ok (.getfield 12, 3) := by decide +kernel
theorem dX8_clicks_4 : decode (z_c zX8_clicks) 4 = .ok (.invokevirtual 174, 3) := by decide +kernel
theorem dX8_clicks_7 : decode (z_c zX8_clicks) 7 = .ok (.ireturn, 1) := by decide +kernel
theorem dX8_hint_0 : decode (z_c zX8_hint) 0 = .ok (.iload_n 1, 1) := by decide +kernel
theorem dX8_hint_1 : decode (z_c zX8_hint) 1 = .ok (.iconst 1, 1) := by decide +kernel
theorem dX8_hint_2 : decode (z_c zX8_hint) 2 = .ok (.if_icmp .lt 8, 3) := by decide +kernel
theorem dX8_hint_5 : decode (z_c zX8_hint) 5 = .ok (.iload_n 1, 1) := by decide +kernel
theorem dX8_hint_6 : decode (z_c zX8_hint) 6 = .ok (.iconst 3, 1) := by decide +kernel
theorem dX8_hint_7 : decode (z_c zX8_hint) 7 = .ok (.if_icmp .le 5, 3) := by decide +kernel
theorem dX8_hint_10 : decode (z_c zX8_hint) 10 = .ok (.iconst (-1), 1) := by decide +kernel
theorem dX8_hint_11 : decode (z_c zX8_hint) 11 = .ok (.ireturn, 1) := by decide +kernel
theorem dX8_hint_12 : decode (z_c zX8_hint) 12 = .ok (.aload_n 0, 1) := by decide +kernel
theorem dX8_hint_13 : decode (z_c zX8_hint) 13 = .ok (.invokevirtual 177, 3) := by decide +kernel
theorem dX8_hint_16 : decode (z_c zX8_hint) 16 = .ok (.aload_n 0, 1) := by decide +kernel
theorem dX8_hint_17 : decode (z_c zX8_hint) 17 = .ok (.getfield 35, 3) := by decide +kernel
theorem dX8_hint_20 : decode (z_c zX8_hint) 20 = .ok (.aload_n 0, 1) := by decide +kernel
theorem dX8_hint_21 : decode (z_c zX8_hint) 21 = .ok (.getfield 12, 3) := by decide +kernel
theorem dX8_hint_24 : decode (z_c zX8_hint) 24 = .ok (.invokevirtual 180, 3) := by decide +kernel
theorem dX8_hint_27 : decode (z_c zX8_hint) 27 = .ok (.iconst 0, 1) := by decide +kernel
theorem dX8_hint_28 : decode (z_c zX8_hint) 28 = .ok (.istore_n 2, 1) := by decide +kernel
theorem dX8_hint_29 : decode (z_c zX8_hint) 29 = .ok (.iload_n 2, 1) := by decide +kernel
theorem dX8_hint_30 : decode (z_c zX8_hint) 30 = .ok (.bipush 100, 2) := by decide +kernel
theorem dX8_hint_32 : decode (z_c zX8_hint) 32 = .ok (.if_icmp .gt 86, 3) := by decide +kernel
theorem dX8_hint_35 : decode (z_c zX8_hint) 35 = .ok (.aload_n 0, 1) := by decide +kernel
theorem dX8_hint_36 : decode (z_c zX8_hint) 36 = .ok (.getfield 35, 3) := by decide +kernel
theorem dX8_hint_39 : decode (z_c zX8_hint) 39 = .ok (.iload_n 1, 1) := by decide +kernel
theorem dX8_hint_40 : decode (z_c zX8_hint) 40 = .ok (.invokevirtual 183, 3) := by decide +kernel
theorem dX8_hint_43 : decode (z_c zX8_hint) 43 = .ok (.ifCond .eq 75, 3) := by decide +kernel
theorem dX8_hint_46 : decode (z_c zX8_hint) 46 = .ok (.aload_n 0, 1) := by decide +kernel
theorem dX8_hint_47 : decode (z_c zX8_hint) 47 = .ok (.getfield 35, 3) := by decide +kernel
theorem dX8_hint_50 : decode (z_c zX8_hint) 50 = .ok (.invokevirtual 186, 3) := by decide +kernel
theorem dX8_hint_53 : decode (z_c zX8_hint) 53 = .ok (.istore_n 3, 1) := by decide +kernel
theorem dX8_hint_54 : decode (z_c zX8_hint) 54 = .ok (.iload_n 3, 1) := by decide +kernel
theorem dX8_hint_55 : decode (z_c zX8_hint) 55 = .ok (.ifCond .lt 50, 3) := by decide +kernel
theorem dX8_hint_58 : decode (z_c zX8_hint) 58 = .ok (.aload_n 0, 1) := by decide +kernel
theorem dX8_hint_59 : decode (z_c zX8_hint) 59 = .ok (.aload_n 0, 1) := by decide +kernel
theorem dX8_hint_60 : decode (z_c zX8_hint) 60 = .ok (.getfield 35, 3) := by decide +kernel
theorem dX8_hint_63 : decode (z_c zX8_hint) 63 = .ok (.getfield 189, 3) := by decide +kernel
theorem dX8_hint_66 : decode (z_c zX8_hint) 66 = .ok (.putfield 192, 3) := by decide +kernel
theorem dX8_hint_69 : decode (z_c zX8_hint) 69 = .ok (.aload_n 0, 1) := by decide +kernel
theorem dX8_hint_70 : decode (z_c zX8_hint) 70 = .ok (.getfield 51, 3) := by decide +kernel
theorem dX8_hint_73 : decode (z_c zX8_hint) 73 = .ok (.aload_n 0, 1) := by decide +kernel
theorem dX8_hint_74 : decode (z_c zX8_hint) 74 = .ok (.getfield 35, 3) := by decide +kernel
theorem dX8_hint_77 : decode (z_c zX8_hint) 77 = .ok (.getfield 195, 3) := by decide +kernel
theorem dX8_hint_80 : decode (z_c zX8_hint) 80 = .ok (.invokevirtual 114, 3) := by decide +kernel
theorem dX8_hint_83 : decode (z_c zX8_hint) 83 = .ok (.iconst 2, 1) := by decide +kernel
theorem dX8_hint_84 : decode (z_c zX8_hint) 84 = .ok (.iload_n 3, 1) := by decide +kernel
theorem dX8_hint_85 : decode (z_c zX8_hint) 85 = .ok (.imul, 1) := by decide +kernel
theorem dX8_hint_86 : decode (z_c zX8_hint) 86 = .ok (.aload_n 0, 1) := by decide +kernel
theorem dX8_hint_87 : decode (z_c zX8_hint) 87 = .ok (.getfield 35, 3) := by decide +kernel
theorem dX8_hint_90 : decode (z_c zX8_hint) 90 = .ok (.getfield 198, 3) := by decide +kernel
theorem dX8_hint_93 : decode (z_c zX8_hint) 93 = .ok (.ifCond .eq 7, 3) := by decide +kernel
theorem dX8_hint_96 : decode (z_c zX8_hint) 96 = .ok (.iconst 1, 1) := by decide +kernel
theorem dX8_hint_97 : decode (z_c zX8_hint) 97 = .ok (.goto 4, 3) := by decide +kernel
theorem dX8_hint_100 : decode (z_c zX8_hint) 100 = .ok (.iconst 0, 1) := by decide +kernel
theorem dX8_hint_101 : decode (z_c zX8_hint) 101 = .ok (.iadd, 1) := by decide +kernel
theorem dX8_hint_102 : decode (z_c zX8_hint) 102 = .ok (.iconst 1, 1) := by decide +kernel
theorem dX8_hint_103 : decode (z_c zX8_hint) 103 = .ok (.iadd, 1) := by decide +kernel
theorem dX8_hint_104 : decode (z_c zX8_hint) 104 = .ok (.ireturn, 1) := by decide +kernel
theorem dX8_hint_105 : decode (z_c zX8_hint) 105 = .ok (.aload_n 0, 1) := by decide +kernel
theorem dX8_hint_106 : decode (z_c zX8_hint) 106 = .ok (.getfield 35, 3) := by decide +kernel
theorem dX8_hint_109 : decode (z_c zX8_hint) 109 = .ok (.invokevirtual 202, 3) := by decide +kernel
theorem dX8_hint_112 : decode (z_c zX8_hint) 112 = .ok (.iinc 2 1, 3) := by decide +kernel
theorem dX8_hint_115 : decode (z_c zX8_hint) 115 = .ok (.goto (-86), 3) := by decide +kernel
theorem dX8_hint_118 : decode (z_c zX8_hint) 118 = .ok (.iconst 0, 1) := by decide +kernel
theorem dX8_hint_119 : decode (z_c zX8_hint) 119 = .ok (.ireturn, 1) := by decide +kernel
theorem dX8_kind_0 : decode (z_c zX8_kind) 0 = .ok (.aload_n 0, 1) := by decide +kernel
theorem dX8_kind_1 : decode (z_c zX8_kind) 1 = .ok (.getfield 192, 3) := by decide +kernel
theorem dX8_kind_4 : decode (z_c zX8_kind) 4 = .ok (.ireturn, 1) := by decide +kernel
theorem dX8_reason_0 : decode (z_c zX8_reason) 0 = .ok (.aload_n 0, 1) := by decide +kernel
theorem dX8_reason_1 : decode (z_c zX8_reason) 1 = .ok (.getfield 51, 3) := by decide +kernel
theorem dX8_reason_4 : decode (z_c zX8_reason) 4 = .ok (.iload_n 1, 1) := by decide +kernel
theorem dX8_reason_5 : decode (z_c zX8_reason) 5 = .ok (.bipush 100, 2) := by decide +kernel
theorem dX8_reason_7 : decode (z_c zX8_reason) 7 = .ok (.invokevirtual 205, 3) := by decide +kernel
theorem dX8_reason_10 : decode (z_c zX8_reason) 10 = .ok (.ireturn, 1) := by decide +kernel
theorem dX8_total_0 : decode (z_c zX8_total) 0 = .ok (.aload_n 0, 1) := by decide +kernel
theorem dX8_total_1 : decode (z_c zX8_total) 1 = .ok (.getfield 51, 3) := by decide +kernel
theorem dX8_total_4 : decode (z_c zX8_total) 4 = .ok (.bipush 100, 2) := by decide +kernel
theorem dX8_total_6 : decode (z_c zX8_total) 6 = .ok (.invokevirtual 93, 3) := by decide +kernel
theorem dX8_total_9 : decode (z_c zX8_total) 9 = .ok (.ireturn, 1) := by decide +kernel
theorem dX8_take_0 : decode (z_c zX8_take) 0 = .ok (.aload_n 0, 1) := by decide +kernel
theorem dX8_take_1 : decode (z_c zX8_take) 1 = .ok (.getfield 55, 3) := by decide +kernel
theorem dX8_take_4 : decode (z_c zX8_take) 4 = .ok (.aload_n 0, 1) := by decide +kernel
theorem dX8_take_5 : decode (z_c zX8_take) 5 = .ok (.getfield 51, 3) := by decide +kernel
theorem dX8_take_8 : decode (z_c zX8_take) 8 = .ok (.invokevirtual 114, 3) := by decide +kernel
theorem dX8_take_11 : decode (z_c zX8_take) 11 = .ok (.aload_n 0, 1) := by decide +kernel
theorem dX8_take_12 : decode (z_c zX8_take) 12 = .ok (.getfield 55, 3) := by decide +kernel
theorem dX8_take_15 : decode (z_c zX8_take) 15 = .ok (.invokevirtual 86, 3) := by decide +kernel
theorem dX8_take_18 : decode (z_c zX8_take) 18 = .ok (.aload_n 0, 1) := by decide +kernel
theorem dX8_take_19 : decode (z_c zX8_take) 19 = .ok (.getfield 55, 3) := by decide +kernel
theorem dX8_take_22 : decode (z_c zX8_take) 22 = .ok (.bipush 100, 2) := by decide +kernel
theorem dX8_take_24 : decode (z_c zX8_take) 24 = .ok (.invokevirtual 93, 3) := by decide +kernel
theorem dX8_take_27 : decode (z_c zX8_take) 27 = .ok (.ifCond .eq 7, 3) := by decide +kernel
theorem dX8_take_30 : decode (z_c zX8_take) 30 = .ok (.iconst 1, 1) := by decide +kernel
theorem dX8_take_31 : decode (z_c zX8_take) 31 = .ok (.goto 4, 3) := by decide +kernel
theorem dX8_take_34 : decode (z_c zX8_take) 34 = .ok (.iconst 0, 1) := by decide +kernel
theorem dX8_take_35 : decode (z_c zX8_take) 35 = .ok (.isub, 1) := by decide +kernel
theorem dX8_take_36 : decode (z_c zX8_take) 36 = .ok (.ireturn, 1) := by decide +kernel
theorem dX8_tell_0 : decode (z_c zX8_tell) 0 = .ok (.aload_n 0, 1) := by decide +kernel
theorem dX8_tell_1 : decode (z_c zX8_tell) 1 = .ok (.getfield 12, 3) := by decide +kernel
theorem dX8_tell_4 : decode (z_c zX8_tell) 4 = .ok (.getfield 71, 3) := by decide +kernel
theorem dX8_tell_7 : decode (z_c zX8_tell) 7 = .ok (.iload_n 1, 1) := by decide +kernel
theorem dX8_tell_8 : decode (z_c zX8_tell) 8 = .ok (.invokevirtual 79, 3) := by decide +kernel
theorem dX8_tell_11 : decode (z_c zX8_tell) 11 = .ok (.ifCond .eq 12, 3) := by decide +kernel
theorem dX8_tell_14 : decode (z_c zX8_tell) 14 = .ok (.aload_n 0, 1) := by decide +kernel
theorem dX8_tell_15 : decode (z_c zX8_tell) 15 = .ok (.iload_n 1, 1) := by decide +kernel
theorem dX8_tell_16 : decode (z_c zX8_tell) 16 = .ok (.iload_n 2, 1) := by decide +kernel
theorem dX8_tell_17 : decode (z_c zX8_tell) 17 = .ok (.invokevirtual 209, 3) := by decide +kernel
theorem dX8_tell_20 : decode (z_c zX8_tell) 20 = .ok (.goto 4, 3) := by decide +kernel
theorem dX8_tell_23 : decode (z_c zX8_tell) 23 = .ok (.iconst (-1), 1) := by decide +kernel
theorem dX8_tell_24 : decode (z_c zX8_tell) 24 = .ok (.ireturn, 1) := by decide +kernel
theorem dX8_name_0 : decode (z_c zX8_name) 0 = .ok (.aload_n 0, 1) := by decide +kernel
theorem dX8_name_1 : decode (z_c zX8_name) 1 = .ok (.bipush 100, 2) := by decide +kernel
theorem dX8_name_3 : decode (z_c zX8_name) 3 = .ok (.iload_n 1, 1) := by decide +kernel
theorem dX8_name_4 : decode (z_c zX8_name) 4 = .ok (.invokevirtual 209, 3) := by decide +kernel
theorem dX8_name_7 : decode (z_c zX8_name) 7 = .ok (.ireturn, 1) := by decide +kernel
theorem dX8_check_0 : decode (z_c zX8_check) 0 = .ok (.aload_n 0, 1) := by decide +kernel
theorem dX8_check_1 : decode (z_c zX8_check) 1 = .ok (.getfield 12, 3) := by decide +kernel
theorem dX8_check_4 : decode (z_c zX8_check) 4 = .ok (.getfield 71, 3) := by decide +kernel
theorem dX8_check_7 : decode (z_c zX8_check) 7 = .ok (.iload_n 1, 1) := by decide +kernel
theorem dX8_check_8 : decode (z_c zX8_check) 8 = .ok (.invokevirtual 79, 3) := by decide +kernel
theorem dX8_check_11 : decode (z_c zX8_check) 11 = .ok (.ifCond .eq 12, 3) := by decide +kernel
theorem dX8_check_14 : decode (z_c zX8_check) 14 = .ok (.iload_n 2, 1) := by decide +kernel
theorem dX8_check_15 : decode (z_c zX8_check) 15 = .ok (.ifCond .lt 8, 3) := by decide +kernel
theorem dX8_check_18 : decode (z_c zX8_check) 18 = .ok (.iload_n 2, 1) := by decide +kernel
theorem dX8_check_19 : decode (z_c zX8_check) 19 = .ok (.iconst 1, 1) := by decide +kernel
theorem dX8_check_20 : decode (z_c zX8_check) 20 = .ok (.if_icmp .le 5, 3) := by decide +kernel
theorem dX8_check_23 : decode (z_c zX8_check) 23 = .ok (.iconst (-1), 1) := by decide +kernel
theorem dX8_check_24 : decode (z_c zX8_check) 24 = .ok (.ireturn, 1) := by decide +kernel
theorem dX8_check_25 : decode (z_c zX8_check) 25 = .ok (.aload_n 0, 1) := by decide +kernel
theorem dX8_check_26 : decode (z_c zX8_check) 26 = .ok (.getfield 12, 3) := by decide +kernel
theorem dX8_check_29 : decode (z_c zX8_check) 29 = .ok (.getfield 83, 3) := by decide +kernel
theorem dX8_check_32 : decode (z_c zX8_check) 32 = .ok (.iload_n 1, 1) := by decide +kernel
theorem dX8_check_33 : decode (z_c zX8_check) 33 = .ok (.invokevirtual 93, 3) := by decide +kernel
theorem dX8_check_36 : decode (z_c zX8_check) 36 = .ok (.ifCond .ne 6, 3) := by decide +kernel
theorem dX8_check_39 : decode (z_c zX8_check) 39 = .ok (.bipush (-2), 2) := by decide +kernel
theorem dX8_check_41 : decode (z_c zX8_check) 41 = .ok (.ireturn, 1) := by decide +kernel
theorem dX8_check_42 : decode (z_c zX8_check) 42 = .ok (.aload_n 0, 1) := by decide +kernel
theorem dX8_check_43 : decode (z_c zX8_check) 43 = .ok (.getfield 26, 3) := by decide +kernel
theorem dX8_check_46 : decode (z_c zX8_check) 46 = .ok (.aload_n 0, 1) := by decide +kernel
theorem dX8_check_47 : decode (z_c zX8_check) 47 = .ok (.getfield 12, 3) := by decide +kernel
theorem dX8_check_50 : decode (z_c zX8_check) 50 = .ok (.aload_n 0, 1) := by decide +kernel
theorem dX8_check_51 : decode (z_c zX8_check) 51 = .ok (.getfield 55, 3) := by decide +kernel
theorem dX8_check_54 : decode (z_c zX8_check) 54 = .ok (.iload_n 1, 1) := by decide +kernel
theorem dX8_check_55 : decode (z_c zX8_check) 55 = .ok (.invokevirtual 213, 3) := by decide +kernel
theorem dX8_check_58 : decode (z_c zX8_check) 58 = .ok (.ifCond .ne 6, 3) := by decide +kernel
theorem dX8_check_61 : decode (z_c zX8_check) 61 = .ok (.bipush (-3), 2) := by decide +kernel
theorem dX8_check_63 : decode (z_c zX8_check) 63 = .ok (.ireturn, 1) := by decide +kernel
theorem dX8_check_64 : decode (z_c zX8_check) 64 = .ok (.aload_n 0, 1) := by decide +kernel
theorem dX8_check_65 : decode (z_c zX8_check) 65 = .ok (.getfield 26, 3) := by decide +kernel
theorem dX8_check_68 : decode (z_c zX8_check) 68 = .ok (.aload_n 0, 1) := by decide +kernel
theorem dX8_check_69 : decode (z_c zX8_check) 69 = .ok (.getfield 12, 3) := by decide +kernel
theorem dX8_check_72 : decode (z_c zX8_check) 72 = .ok (.aload_n 0, 1) := by decide +kernel
theorem dX8_check_73 : decode (z_c zX8_check) 73 = .ok (.getfield 55, 3) := by decide +kernel
theorem dX8_check_76 : decode (z_c zX8_check) 76 = .ok (.bipush 100, 2) := by decide +kernel
theorem dX8_check_78 : decode (z_c zX8_check) 78 = .ok (.invokevirtual 93, 3) := by decide +kernel
theorem dX8_check_81 : decode (z_c zX8_check) 81 = .ok (.iload_n 2, 1) := by decide +kernel
theorem dX8_check_82 : decode (z_c zX8_check) 82 = .ok (.iconst 1, 1) := by decide +kernel
theorem dX8_check_83 : decode (z_c zX8_check) 83 = .ok (.if_icmp .ne 7, 3) := by decide +kernel
theorem dX8_check_86 : decode (z_c zX8_check) 86 = .ok (.iconst 1, 1) := by decide +kernel
theorem dX8_check_87 : decode (z_c zX8_check) 87 = .ok (.goto 4, 3) := by decide +kernel
theorem dX8_check_90 : decode (z_c zX8_check) 90 = .ok (.iconst 0, 1) := by decide +kernel
theorem dX8_check_91 : decode (z_c zX8_check) 91 = .ok (.invokevirtual 217, 3) := by decide +kernel
theorem dX8_check_94 : decode (z_c zX8_check) 94 = .ok (.ifCond .eq 7, 3) := by decide +kernel
theorem dX8_check_97 : decode (z_c zX8_check) 97 = .ok (.iconst 0, 1) := by decide +kernel
theorem dX8_check_98 : decode (z_c zX8_check) 98 = .ok (.goto 4, 3) := by decide +kernel
theorem dX8_check_101 : decode (z_c zX8_check) 101 = .ok (.iconst 1, 1) := by decide +kernel
theorem dX8_check_102 : decode (z_c zX8_check) 102 = .ok (.ireturn, 1) := by decide +kernel
theorem dX8_ways_0 : decode (z_c zX8_ways) 0 = .ok (.aload_n 0, 1) := by decide +kernel
theorem dX8_ways_1 : decode (z_c zX8_ways) 1 = .ok (.getfield 26, 3) := by decide +kernel
theorem dX8_ways_4 : decode (z_c zX8_ways) 4 = .ok (.aload_n 0, 1) := by decide +kernel
theorem dX8_ways_5 : decode (z_c zX8_ways) 5 = .ok (.getfield 12, 3) := by decide +kernel
theorem dX8_ways_8 : decode (z_c zX8_ways) 8 = .ok (.invokevirtual 221, 3) := by decide +kernel
theorem dX8_ways_11 : decode (z_c zX8_ways) 11 = .ok (.ifCond .ne 6, 3) := by decide +kernel
theorem dX8_ways_14 : decode (z_c zX8_ways) 14 = .ok (.bipush (-3), 2) := by decide +kernel
theorem dX8_ways_16 : decode (z_c zX8_ways) 16 = .ok (.ireturn, 1) := by decide +kernel
theorem dX8_ways_17 : decode (z_c zX8_ways) 17 = .ok (.aload_n 0, 1) := by decide +kernel
theorem dX8_ways_18 : decode (z_c zX8_ways) 18 = .ok (.getfield 26, 3) := by decide +kernel
theorem dX8_ways_21 : decode (z_c zX8_ways) 21 = .ok (.aload_n 0, 1) := by decide +kernel
theorem dX8_ways_22 : decode (z_c zX8_ways) 22 = .ok (.getfield 12, 3) := by decide +kernel
theorem dX8_ways_25 : decode (z_c zX8_ways) 25 = .ok (.invokevirtual 224, 3) := by decide +kernel
theorem dX8_ways_28 : decode (z_c zX8_ways) 28 = .ok (.aload_n 0, 1) := by decide +kernel
theorem dX8_ways_29 : decode (z_c zX8_ways) 29 = .ok (.getfield 26, 3) := by decide +kernel
theorem dX8_ways_32 : decode (z_c zX8_ways) 32 = .ok (.aload_n 0, 1) := by decide +kernel
theorem dX8_ways_33 : decode (z_c zX8_ways) 33 = .ok (.getfield 12, 3) := by decide +kernel
theorem dX8_ways_36 : decode (z_c zX8_ways) 36 = .ok (.invokevirtual 227, 3) := by decide +kernel
theorem dX8_ways_39 : decode (z_c zX8_ways) 39 = .ok (.ireturn, 1) := by decide +kernel
theorem dX8_with_0 : decode (z_c zX8_with) 0 = .ok (.aload_n 0, 1) := by decide +kernel
theorem dX8_with_1 : decode (z_c zX8_with) 1 = .ok (.getfield 12, 3) := by decide +kernel
theorem dX8_with_4 : decode (z_c zX8_with) 4 = .ok (.getfield 71, 3) := by decide +kernel
theorem dX8_with_7 : decode (z_c zX8_with) 7 = .ok (.iload_n 1, 1) := by decide +kernel
theorem dX8_with_8 : decode (z_c zX8_with) 8 = .ok (.invokevirtual 79, 3) := by decide +kernel
theorem dX8_with_11 : decode (z_c zX8_with) 11 = .ok (.ifCond .ne 5, 3) := by decide +kernel
theorem dX8_with_14 : decode (z_c zX8_with) 14 = .ok (.iconst (-1), 1) := by decide +kernel
theorem dX8_with_15 : decode (z_c zX8_with) 15 = .ok (.ireturn, 1) := by decide +kernel
theorem dX8_with_16 : decode (z_c zX8_with) 16 = .ok (.aload_n 0, 1) := by decide +kernel
theorem dX8_with_17 : decode (z_c zX8_with) 17 = .ok (.getfield 12, 3) := by decide +kernel
theorem dX8_with_20 : decode (z_c zX8_with) 20 = .ok (.getfield 83, 3) := by decide +kernel
theorem dX8_with_23 : decode (z_c zX8_with) 23 = .ok (.iload_n 1, 1) := by decide +kernel
theorem dX8_with_24 : decode (z_c zX8_with) 24 = .ok (.invokevirtual 93, 3) := by decide +kernel
theorem dX8_with_27 : decode (z_c zX8_with) 27 = .ok (.ifCond .ne 6, 3) := by decide +kernel
theorem dX8_with_30 : decode (z_c zX8_with) 30 = .ok (.bipush (-2), 2) := by decide +kernel
theorem dX8_with_32 : decode (z_c zX8_with) 32 = .ok (.ireturn, 1) := by decide +kernel
theorem dX8_with_33 : decode (z_c zX8_with) 33 = .ok (.aload_n 0, 1) := by decide +kernel
theorem dX8_with_34 : decode (z_c zX8_with) 34 = .ok (.getfield 26, 3) := by decide +kernel
theorem dX8_with_37 : decode (z_c zX8_with) 37 = .ok (.aload_n 0, 1) := by decide +kernel
theorem dX8_with_38 : decode (z_c zX8_with) 38 = .ok (.getfield 12, 3) := by decide +kernel
theorem dX8_with_41 : decode (z_c zX8_with) 41 = .ok (.invokevirtual 221, 3) := by decide +kernel
theorem dX8_with_44 : decode (z_c zX8_with) 44 = .ok (.ifCond .ne 6, 3) := by decide +kernel
theorem dX8_with_47 : decode (z_c zX8_with) 47 = .ok (.bipush (-3), 2) := by decide +kernel
theorem dX8_with_49 : decode (z_c zX8_with) 49 = .ok (.ireturn, 1) := by decide +kernel
theorem dX8_with_50 : decode (z_c zX8_with) 50 = .ok (.aload_n 0, 1) := by decide +kernel
theorem dX8_with_51 : decode (z_c zX8_with) 51 = .ok (.getfield 26, 3) := by decide +kernel
theorem dX8_with_54 : decode (z_c zX8_with) 54 = .ok (.aload_n 0, 1) := by decide +kernel
theorem dX8_with_55 : decode (z_c zX8_with) 55 = .ok (.getfield 12, 3) := by decide +kernel
theorem dX8_with_58 : decode (z_c zX8_with) 58 = .ok (.invokevirtual 224, 3) := by decide +kernel
theorem dX8_with_61 : decode (z_c zX8_with) 61 = .ok (.aload_n 0, 1) := by decide +kernel
theorem dX8_with_62 : decode (z_c zX8_with) 62 = .ok (.getfield 26, 3) := by decide +kernel
theorem dX8_with_65 : decode (z_c zX8_with) 65 = .ok (.aload_n 0, 1) := by decide +kernel
theorem dX8_with_66 : decode (z_c zX8_with) 66 = .ok (.getfield 12, 3) := by decide +kernel
theorem dX8_with_69 : decode (z_c zX8_with) 69 = .ok (.iload_n 1, 1) := by decide +kernel
theorem dX8_with_70 : decode (z_c zX8_with) 70 = .ok (.invokevirtual 231, 3) := by decide +kernel
theorem dX8_with_73 : decode (z_c zX8_with) 73 = .ok (.ireturn, 1) := by decide +kernel
theorem dX8_putTold_0 : decode (z_c zX8_putTold) 0 = .ok (.aload_n 0, 1) := by decide +kernel
theorem dX8_putTold_1 : decode (z_c zX8_putTold) 1 = .ok (.getfield 55, 3) := by decide +kernel
theorem dX8_putTold_4 : decode (z_c zX8_putTold) 4 = .ok (.iload_n 1, 1) := by decide +kernel
theorem dX8_putTold_5 : decode (z_c zX8_putTold) 5 = .ok (.invokevirtual 93, 3) := by decide +kernel
theorem dX8_putTold_8 : decode (z_c zX8_putTold) 8 = .ok (.iload_n 2, 1) := by decide +kernel
theorem dX8_putTold_9 : decode (z_c zX8_putTold) 9 = .ok (.if_icmp .ne 5, 3) := by decide +kernel
theorem dX8_putTold_12 : decode (z_c zX8_putTold) 12 = .ok (.iconst 0, 1) := by decide +kernel
theorem dX8_putTold_13 : decode (z_c zX8_putTold) 13 = .ok (.ireturn, 1) := by decide +kernel
theorem dX8_putTold_14 : decode (z_c zX8_putTold) 14 = .ok (.aload_n 0, 1) := by decide +kernel
theorem dX8_putTold_15 : decode (z_c zX8_putTold) 15 = .ok (.getfield 55, 3) := by decide +kernel
theorem dX8_putTold_18 : decode (z_c zX8_putTold) 18 = .ok (.iload_n 1, 1) := by decide +kernel
theorem dX8_putTold_19 : decode (z_c zX8_putTold) 19 = .ok (.iload_n 2, 1) := by decide +kernel
theorem dX8_putTold_20 : decode (z_c zX8_putTold) 20 = .ok (.invokevirtual 96, 3) := by decide +kernel
theorem dX8_putTold_23 : decode (z_c zX8_putTold) 23 = .ok (.iconst 1, 1) := by decide +kernel
theorem dX8_putTold_24 : decode (z_c zX8_putTold) 24 = .ok (.ireturn, 1) := by decide +kernel
theorem dX8_forget_0 : decode (z_c zX8_forget) 0 = .ok (.aload_n 0, 1) := by decide +kernel
theorem dX8_forget_1 : decode (z_c zX8_forget) 1 = .ok (.getfield 19, 3) := by decide +kernel
theorem dX8_forget_4 : decode (z_c zX8_forget) 4 = .ok (.iconst 0, 1) := by decide +kernel
theorem dX8_forget_5 : decode (z_c zX8_forget) 5 = .ok (.putfield 139, 3) := by decide +kernel
theorem dX8_forget_8 : decode (z_c zX8_forget) 8 = .ok (.aload_n 0, 1) := by decide +kernel
theorem dX8_forget_9 : decode (z_c zX8_forget) 9 = .ok (.getfield 55, 3) := by decide +kernel
theorem dX8_forget_12 : decode (z_c zX8_forget) 12 = .ok (.invokevirtual 235, 3) := by decide +kernel
theorem dX8_forget_15 : decode (z_c zX8_forget) 15 = .ok (.aload_n 0, 1) := by decide +kernel
theorem dX8_forget_16 : decode (z_c zX8_forget) 16 = .ok (.invokevirtual 177, 3) := by decide +kernel
theorem dX8_forget_19 : decode (z_c zX8_forget) 19 = .ok (.return_, 1) := by decide +kernel
theorem dX8_forgetHint_0 : decode (z_c zX8_forgetHint) 0 = .ok (.aload_n 0, 1) := by decide +kernel
theorem dX8_forgetHint_1 : decode (z_c zX8_forgetHint) 1 = .ok (.iconst 0, 1) := by decide +kernel
theorem dX8_forgetHint_2 : decode (z_c zX8_forgetHint) 2 = .ok (.putfield 192, 3) := by decide +kernel
theorem dX8_forgetHint_5 : decode (z_c zX8_forgetHint) 5 = .ok (.aload_n 0, 1) := by decide +kernel
theorem dX8_forgetHint_6 : decode (z_c zX8_forgetHint) 6 = .ok (.getfield 51, 3) := by decide +kernel
theorem dX8_forgetHint_9 : decode (z_c zX8_forgetHint) 9 = .ok (.invokevirtual 235, 3) := by decide +kernel
theorem dX8_forgetHint_12 : decode (z_c zX8_forgetHint) 12 = .ok (.return_, 1) := by decide +kernel
