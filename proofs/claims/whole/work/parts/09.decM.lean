theorem dX9_join_0 : decode (z_c zX9_join) 0 = .ok (.aload_n 0, 1) := by decide +kernel
theorem dX9_join_1 : decode (z_c zX9_join) 1 = .ok (.getfield 104, 3) := by decide +kernel
theorem dX9_join_4 : decode (z_c zX9_join) 4 = .ok (.iconst 1, 1) := by decide +kernel
theorem dX9_join_5 : decode (z_c zX9_join) 5 = .ok (.if_icmp .eq 11, 3) := by decide +kernel
theorem dX9_join_8 : decode (z_c zX9_join) 8 = .ok (.aload_n 0, 1) := by decide +kernel
theorem dX9_join_9 : decode (z_c zX9_join) 9 = .ok (.getfield 104, 3) := by decide +kernel
theorem dX9_join_12 : decode (z_c zX9_join) 12 = .ok (.iconst 3, 1) := by decide +kernel
theorem dX9_join_13 : decode (z_c zX9_join) 13 = .ok (.if_icmp .ne 7, 3) := by decide +kernel
theorem dX9_join_16 : decode (z_c zX9_join) 16 = .ok (.iconst 1, 1) := by decide +kernel
theorem dX9_join_17 : decode (z_c zX9_join) 17 = .ok (.goto 4, 3) := by decide +kernel
theorem dX9_join_20 : decode (z_c zX9_join) 20 = .ok (.iconst 0, 1) := by decide +kernel
theorem dX9_join_21 : decode (z_c zX9_join) 21 = .ok (.istore 4, 2) := by decide +kernel
theorem dX9_join_23 : decode (z_c zX9_join) 23 = .ok (.iload 4, 2) := by decide +kernel
theorem dX9_join_25 : decode (z_c zX9_join) 25 = .ok (.ifCond .eq 17, 3) := by decide +kernel
theorem dX9_join_28 : decode (z_c zX9_join) 28 = .ok (.iload_n 2, 1) := by decide +kernel
theorem dX9_join_29 : decode (z_c zX9_join) 29 = .ok (.aload_n 0, 1) := by decide +kernel
theorem dX9_join_30 : decode (z_c zX9_join) 30 = .ok (.getfield 13, 3) := by decide +kernel
theorem dX9_join_33 : decode (z_c zX9_join) 33 = .ok (.iadd, 1) := by decide +kernel
theorem dX9_join_34 : decode (z_c zX9_join) 34 = .ok (.aload_n 0, 1) := by decide +kernel
theorem dX9_join_35 : decode (z_c zX9_join) 35 = .ok (.getfield 13, 3) := by decide +kernel
theorem dX9_join_38 : decode (z_c zX9_join) 38 = .ok (.irem, 1) := by decide +kernel
theorem dX9_join_39 : decode (z_c zX9_join) 39 = .ok (.goto 4, 3) := by decide +kernel
theorem dX9_join_42 : decode (z_c zX9_join) 42 = .ok (.iload_n 2, 1) := by decide +kernel
theorem dX9_join_43 : decode (z_c zX9_join) 43 = .ok (.istore 5, 2) := by decide +kernel
theorem dX9_join_45 : decode (z_c zX9_join) 45 = .ok (.iload 4, 2) := by decide +kernel
theorem dX9_join_47 : decode (z_c zX9_join) 47 = .ok (.ifCond .eq 17, 3) := by decide +kernel
theorem dX9_join_50 : decode (z_c zX9_join) 50 = .ok (.iload_n 3, 1) := by decide +kernel
theorem dX9_join_51 : decode (z_c zX9_join) 51 = .ok (.aload_n 0, 1) := by decide +kernel
theorem dX9_join_52 : decode (z_c zX9_join) 52 = .ok (.getfield 7, 3) := by decide +kernel
theorem dX9_join_55 : decode (z_c zX9_join) 55 = .ok (.iadd, 1) := by decide +kernel
theorem dX9_join_56 : decode (z_c zX9_join) 56 = .ok (.aload_n 0, 1) := by decide +kernel
theorem dX9_join_57 : decode (z_c zX9_join) 57 = .ok (.getfield 7, 3) := by decide +kernel
theorem dX9_join_60 : decode (z_c zX9_join) 60 = .ok (.irem, 1) := by decide +kernel
theorem dX9_join_61 : decode (z_c zX9_join) 61 = .ok (.goto 4, 3) := by decide +kernel
theorem dX9_join_64 : decode (z_c zX9_join) 64 = .ok (.iload_n 3, 1) := by decide +kernel
theorem dX9_join_65 : decode (z_c zX9_join) 65 = .ok (.istore 6, 2) := by decide +kernel
theorem dX9_join_67 : decode (z_c zX9_join) 67 = .ok (.iload 5, 2) := by decide +kernel
theorem dX9_join_69 : decode (z_c zX9_join) 69 = .ok (.ifCond .lt 61, 3) := by decide +kernel
theorem dX9_join_72 : decode (z_c zX9_join) 72 = .ok (.iload 5, 2) := by decide +kernel
theorem dX9_join_74 : decode (z_c zX9_join) 74 = .ok (.aload_n 0, 1) := by decide +kernel
theorem dX9_join_75 : decode (z_c zX9_join) 75 = .ok (.getfield 13, 3) := by decide +kernel
theorem dX9_join_78 : decode (z_c zX9_join) 78 = .ok (.if_icmp .ge 52, 3) := by decide +kernel
theorem dX9_join_81 : decode (z_c zX9_join) 81 = .ok (.iload 6, 2) := by decide +kernel
theorem dX9_join_83 : decode (z_c zX9_join) 83 = .ok (.ifCond .lt 47, 3) := by decide +kernel
theorem dX9_join_86 : decode (z_c zX9_join) 86 = .ok (.iload 6, 2) := by decide +kernel
theorem dX9_join_88 : decode (z_c zX9_join) 88 = .ok (.aload_n 0, 1) := by decide +kernel
theorem dX9_join_89 : decode (z_c zX9_join) 89 = .ok (.getfield 7, 3) := by decide +kernel
theorem dX9_join_92 : decode (z_c zX9_join) 92 = .ok (.if_icmp .ge 38, 3) := by decide +kernel
theorem dX9_join_95 : decode (z_c zX9_join) 95 = .ok (.iload 5, 2) := by decide +kernel
theorem dX9_join_97 : decode (z_c zX9_join) 97 = .ok (.aload_n 0, 1) := by decide +kernel
theorem dX9_join_98 : decode (z_c zX9_join) 98 = .ok (.getfield 7, 3) := by decide +kernel
theorem dX9_join_101 : decode (z_c zX9_join) 101 = .ok (.imul, 1) := by decide +kernel
theorem dX9_join_102 : decode (z_c zX9_join) 102 = .ok (.iload 6, 2) := by decide +kernel
theorem dX9_join_104 : decode (z_c zX9_join) 104 = .ok (.iadd, 1) := by decide +kernel
theorem dX9_join_105 : decode (z_c zX9_join) 105 = .ok (.iload_n 1, 1) := by decide +kernel
theorem dX9_join_106 : decode (z_c zX9_join) 106 = .ok (.if_icmp .eq 24, 3) := by decide +kernel
theorem dX9_join_109 : decode (z_c zX9_join) 109 = .ok (.aload_n 0, 1) := by decide +kernel
theorem dX9_join_110 : decode (z_c zX9_join) 110 = .ok (.getfield 19, 3) := by decide +kernel
theorem dX9_join_113 : decode (z_c zX9_join) 113 = .ok (.bipush 100, 2) := by decide +kernel
theorem dX9_join_115 : decode (z_c zX9_join) 115 = .ok (.iload_n 1, 1) := by decide +kernel
theorem dX9_join_116 : decode (z_c zX9_join) 116 = .ok (.imul, 1) := by decide +kernel
theorem dX9_join_117 : decode (z_c zX9_join) 117 = .ok (.iload 5, 2) := by decide +kernel
theorem dX9_join_119 : decode (z_c zX9_join) 119 = .ok (.aload_n 0, 1) := by decide +kernel
theorem dX9_join_120 : decode (z_c zX9_join) 120 = .ok (.getfield 7, 3) := by decide +kernel
theorem dX9_join_123 : decode (z_c zX9_join) 123 = .ok (.imul, 1) := by decide +kernel
theorem dX9_join_124 : decode (z_c zX9_join) 124 = .ok (.iadd, 1) := by decide +kernel
theorem dX9_join_125 : decode (z_c zX9_join) 125 = .ok (.iload 6, 2) := by decide +kernel
theorem dX9_join_127 : decode (z_c zX9_join) 127 = .ok (.iadd, 1) := by decide +kernel
theorem dX9_join_128 : decode (z_c zX9_join) 128 = .ok (.iconst 1, 1) := by decide +kernel
theorem dX9_join_129 : decode (z_c zX9_join) 129 = .ok (.bastore, 1) := by decide +kernel
theorem dX9_join_130 : decode (z_c zX9_join) 130 = .ok (.return_, 1) := by decide +kernel
theorem dX9_layOut_0 : decode (z_c zX9_layOut) 0 = .ok (.aload_n 0, 1) := by decide +kernel
theorem dX9_layOut_1 : decode (z_c zX9_layOut) 1 = .ok (.iload_n 1, 1) := by decide +kernel
theorem dX9_layOut_2 : decode (z_c zX9_layOut) 2 = .ok (.putfield 7, 3) := by decide +kernel
theorem dX9_layOut_5 : decode (z_c zX9_layOut) 5 = .ok (.aload_n 0, 1) := by decide +kernel
theorem dX9_layOut_6 : decode (z_c zX9_layOut) 6 = .ok (.iload_n 2, 1) := by decide +kernel
theorem dX9_layOut_7 : decode (z_c zX9_layOut) 7 = .ok (.putfield 13, 3) := by decide +kernel
theorem dX9_layOut_10 : decode (z_c zX9_layOut) 10 = .ok (.aload_n 0, 1) := by decide +kernel
theorem dX9_layOut_11 : decode (z_c zX9_layOut) 11 = .ok (.iload_n 3, 1) := by decide +kernel
theorem dX9_layOut_12 : decode (z_c zX9_layOut) 12 = .ok (.putfield 104, 3) := by decide +kernel
theorem dX9_layOut_15 : decode (z_c zX9_layOut) 15 = .ok (.aload_n 0, 1) := by decide +kernel
theorem dX9_layOut_16 : decode (z_c zX9_layOut) 16 = .ok (.iload_n 1, 1) := by decide +kernel
theorem dX9_layOut_17 : decode (z_c zX9_layOut) 17 = .ok (.iload_n 2, 1) := by decide +kernel
theorem dX9_layOut_18 : decode (z_c zX9_layOut) 18 = .ok (.imul, 1) := by decide +kernel
theorem dX9_layOut_19 : decode (z_c zX9_layOut) 19 = .ok (.putfield 16, 3) := by decide +kernel
theorem dX9_layOut_22 : decode (z_c zX9_layOut) 22 = .ok (.iconst 0, 1) := by decide +kernel
theorem dX9_layOut_23 : decode (z_c zX9_layOut) 23 = .ok (.istore 4, 2) := by decide +kernel
theorem dX9_layOut_25 : decode (z_c zX9_layOut) 25 = .ok (.iload 4, 2) := by decide +kernel
theorem dX9_layOut_27 : decode (z_c zX9_layOut) 27 = .ok (.sipush 10000, 3) := by decide +kernel
theorem dX9_layOut_30 : decode (z_c zX9_layOut) 30 = .ok (.if_icmp .ge 17, 3) := by decide +kernel
theorem dX9_layOut_33 : decode (z_c zX9_layOut) 33 = .ok (.aload_n 0, 1) := by decide +kernel
theorem dX9_layOut_34 : decode (z_c zX9_layOut) 34 = .ok (.getfield 19, 3) := by decide +kernel
theorem dX9_layOut_37 : decode (z_c zX9_layOut) 37 = .ok (.iload 4, 2) := by decide +kernel
theorem dX9_layOut_39 : decode (z_c zX9_layOut) 39 = .ok (.iconst 0, 1) := by decide +kernel
theorem dX9_layOut_40 : decode (z_c zX9_layOut) 40 = .ok (.bastore, 1) := by decide +kernel
theorem dX9_layOut_41 : decode (z_c zX9_layOut) 41 = .ok (.iinc 4 1, 3) := by decide +kernel
theorem dX9_layOut_44 : decode (z_c zX9_layOut) 44 = .ok (.goto (-19), 3) := by decide +kernel
theorem dX9_layOut_47 : decode (z_c zX9_layOut) 47 = .ok (.iconst 0, 1) := by decide +kernel
theorem dX9_layOut_48 : decode (z_c zX9_layOut) 48 = .ok (.istore 4, 2) := by decide +kernel
theorem dX9_layOut_50 : decode (z_c zX9_layOut) 50 = .ok (.iload 4, 2) := by decide +kernel
theorem dX9_layOut_52 : decode (z_c zX9_layOut) 52 = .ok (.aload_n 0, 1) := by decide +kernel
theorem dX9_layOut_53 : decode (z_c zX9_layOut) 53 = .ok (.getfield 16, 3) := by decide +kernel
theorem dX9_layOut_56 : decode (z_c zX9_layOut) 56 = .ok (.if_icmp .ge 133, 3) := by decide +kernel
theorem dX9_layOut_59 : decode (z_c zX9_layOut) 59 = .ok (.iload 4, 2) := by decide +kernel
theorem dX9_layOut_61 : decode (z_c zX9_layOut) 61 = .ok (.iload_n 1, 1) := by decide +kernel
theorem dX9_layOut_62 : decode (z_c zX9_layOut) 62 = .ok (.idiv, 1) := by decide +kernel
theorem dX9_layOut_63 : decode (z_c zX9_layOut) 63 = .ok (.istore 5, 2) := by decide +kernel
theorem dX9_layOut_65 : decode (z_c zX9_layOut) 65 = .ok (.iload 4, 2) := by decide +kernel
theorem dX9_layOut_67 : decode (z_c zX9_layOut) 67 = .ok (.iload_n 1, 1) := by decide +kernel
theorem dX9_layOut_68 : decode (z_c zX9_layOut) 68 = .ok (.irem, 1) := by decide +kernel
theorem dX9_layOut_69 : decode (z_c zX9_layOut) 69 = .ok (.istore 6, 2) := by decide +kernel
theorem dX9_layOut_71 : decode (z_c zX9_layOut) 71 = .ok (.iload_n 3, 1) := by decide +kernel
theorem dX9_layOut_72 : decode (z_c zX9_layOut) 72 = .ok (.iconst 2, 1) := by decide +kernel
theorem dX9_layOut_73 : decode (z_c zX9_layOut) 73 = .ok (.if_icmp .lt 10, 3) := by decide +kernel
theorem dX9_layOut_76 : decode (z_c zX9_layOut) 76 = .ok (.iload 5, 2) := by decide +kernel
theorem dX9_layOut_78 : decode (z_c zX9_layOut) 78 = .ok (.iconst 2, 1) := by decide +kernel
theorem dX9_layOut_79 : decode (z_c zX9_layOut) 79 = .ok (.irem, 1) := by decide +kernel
theorem dX9_layOut_80 : decode (z_c zX9_layOut) 80 = .ok (.ifCond .ne 10, 3) := by decide +kernel
theorem dX9_layOut_83 : decode (z_c zX9_layOut) 83 = .ok (.iload 6, 2) := by decide +kernel
theorem dX9_layOut_85 : decode (z_c zX9_layOut) 85 = .ok (.iconst 1, 1) := by decide +kernel
theorem dX9_layOut_86 : decode (z_c zX9_layOut) 86 = .ok (.isub, 1) := by decide +kernel
theorem dX9_layOut_87 : decode (z_c zX9_layOut) 87 = .ok (.goto 5, 3) := by decide +kernel
theorem dX9_layOut_90 : decode (z_c zX9_layOut) 90 = .ok (.iload 6, 2) := by decide +kernel
theorem dX9_layOut_92 : decode (z_c zX9_layOut) 92 = .ok (.istore 7, 2) := by decide +kernel
theorem dX9_layOut_94 : decode (z_c zX9_layOut) 94 = .ok (.iload_n 3, 1) := by decide +kernel
theorem dX9_layOut_95 : decode (z_c zX9_layOut) 95 = .ok (.iconst 2, 1) := by decide +kernel
theorem dX9_layOut_96 : decode (z_c zX9_layOut) 96 = .ok (.if_icmp .lt 11, 3) := by decide +kernel
theorem dX9_layOut_99 : decode (z_c zX9_layOut) 99 = .ok (.iload 5, 2) := by decide +kernel
theorem dX9_layOut_101 : decode (z_c zX9_layOut) 101 = .ok (.iconst 2, 1) := by decide +kernel
theorem dX9_layOut_102 : decode (z_c zX9_layOut) 102 = .ok (.irem, 1) := by decide +kernel
theorem dX9_layOut_103 : decode (z_c zX9_layOut) 103 = .ok (.iconst 1, 1) := by decide +kernel
theorem dX9_layOut_104 : decode (z_c zX9_layOut) 104 = .ok (.if_icmp .ne 10, 3) := by decide +kernel
theorem dX9_layOut_107 : decode (z_c zX9_layOut) 107 = .ok (.iload 6, 2) := by decide +kernel
theorem dX9_layOut_109 : decode (z_c zX9_layOut) 109 = .ok (.iconst 1, 1) := by decide +kernel
theorem dX9_layOut_110 : decode (z_c zX9_layOut) 110 = .ok (.iadd, 1) := by decide +kernel
theorem dX9_layOut_111 : decode (z_c zX9_layOut) 111 = .ok (.goto 5, 3) := by decide +kernel
theorem dX9_layOut_114 : decode (z_c zX9_layOut) 114 = .ok (.iload 6, 2) := by decide +kernel
theorem dX9_layOut_116 : decode (z_c zX9_layOut) 116 = .ok (.istore 8, 2) := by decide +kernel
theorem dX9_layOut_118 : decode (z_c zX9_layOut) 118 = .ok (.iload 7, 2) := by decide +kernel
theorem dX9_layOut_120 : decode (z_c zX9_layOut) 120 = .ok (.istore 9, 2) := by decide +kernel
theorem dX9_layOut_122 : decode (z_c zX9_layOut) 122 = .ok (.iload 9, 2) := by decide +kernel
theorem dX9_layOut_124 : decode (z_c zX9_layOut) 124 = .ok (.iload 8, 2) := by decide +kernel
theorem dX9_layOut_126 : decode (z_c zX9_layOut) 126 = .ok (.if_icmp .gt 33, 3) := by decide +kernel
theorem dX9_layOut_129 : decode (z_c zX9_layOut) 129 = .ok (.aload_n 0, 1) := by decide +kernel
theorem dX9_layOut_130 : decode (z_c zX9_layOut) 130 = .ok (.iload 4, 2) := by decide +kernel
theorem dX9_layOut_132 : decode (z_c zX9_layOut) 132 = .ok (.iload 5, 2) := by decide +kernel
theorem dX9_layOut_134 : decode (z_c zX9_layOut) 134 = .ok (.iconst 1, 1) := by decide +kernel
theorem dX9_layOut_135 : decode (z_c zX9_layOut) 135 = .ok (.isub, 1) := by decide +kernel
theorem dX9_layOut_136 : decode (z_c zX9_layOut) 136 = .ok (.iload 9, 2) := by decide +kernel
theorem dX9_layOut_138 : decode (z_c zX9_layOut) 138 = .ok (.invokevirtual 107, 3) := by decide +kernel
theorem dX9_layOut_141 : decode (z_c zX9_layOut) 141 = .ok (.aload_n 0, 1) := by decide +kernel
theorem dX9_layOut_142 : decode (z_c zX9_layOut) 142 = .ok (.iload 4, 2) := by decide +kernel
theorem dX9_layOut_144 : decode (z_c zX9_layOut) 144 = .ok (.iload 5, 2) := by decide +kernel
theorem dX9_layOut_146 : decode (z_c zX9_layOut) 146 = .ok (.iconst 1, 1) := by decide +kernel
theorem dX9_layOut_147 : decode (z_c zX9_layOut) 147 = .ok (.iadd, 1) := by decide +kernel
theorem dX9_layOut_148 : decode (z_c zX9_layOut) 148 = .ok (.iload 9, 2) := by decide +kernel
theorem dX9_layOut_150 : decode (z_c zX9_layOut) 150 = .ok (.invokevirtual 107, 3) := by decide +kernel
theorem dX9_layOut_153 : decode (z_c zX9_layOut) 153 = .ok (.iinc 9 1, 3) := by decide +kernel
theorem dX9_layOut_156 : decode (z_c zX9_layOut) 156 = .ok (.goto (-34), 3) := by decide +kernel
theorem dX9_layOut_159 : decode (z_c zX9_layOut) 159 = .ok (.aload_n 0, 1) := by decide +kernel
theorem dX9_layOut_160 : decode (z_c zX9_layOut) 160 = .ok (.iload 4, 2) := by decide +kernel
theorem dX9_layOut_162 : decode (z_c zX9_layOut) 162 = .ok (.iload 5, 2) := by decide +kernel
theorem dX9_layOut_164 : decode (z_c zX9_layOut) 164 = .ok (.iload 6, 2) := by decide +kernel
theorem dX9_layOut_166 : decode (z_c zX9_layOut) 166 = .ok (.iconst 1, 1) := by decide +kernel
theorem dX9_layOut_167 : decode (z_c zX9_layOut) 167 = .ok (.isub, 1) := by decide +kernel
theorem dX9_layOut_168 : decode (z_c zX9_layOut) 168 = .ok (.invokevirtual 107, 3) := by decide +kernel
theorem dX9_layOut_171 : decode (z_c zX9_layOut) 171 = .ok (.aload_n 0, 1) := by decide +kernel
theorem dX9_layOut_172 : decode (z_c zX9_layOut) 172 = .ok (.iload 4, 2) := by decide +kernel
theorem dX9_layOut_174 : decode (z_c zX9_layOut) 174 = .ok (.iload 5, 2) := by decide +kernel
theorem dX9_layOut_176 : decode (z_c zX9_layOut) 176 = .ok (.iload 6, 2) := by decide +kernel
theorem dX9_layOut_178 : decode (z_c zX9_layOut) 178 = .ok (.iconst 1, 1) := by decide +kernel
theorem dX9_layOut_179 : decode (z_c zX9_layOut) 179 = .ok (.iadd, 1) := by decide +kernel
theorem dX9_layOut_180 : decode (z_c zX9_layOut) 180 = .ok (.invokevirtual 107, 3) := by decide +kernel
theorem dX9_layOut_183 : decode (z_c zX9_layOut) 183 = .ok (.iinc 4 1, 3) := by decide +kernel
theorem dX9_layOut_186 : decode (z_c zX9_layOut) 186 = .ok (.goto (-136), 3) := by decide +kernel
theorem dX9_layOut_189 : decode (z_c zX9_layOut) 189 = .ok (.return_, 1) := by decide +kernel
theorem dX9_isNear_0 : decode (z_c zX9_isNear) 0 = .ok (.aload_n 0, 1) := by decide +kernel
theorem dX9_isNear_1 : decode (z_c zX9_isNear) 1 = .ok (.getfield 19, 3) := by decide +kernel
theorem dX9_isNear_4 : decode (z_c zX9_isNear) 4 = .ok (.bipush 100, 2) := by decide +kernel
theorem dX9_isNear_6 : decode (z_c zX9_isNear) 6 = .ok (.iload_n 1, 1) := by decide +kernel
theorem dX9_isNear_7 : decode (z_c zX9_isNear) 7 = .ok (.imul, 1) := by decide +kernel
theorem dX9_isNear_8 : decode (z_c zX9_isNear) 8 = .ok (.iload_n 2, 1) := by decide +kernel
theorem dX9_isNear_9 : decode (z_c zX9_isNear) 9 = .ok (.iadd, 1) := by decide +kernel
theorem dX9_isNear_10 : decode (z_c zX9_isNear) 10 = .ok (.baload, 1) := by decide +kernel
theorem dX9_isNear_11 : decode (z_c zX9_isNear) 11 = .ok (.ireturn, 1) := by decide +kernel
theorem dX9_isCell_0 : decode (z_c zX9_isCell) 0 = .ok (.iload_n 1, 1) := by decide +kernel
theorem dX9_isCell_1 : decode (z_c zX9_isCell) 1 = .ok (.ifCond .lt 15, 3) := by decide +kernel
theorem dX9_isCell_4 : decode (z_c zX9_isCell) 4 = .ok (.iload_n 1, 1) := by decide +kernel
theorem dX9_isCell_5 : decode (z_c zX9_isCell) 5 = .ok (.aload_n 0, 1) := by decide +kernel
theorem dX9_isCell_6 : decode (z_c zX9_isCell) 6 = .ok (.getfield 16, 3) := by decide +kernel
theorem dX9_isCell_9 : decode (z_c zX9_isCell) 9 = .ok (.if_icmp .ge 7, 3) := by decide +kernel
theorem dX9_isCell_12 : decode (z_c zX9_isCell) 12 = .ok (.iconst 1, 1) := by decide +kernel
theorem dX9_isCell_13 : decode (z_c zX9_isCell) 13 = .ok (.goto 4, 3) := by decide +kernel
theorem dX9_isCell_16 : decode (z_c zX9_isCell) 16 = .ok (.iconst 0, 1) := by decide +kernel
theorem dX9_isCell_17 : decode (z_c zX9_isCell) 17 = .ok (.ireturn, 1) := by decide +kernel
theorem dX9_isBoard_0 : decode (z_c zX9_isBoard) 0 = .ok (.iload_n 0, 1) := by decide +kernel
theorem dX9_isBoard_1 : decode (z_c zX9_isBoard) 1 = .ok (.iconst 1, 1) := by decide +kernel
theorem dX9_isBoard_2 : decode (z_c zX9_isBoard) 2 = .ok (.if_icmp .lt 44, 3) := by decide +kernel
theorem dX9_isBoard_5 : decode (z_c zX9_isBoard) 5 = .ok (.iload_n 0, 1) := by decide +kernel
theorem dX9_isBoard_6 : decode (z_c zX9_isBoard) 6 = .ok (.bipush 10, 2) := by decide +kernel
theorem dX9_isBoard_8 : decode (z_c zX9_isBoard) 8 = .ok (.if_icmp .gt 38, 3) := by decide +kernel
theorem dX9_isBoard_11 : decode (z_c zX9_isBoard) 11 = .ok (.iload_n 1, 1) := by decide +kernel
theorem dX9_isBoard_12 : decode (z_c zX9_isBoard) 12 = .ok (.iconst 1, 1) := by decide +kernel
theorem dX9_isBoard_13 : decode (z_c zX9_isBoard) 13 = .ok (.if_icmp .lt 33, 3) := by decide +kernel
theorem dX9_isBoard_16 : decode (z_c zX9_isBoard) 16 = .ok (.iload_n 1, 1) := by decide +kernel
theorem dX9_isBoard_17 : decode (z_c zX9_isBoard) 17 = .ok (.bipush 10, 2) := by decide +kernel
theorem dX9_isBoard_19 : decode (z_c zX9_isBoard) 19 = .ok (.if_icmp .gt 27, 3) := by decide +kernel
theorem dX9_isBoard_22 : decode (z_c zX9_isBoard) 22 = .ok (.iload_n 2, 1) := by decide +kernel
theorem dX9_isBoard_23 : decode (z_c zX9_isBoard) 23 = .ok (.ifCond .lt 23, 3) := by decide +kernel
theorem dX9_isBoard_26 : decode (z_c zX9_isBoard) 26 = .ok (.iload_n 2, 1) := by decide +kernel
theorem dX9_isBoard_27 : decode (z_c zX9_isBoard) 27 = .ok (.iconst 3, 1) := by decide +kernel
theorem dX9_isBoard_28 : decode (z_c zX9_isBoard) 28 = .ok (.if_icmp .gt 18, 3) := by decide +kernel
theorem dX9_isBoard_31 : decode (z_c zX9_isBoard) 31 = .ok (.iload_n 2, 1) := by decide +kernel
theorem dX9_isBoard_32 : decode (z_c zX9_isBoard) 32 = .ok (.iconst 3, 1) := by decide +kernel
theorem dX9_isBoard_33 : decode (z_c zX9_isBoard) 33 = .ok (.if_icmp .lt 9, 3) := by decide +kernel
theorem dX9_isBoard_36 : decode (z_c zX9_isBoard) 36 = .ok (.iload_n 1, 1) := by decide +kernel
theorem dX9_isBoard_37 : decode (z_c zX9_isBoard) 37 = .ok (.iconst 2, 1) := by decide +kernel
theorem dX9_isBoard_38 : decode (z_c zX9_isBoard) 38 = .ok (.irem, 1) := by decide +kernel
theorem dX9_isBoard_39 : decode (z_c zX9_isBoard) 39 = .ok (.ifCond .ne 7, 3) := by decide +kernel
theorem dX9_isBoard_42 : decode (z_c zX9_isBoard) 42 = .ok (.iconst 1, 1) := by decide +kernel
theorem dX9_isBoard_43 : decode (z_c zX9_isBoard) 43 = .ok (.goto 4, 3) := by decide +kernel
theorem dX9_isBoard_46 : decode (z_c zX9_isBoard) 46 = .ok (.iconst 0, 1) := by decide +kernel
theorem dX9_isBoard_47 : decode (z_c zX9_isBoard) 47 = .ok (.ireturn, 1) := by decide +kernel
theorem dX9_hideAll_0 : decode (z_c zX9_hideAll) 0 = .ok (.iconst 0, 1) := by decide +kernel
theorem dX9_hideAll_1 : decode (z_c zX9_hideAll) 1 = .ok (.istore_n 1, 1) := by decide +kernel
theorem dX9_hideAll_2 : decode (z_c zX9_hideAll) 2 = .ok (.iload_n 1, 1) := by decide +kernel
theorem dX9_hideAll_3 : decode (z_c zX9_hideAll) 3 = .ok (.bipush 100, 2) := by decide +kernel
theorem dX9_hideAll_5 : decode (z_c zX9_hideAll) 5 = .ok (.if_icmp .ge 23, 3) := by decide +kernel
theorem dX9_hideAll_8 : decode (z_c zX9_hideAll) 8 = .ok (.aload_n 0, 1) := by decide +kernel
theorem dX9_hideAll_9 : decode (z_c zX9_hideAll) 9 = .ok (.getfield 26, 3) := by decide +kernel
theorem dX9_hideAll_12 : decode (z_c zX9_hideAll) 12 = .ok (.iload_n 1, 1) := by decide +kernel
theorem dX9_hideAll_13 : decode (z_c zX9_hideAll) 13 = .ok (.iconst 0, 1) := by decide +kernel
theorem dX9_hideAll_14 : decode (z_c zX9_hideAll) 14 = .ok (.iastore, 1) := by decide +kernel
theorem dX9_hideAll_15 : decode (z_c zX9_hideAll) 15 = .ok (.aload_n 0, 1) := by decide +kernel
theorem dX9_hideAll_16 : decode (z_c zX9_hideAll) 16 = .ok (.getfield 30, 3) := by decide +kernel
theorem dX9_hideAll_19 : decode (z_c zX9_hideAll) 19 = .ok (.iload_n 1, 1) := by decide +kernel
theorem dX9_hideAll_20 : decode (z_c zX9_hideAll) 20 = .ok (.iconst 0, 1) := by decide +kernel
theorem dX9_hideAll_21 : decode (z_c zX9_hideAll) 21 = .ok (.bastore, 1) := by decide +kernel
theorem dX9_hideAll_22 : decode (z_c zX9_hideAll) 22 = .ok (.iinc 1 1, 3) := by decide +kernel
theorem dX9_hideAll_25 : decode (z_c zX9_hideAll) 25 = .ok (.goto (-23), 3) := by decide +kernel
theorem dX9_hideAll_28 : decode (z_c zX9_hideAll) 28 = .ok (.return_, 1) := by decide +kernel
theorem dX9_forget_0 : decode (z_c zX9_forget) 0 = .ok (.aload_n 0, 1) := by decide +kernel
theorem dX9_forget_1 : decode (z_c zX9_forget) 1 = .ok (.iconst 0, 1) := by decide +kernel
theorem dX9_forget_2 : decode (z_c zX9_forget) 2 = .ok (.putfield 110, 3) := by decide +kernel
theorem dX9_forget_5 : decode (z_c zX9_forget) 5 = .ok (.aload_n 0, 1) := by decide +kernel
theorem dX9_forget_6 : decode (z_c zX9_forget) 6 = .ok (.iconst (-1), 1) := by decide +kernel
theorem dX9_forget_7 : decode (z_c zX9_forget) 7 = .ok (.putfield 45, 3) := by decide +kernel
theorem dX9_forget_10 : decode (z_c zX9_forget) 10 = .ok (.aload_n 0, 1) := by decide +kernel
theorem dX9_forget_11 : decode (z_c zX9_forget) 11 = .ok (.iconst 0, 1) := by decide +kernel
theorem dX9_forget_12 : decode (z_c zX9_forget) 12 = .ok (.putfield 113, 3) := by decide +kernel
theorem dX9_forget_15 : decode (z_c zX9_forget) 15 = .ok (.iconst 0, 1) := by decide +kernel
theorem dX9_forget_16 : decode (z_c zX9_forget) 16 = .ok (.istore_n 1, 1) := by decide +kernel
theorem dX9_forget_17 : decode (z_c zX9_forget) 17 = .ok (.iload_n 1, 1) := by decide +kernel
theorem dX9_forget_18 : decode (z_c zX9_forget) 18 = .ok (.bipush 101, 2) := by decide +kernel
theorem dX9_forget_20 : decode (z_c zX9_forget) 20 = .ok (.if_icmp .ge 23, 3) := by decide +kernel
theorem dX9_forget_23 : decode (z_c zX9_forget) 23 = .ok (.aload_n 0, 1) := by decide +kernel
theorem dX9_forget_24 : decode (z_c zX9_forget) 24 = .ok (.getfield 48, 3) := by decide +kernel
theorem dX9_forget_27 : decode (z_c zX9_forget) 27 = .ok (.iload_n 1, 1) := by decide +kernel
theorem dX9_forget_28 : decode (z_c zX9_forget) 28 = .ok (.iconst 0, 1) := by decide +kernel
theorem dX9_forget_29 : decode (z_c zX9_forget) 29 = .ok (.bastore, 1) := by decide +kernel
theorem dX9_forget_30 : decode (z_c zX9_forget) 30 = .ok (.aload_n 0, 1) := by decide +kernel
theorem dX9_forget_31 : decode (z_c zX9_forget) 31 = .ok (.getfield 51, 3) := by decide +kernel
theorem dX9_forget_34 : decode (z_c zX9_forget) 34 = .ok (.iload_n 1, 1) := by decide +kernel
theorem dX9_forget_35 : decode (z_c zX9_forget) 35 = .ok (.iconst 0, 1) := by decide +kernel
theorem dX9_forget_36 : decode (z_c zX9_forget) 36 = .ok (.bastore, 1) := by decide +kernel
theorem dX9_forget_37 : decode (z_c zX9_forget) 37 = .ok (.iinc 1 1, 3) := by decide +kernel
theorem dX9_forget_40 : decode (z_c zX9_forget) 40 = .ok (.goto (-23), 3) := by decide +kernel
theorem dX9_forget_43 : decode (z_c zX9_forget) 43 = .ok (.return_, 1) := by decide +kernel
theorem dX9_blank_0 : decode (z_c zX9_blank) 0 = .ok (.iload_n 1, 1) := by decide +kernel
theorem dX9_blank_1 : decode (z_c zX9_blank) 1 = .ok (.iload_n 2, 1) := by decide +kernel
theorem dX9_blank_2 : decode (z_c zX9_blank) 2 = .ok (.iload_n 3, 1) := by decide +kernel
theorem dX9_blank_3 : decode (z_c zX9_blank) 3 = .ok (.invokestatic 116, 3) := by decide +kernel
theorem dX9_blank_6 : decode (z_c zX9_blank) 6 = .ok (.ifCond .ne 5, 3) := by decide +kernel
theorem dX9_blank_9 : decode (z_c zX9_blank) 9 = .ok (.iconst (-1), 1) := by decide +kernel
theorem dX9_blank_10 : decode (z_c zX9_blank) 10 = .ok (.ireturn, 1) := by decide +kernel
theorem dX9_blank_11 : decode (z_c zX9_blank) 11 = .ok (.aload_n 0, 1) := by decide +kernel
theorem dX9_blank_12 : decode (z_c zX9_blank) 12 = .ok (.iload_n 1, 1) := by decide +kernel
theorem dX9_blank_13 : decode (z_c zX9_blank) 13 = .ok (.iload_n 2, 1) := by decide +kernel
theorem dX9_blank_14 : decode (z_c zX9_blank) 14 = .ok (.iload_n 3, 1) := by decide +kernel
theorem dX9_blank_15 : decode (z_c zX9_blank) 15 = .ok (.invokevirtual 100, 3) := by decide +kernel
theorem dX9_blank_18 : decode (z_c zX9_blank) 18 = .ok (.aload_n 0, 1) := by decide +kernel
theorem dX9_blank_19 : decode (z_c zX9_blank) 19 = .ok (.invokevirtual 120, 3) := by decide +kernel
theorem dX9_blank_22 : decode (z_c zX9_blank) 22 = .ok (.iconst 0, 1) := by decide +kernel
theorem dX9_blank_23 : decode (z_c zX9_blank) 23 = .ok (.istore 4, 2) := by decide +kernel
theorem dX9_blank_25 : decode (z_c zX9_blank) 25 = .ok (.iload 4, 2) := by decide +kernel
theorem dX9_blank_27 : decode (z_c zX9_blank) 27 = .ok (.bipush 100, 2) := by decide +kernel
theorem dX9_blank_29 : decode (z_c zX9_blank) 29 = .ok (.if_icmp .ge 17, 3) := by decide +kernel
theorem dX9_blank_32 : decode (z_c zX9_blank) 32 = .ok (.aload_n 0, 1) := by decide +kernel
theorem dX9_blank_33 : decode (z_c zX9_blank) 33 = .ok (.getfield 23, 3) := by decide +kernel
theorem dX9_blank_36 : decode (z_c zX9_blank) 36 = .ok (.iload 4, 2) := by decide +kernel
theorem dX9_blank_38 : decode (z_c zX9_blank) 38 = .ok (.iconst 0, 1) := by decide +kernel
theorem dX9_blank_39 : decode (z_c zX9_blank) 39 = .ok (.bastore, 1) := by decide +kernel
theorem dX9_blank_40 : decode (z_c zX9_blank) 40 = .ok (.iinc 4 1, 3) := by decide +kernel
theorem dX9_blank_43 : decode (z_c zX9_blank) 43 = .ok (.goto (-18), 3) := by decide +kernel
theorem dX9_blank_46 : decode (z_c zX9_blank) 46 = .ok (.aload_n 0, 1) := by decide +kernel
theorem dX9_blank_47 : decode (z_c zX9_blank) 47 = .ok (.invokevirtual 123, 3) := by decide +kernel
theorem dX9_blank_50 : decode (z_c zX9_blank) 50 = .ok (.aload_n 0, 1) := by decide +kernel
theorem dX9_blank_51 : decode (z_c zX9_blank) 51 = .ok (.getfield 16, 3) := by decide +kernel
theorem dX9_blank_54 : decode (z_c zX9_blank) 54 = .ok (.ireturn, 1) := by decide +kernel
theorem dX9_mines_0 : decode (z_c zX9_mines) 0 = .ok (.iconst 0, 1) := by decide +kernel
theorem dX9_mines_1 : decode (z_c zX9_mines) 1 = .ok (.istore_n 1, 1) := by decide +kernel
theorem dX9_mines_2 : decode (z_c zX9_mines) 2 = .ok (.iconst 0, 1) := by decide +kernel
theorem dX9_mines_3 : decode (z_c zX9_mines) 3 = .ok (.istore_n 2, 1) := by decide +kernel
theorem dX9_mines_4 : decode (z_c zX9_mines) 4 = .ok (.iload_n 2, 1) := by decide +kernel
theorem dX9_mines_5 : decode (z_c zX9_mines) 5 = .ok (.aload_n 0, 1) := by decide +kernel
theorem dX9_mines_6 : decode (z_c zX9_mines) 6 = .ok (.getfield 16, 3) := by decide +kernel
theorem dX9_mines_9 : decode (z_c zX9_mines) 9 = .ok (.if_icmp .ge 26, 3) := by decide +kernel
theorem dX9_mines_12 : decode (z_c zX9_mines) 12 = .ok (.iload_n 1, 1) := by decide +kernel
theorem dX9_mines_13 : decode (z_c zX9_mines) 13 = .ok (.aload_n 0, 1) := by decide +kernel
theorem dX9_mines_14 : decode (z_c zX9_mines) 14 = .ok (.getfield 23, 3) := by decide +kernel
theorem dX9_mines_17 : decode (z_c zX9_mines) 17 = .ok (.iload_n 2, 1) := by decide +kernel
theorem dX9_mines_18 : decode (z_c zX9_mines) 18 = .ok (.baload, 1) := by decide +kernel
theorem dX9_mines_19 : decode (z_c zX9_mines) 19 = .ok (.ifCond .eq 7, 3) := by decide +kernel
theorem dX9_mines_22 : decode (z_c zX9_mines) 22 = .ok (.iconst 1, 1) := by decide +kernel
theorem dX9_mines_23 : decode (z_c zX9_mines) 23 = .ok (.goto 4, 3) := by decide +kernel
theorem dX9_mines_26 : decode (z_c zX9_mines) 26 = .ok (.iconst 0, 1) := by decide +kernel
theorem dX9_mines_27 : decode (z_c zX9_mines) 27 = .ok (.iadd, 1) := by decide +kernel
theorem dX9_mines_28 : decode (z_c zX9_mines) 28 = .ok (.istore_n 1, 1) := by decide +kernel
theorem dX9_mines_29 : decode (z_c zX9_mines) 29 = .ok (.iinc 2 1, 3) := by decide +kernel
theorem dX9_mines_32 : decode (z_c zX9_mines) 32 = .ok (.goto (-28), 3) := by decide +kernel
theorem dX9_mines_35 : decode (z_c zX9_mines) 35 = .ok (.iload_n 1, 1) := by decide +kernel
theorem dX9_mines_36 : decode (z_c zX9_mines) 36 = .ok (.ireturn, 1) := by decide +kernel
theorem dX9_inState_0 : decode (z_c zX9_inState) 0 = .ok (.iconst 0, 1) := by decide +kernel
theorem dX9_inState_1 : decode (z_c zX9_inState) 1 = .ok (.istore_n 2, 1) := by decide +kernel
theorem dX9_inState_2 : decode (z_c zX9_inState) 2 = .ok (.iconst 0, 1) := by decide +kernel
theorem dX9_inState_3 : decode (z_c zX9_inState) 3 = .ok (.istore_n 3, 1) := by decide +kernel
theorem dX9_inState_4 : decode (z_c zX9_inState) 4 = .ok (.iload_n 3, 1) := by decide +kernel
theorem dX9_inState_5 : decode (z_c zX9_inState) 5 = .ok (.aload_n 0, 1) := by decide +kernel
theorem dX9_inState_6 : decode (z_c zX9_inState) 6 = .ok (.getfield 16, 3) := by decide +kernel
theorem dX9_inState_9 : decode (z_c zX9_inState) 9 = .ok (.if_icmp .ge 27, 3) := by decide +kernel
theorem dX9_inState_12 : decode (z_c zX9_inState) 12 = .ok (.iload_n 2, 1) := by decide +kernel
theorem dX9_inState_13 : decode (z_c zX9_inState) 13 = .ok (.aload_n 0, 1) := by decide +kernel
theorem dX9_inState_14 : decode (z_c zX9_inState) 14 = .ok (.getfield 26, 3) := by decide +kernel
theorem dX9_inState_17 : decode (z_c zX9_inState) 17 = .ok (.iload_n 3, 1) := by decide +kernel
theorem dX9_inState_18 : decode (z_c zX9_inState) 18 = .ok (.iaload, 1) := by decide +kernel
theorem dX9_inState_19 : decode (z_c zX9_inState) 19 = .ok (.iload_n 1, 1) := by decide +kernel
theorem dX9_inState_20 : decode (z_c zX9_inState) 20 = .ok (.if_icmp .ne 7, 3) := by decide +kernel
theorem dX9_inState_23 : decode (z_c zX9_inState) 23 = .ok (.iconst 1, 1) := by decide +kernel
theorem dX9_inState_24 : decode (z_c zX9_inState) 24 = .ok (.goto 4, 3) := by decide +kernel
theorem dX9_inState_27 : decode (z_c zX9_inState) 27 = .ok (.iconst 0, 1) := by decide +kernel
theorem dX9_inState_28 : decode (z_c zX9_inState) 28 = .ok (.iadd, 1) := by decide +kernel
theorem dX9_inState_29 : decode (z_c zX9_inState) 29 = .ok (.istore_n 2, 1) := by decide +kernel
theorem dX9_inState_30 : decode (z_c zX9_inState) 30 = .ok (.iinc 3 1, 3) := by decide +kernel
theorem dX9_inState_33 : decode (z_c zX9_inState) 33 = .ok (.goto (-29), 3) := by decide +kernel
theorem dX9_inState_36 : decode (z_c zX9_inState) 36 = .ok (.iload_n 2, 1) := by decide +kernel
theorem dX9_inState_37 : decode (z_c zX9_inState) 37 = .ok (.ireturn, 1) := by decide +kernel
theorem dX9_edit_0 : decode (z_c zX9_edit) 0 = .ok (.aload_n 0, 1) := by decide +kernel
theorem dX9_edit_1 : decode (z_c zX9_edit) 1 = .ok (.iload_n 1, 1) := by decide +kernel
theorem dX9_edit_2 : decode (z_c zX9_edit) 2 = .ok (.invokevirtual 126, 3) := by decide +kernel
theorem dX9_edit_5 : decode (z_c zX9_edit) 5 = .ok (.ifCond .ne 5, 3) := by decide +kernel
theorem dX9_edit_8 : decode (z_c zX9_edit) 8 = .ok (.iconst (-1), 1) := by decide +kernel
theorem dX9_edit_9 : decode (z_c zX9_edit) 9 = .ok (.ireturn, 1) := by decide +kernel
theorem dX9_edit_10 : decode (z_c zX9_edit) 10 = .ok (.aload_n 0, 1) := by decide +kernel
theorem dX9_edit_11 : decode (z_c zX9_edit) 11 = .ok (.iconst 0, 1) := by decide +kernel
theorem dX9_edit_12 : decode (z_c zX9_edit) 12 = .ok (.invokevirtual 130, 3) := by decide +kernel
theorem dX9_edit_15 : decode (z_c zX9_edit) 15 = .ok (.aload_n 0, 1) := by decide +kernel
theorem dX9_edit_16 : decode (z_c zX9_edit) 16 = .ok (.getfield 16, 3) := by decide +kernel
theorem dX9_edit_19 : decode (z_c zX9_edit) 19 = .ok (.if_icmp .lt 13, 3) := by decide +kernel
theorem dX9_edit_22 : decode (z_c zX9_edit) 22 = .ok (.aload_n 0, 1) := by decide +kernel
theorem dX9_edit_23 : decode (z_c zX9_edit) 23 = .ok (.getfield 23, 3) := by decide +kernel
theorem dX9_edit_26 : decode (z_c zX9_edit) 26 = .ok (.iload_n 1, 1) := by decide +kernel
theorem dX9_edit_27 : decode (z_c zX9_edit) 27 = .ok (.baload, 1) := by decide +kernel
theorem dX9_edit_28 : decode (z_c zX9_edit) 28 = .ok (.iload_n 2, 1) := by decide +kernel
theorem dX9_edit_29 : decode (z_c zX9_edit) 29 = .ok (.if_icmp .ne 6, 3) := by decide +kernel
theorem dX9_edit_32 : decode (z_c zX9_edit) 32 = .ok (.bipush (-2), 2) := by decide +kernel
theorem dX9_edit_34 : decode (z_c zX9_edit) 34 = .ok (.ireturn, 1) := by decide +kernel
theorem dX9_edit_35 : decode (z_c zX9_edit) 35 = .ok (.aload_n 0, 1) := by decide +kernel
theorem dX9_edit_36 : decode (z_c zX9_edit) 36 = .ok (.getfield 23, 3) := by decide +kernel
theorem dX9_edit_39 : decode (z_c zX9_edit) 39 = .ok (.iload_n 1, 1) := by decide +kernel
theorem dX9_edit_40 : decode (z_c zX9_edit) 40 = .ok (.iload_n 2, 1) := by decide +kernel
theorem dX9_edit_41 : decode (z_c zX9_edit) 41 = .ok (.bastore, 1) := by decide +kernel
theorem dX9_edit_42 : decode (z_c zX9_edit) 42 = .ok (.aload_n 0, 1) := by decide +kernel
theorem dX9_edit_43 : decode (z_c zX9_edit) 43 = .ok (.invokevirtual 134, 3) := by decide +kernel
theorem dX9_edit_46 : decode (z_c zX9_edit) 46 = .ok (.ireturn, 1) := by decide +kernel
theorem dX9_numberOf_0 : decode (z_c zX9_numberOf) 0 = .ok (.iconst 0, 1) := by decide +kernel
theorem dX9_numberOf_1 : decode (z_c zX9_numberOf) 1 = .ok (.istore_n 2, 1) := by decide +kernel
theorem dX9_numberOf_2 : decode (z_c zX9_numberOf) 2 = .ok (.iconst 0, 1) := by decide +kernel
theorem dX9_numberOf_3 : decode (z_c zX9_numberOf) 3 = .ok (.istore_n 3, 1) := by decide +kernel
theorem dX9_numberOf_4 : decode (z_c zX9_numberOf) 4 = .ok (.iload_n 3, 1) := by decide +kernel
theorem dX9_numberOf_5 : decode (z_c zX9_numberOf) 5 = .ok (.aload_n 0, 1) := by decide +kernel
theorem dX9_numberOf_6 : decode (z_c zX9_numberOf) 6 = .ok (.getfield 16, 3) := by decide +kernel
theorem dX9_numberOf_9 : decode (z_c zX9_numberOf) 9 = .ok (.if_icmp .ge 35, 3) := by decide +kernel
theorem dX9_numberOf_12 : decode (z_c zX9_numberOf) 12 = .ok (.iload_n 2, 1) := by decide +kernel
theorem dX9_numberOf_13 : decode (z_c zX9_numberOf) 13 = .ok (.aload_n 0, 1) := by decide +kernel
theorem dX9_numberOf_14 : decode (z_c zX9_numberOf) 14 = .ok (.iload_n 1, 1) := by decide +kernel
theorem dX9_numberOf_15 : decode (z_c zX9_numberOf) 15 = .ok (.iload_n 3, 1) := by decide +kernel
theorem dX9_numberOf_16 : decode (z_c zX9_numberOf) 16 = .ok (.invokevirtual 138, 3) := by decide +kernel
theorem dX9_numberOf_19 : decode (z_c zX9_numberOf) 19 = .ok (.ifCond .eq 16, 3) := by decide +kernel
theorem dX9_numberOf_22 : decode (z_c zX9_numberOf) 22 = .ok (.aload_n 0, 1) := by decide +kernel
theorem dX9_numberOf_23 : decode (z_c zX9_numberOf) 23 = .ok (.getfield 23, 3) := by decide +kernel
theorem dX9_numberOf_26 : decode (z_c zX9_numberOf) 26 = .ok (.iload_n 3, 1) := by decide +kernel
theorem dX9_numberOf_27 : decode (z_c zX9_numberOf) 27 = .ok (.baload, 1) := by decide +kernel
theorem dX9_numberOf_28 : decode (z_c zX9_numberOf) 28 = .ok (.ifCond .eq 7, 3) := by decide +kernel
theorem dX9_numberOf_31 : decode (z_c zX9_numberOf) 31 = .ok (.iconst 1, 1) := by decide +kernel
theorem dX9_numberOf_32 : decode (z_c zX9_numberOf) 32 = .ok (.goto 4, 3) := by decide +kernel
theorem dX9_numberOf_35 : decode (z_c zX9_numberOf) 35 = .ok (.iconst 0, 1) := by decide +kernel
theorem dX9_numberOf_36 : decode (z_c zX9_numberOf) 36 = .ok (.iadd, 1) := by decide +kernel
theorem dX9_numberOf_37 : decode (z_c zX9_numberOf) 37 = .ok (.istore_n 2, 1) := by decide +kernel
theorem dX9_numberOf_38 : decode (z_c zX9_numberOf) 38 = .ok (.iinc 3 1, 3) := by decide +kernel
theorem dX9_numberOf_41 : decode (z_c zX9_numberOf) 41 = .ok (.goto (-37), 3) := by decide +kernel
theorem dX9_numberOf_44 : decode (z_c zX9_numberOf) 44 = .ok (.iload_n 2, 1) := by decide +kernel
theorem dX9_numberOf_45 : decode (z_c zX9_numberOf) 45 = .ok (.ireturn, 1) := by decide +kernel
theorem dX9_nearState_0 : decode (z_c zX9_nearState) 0 = .ok (.iconst 0, 1) := by decide +kernel
theorem dX9_nearState_1 : decode (z_c zX9_nearState) 1 = .ok (.istore_n 3, 1) := by decide +kernel
theorem dX9_nearState_2 : decode (z_c zX9_nearState) 2 = .ok (.iconst 0, 1) := by decide +kernel
theorem dX9_nearState_3 : decode (z_c zX9_nearState) 3 = .ok (.istore 4, 2) := by decide +kernel
theorem dX9_nearState_5 : decode (z_c zX9_nearState) 5 = .ok (.iload 4, 2) := by decide +kernel
theorem dX9_nearState_7 : decode (z_c zX9_nearState) 7 = .ok (.aload_n 0, 1) := by decide +kernel
theorem dX9_nearState_8 : decode (z_c zX9_nearState) 8 = .ok (.getfield 16, 3) := by decide +kernel
theorem dX9_nearState_11 : decode (z_c zX9_nearState) 11 = .ok (.if_icmp .ge 38, 3) := by decide +kernel
theorem dX9_nearState_14 : decode (z_c zX9_nearState) 14 = .ok (.iload_n 3, 1) := by decide +kernel
theorem dX9_nearState_15 : decode (z_c zX9_nearState) 15 = .ok (.aload_n 0, 1) := by decide +kernel
theorem dX9_nearState_16 : decode (z_c zX9_nearState) 16 = .ok (.iload_n 1, 1) := by decide +kernel
theorem dX9_nearState_17 : decode (z_c zX9_nearState) 17 = .ok (.iload 4, 2) := by decide +kernel
theorem dX9_nearState_19 : decode (z_c zX9_nearState) 19 = .ok (.invokevirtual 138, 3) := by decide +kernel
theorem dX9_nearState_22 : decode (z_c zX9_nearState) 22 = .ok (.ifCond .eq 18, 3) := by decide +kernel
theorem dX9_nearState_25 : decode (z_c zX9_nearState) 25 = .ok (.aload_n 0, 1) := by decide +kernel
theorem dX9_nearState_26 : decode (z_c zX9_nearState) 26 = .ok (.getfield 26, 3) := by decide +kernel
theorem dX9_nearState_29 : decode (z_c zX9_nearState) 29 = .ok (.iload 4, 2) := by decide +kernel
theorem dX9_nearState_31 : decode (z_c zX9_nearState) 31 = .ok (.iaload, 1) := by decide +kernel
theorem dX9_nearState_32 : decode (z_c zX9_nearState) 32 = .ok (.iload_n 2, 1) := by decide +kernel
theorem dX9_nearState_33 : decode (z_c zX9_nearState) 33 = .ok (.if_icmp .ne 7, 3) := by decide +kernel
theorem dX9_nearState_36 : decode (z_c zX9_nearState) 36 = .ok (.iconst 1, 1) := by decide +kernel
theorem dX9_nearState_37 : decode (z_c zX9_nearState) 37 = .ok (.goto 4, 3) := by decide +kernel
theorem dX9_nearState_40 : decode (z_c zX9_nearState) 40 = .ok (.iconst 0, 1) := by decide +kernel
theorem dX9_nearState_41 : decode (z_c zX9_nearState) 41 = .ok (.iadd, 1) := by decide +kernel
theorem dX9_nearState_42 : decode (z_c zX9_nearState) 42 = .ok (.istore_n 3, 1) := by decide +kernel
theorem dX9_nearState_43 : decode (z_c zX9_nearState) 43 = .ok (.iinc 4 1, 3) := by decide +kernel
theorem dX9_nearState_46 : decode (z_c zX9_nearState) 46 = .ok (.goto (-41), 3) := by decide +kernel
theorem dX9_nearState_49 : decode (z_c zX9_nearState) 49 = .ok (.iload_n 3, 1) := by decide +kernel
theorem dX9_nearState_50 : decode (z_c zX9_nearState) 50 = .ok (.ireturn, 1) := by decide +kernel
theorem dX9_isSolved_0 : decode (z_c zX9_isSolved) 0 = .ok (.iconst 1, 1) := by decide +kernel
theorem dX9_isSolved_1 : decode (z_c zX9_isSolved) 1 = .ok (.istore_n 1, 1) := by decide +kernel
theorem dX9_isSolved_2 : decode (z_c zX9_isSolved) 2 = .ok (.iconst 0, 1) := by decide +kernel
theorem dX9_isSolved_3 : decode (z_c zX9_isSolved) 3 = .ok (.istore_n 2, 1) := by decide +kernel
theorem dX9_isSolved_4 : decode (z_c zX9_isSolved) 4 = .ok (.iload_n 2, 1) := by decide +kernel
theorem dX9_isSolved_5 : decode (z_c zX9_isSolved) 5 = .ok (.aload_n 0, 1) := by decide +kernel
theorem dX9_isSolved_6 : decode (z_c zX9_isSolved) 6 = .ok (.getfield 16, 3) := by decide +kernel
theorem dX9_isSolved_9 : decode (z_c zX9_isSolved) 9 = .ok (.if_icmp .ge 37, 3) := by decide +kernel
theorem dX9_isSolved_12 : decode (z_c zX9_isSolved) 12 = .ok (.iload_n 1, 1) := by decide +kernel
theorem dX9_isSolved_13 : decode (z_c zX9_isSolved) 13 = .ok (.ifCond .eq 25, 3) := by decide +kernel
theorem dX9_isSolved_16 : decode (z_c zX9_isSolved) 16 = .ok (.aload_n 0, 1) := by decide +kernel
theorem dX9_isSolved_17 : decode (z_c zX9_isSolved) 17 = .ok (.getfield 23, 3) := by decide +kernel
theorem dX9_isSolved_20 : decode (z_c zX9_isSolved) 20 = .ok (.iload_n 2, 1) := by decide +kernel
theorem dX9_isSolved_21 : decode (z_c zX9_isSolved) 21 = .ok (.baload, 1) := by decide +kernel
theorem dX9_isSolved_22 : decode (z_c zX9_isSolved) 22 = .ok (.ifCond .ne 12, 3) := by decide +kernel
theorem dX9_isSolved_25 : decode (z_c zX9_isSolved) 25 = .ok (.aload_n 0, 1) := by decide +kernel
theorem dX9_isSolved_26 : decode (z_c zX9_isSolved) 26 = .ok (.getfield 26, 3) := by decide +kernel
theorem dX9_isSolved_29 : decode (z_c zX9_isSolved) 29 = .ok (.iload_n 2, 1) := by decide +kernel
theorem dX9_isSolved_30 : decode (z_c zX9_isSolved) 30 = .ok (.iaload, 1) := by decide +kernel
theorem dX9_isSolved_31 : decode (z_c zX9_isSolved) 31 = .ok (.ifCond .eq 7, 3) := by decide +kernel
theorem dX9_isSolved_34 : decode (z_c zX9_isSolved) 34 = .ok (.iconst 1, 1) := by decide +kernel
theorem dX9_isSolved_35 : decode (z_c zX9_isSolved) 35 = .ok (.goto 4, 3) := by decide +kernel
theorem dX9_isSolved_38 : decode (z_c zX9_isSolved) 38 = .ok (.iconst 0, 1) := by decide +kernel
theorem dX9_isSolved_39 : decode (z_c zX9_isSolved) 39 = .ok (.istore_n 1, 1) := by decide +kernel
theorem dX9_isSolved_40 : decode (z_c zX9_isSolved) 40 = .ok (.iinc 2 1, 3) := by decide +kernel
theorem dX9_isSolved_43 : decode (z_c zX9_isSolved) 43 = .ok (.goto (-39), 3) := by decide +kernel
theorem dX9_isSolved_46 : decode (z_c zX9_isSolved) 46 = .ok (.iload_n 1, 1) := by decide +kernel
theorem dX9_isSolved_47 : decode (z_c zX9_isSolved) 47 = .ok (.ireturn, 1) := by decide +kernel
theorem dX9_uncover_0 : decode (z_c zX9_uncover) 0 = .ok (.aload_n 0, 1) := by decide +kernel
theorem dX9_uncover_1 : decode (z_c zX9_uncover) 1 = .ok (.getfield 23, 3) := by decide +kernel
theorem dX9_uncover_4 : decode (z_c zX9_uncover) 4 = .ok (.iload_n 1, 1) := by decide +kernel
theorem dX9_uncover_5 : decode (z_c zX9_uncover) 5 = .ok (.baload, 1) := by decide +kernel
theorem dX9_uncover_6 : decode (z_c zX9_uncover) 6 = .ok (.ifCond .eq 11, 3) := by decide +kernel
theorem dX9_uncover_9 : decode (z_c zX9_uncover) 9 = .ok (.aload_n 0, 1) := by decide +kernel
theorem dX9_uncover_10 : decode (z_c zX9_uncover) 10 = .ok (.getfield 26, 3) := by decide +kernel
theorem dX9_uncover_13 : decode (z_c zX9_uncover) 13 = .ok (.iload_n 1, 1) := by decide +kernel
theorem dX9_uncover_14 : decode (z_c zX9_uncover) 14 = .ok (.iconst 2, 1) := by decide +kernel
theorem dX9_uncover_15 : decode (z_c zX9_uncover) 15 = .ok (.iastore, 1) := by decide +kernel
theorem dX9_uncover_16 : decode (z_c zX9_uncover) 16 = .ok (.return_, 1) := by decide +kernel
theorem dX9_uncover_17 : decode (z_c zX9_uncover) 17 = .ok (.iconst 1, 1) := by decide +kernel
theorem dX9_uncover_18 : decode (z_c zX9_uncover) 18 = .ok (.istore_n 2, 1) := by decide +kernel
theorem dX9_uncover_19 : decode (z_c zX9_uncover) 19 = .ok (.aload_n 0, 1) := by decide +kernel
theorem dX9_uncover_20 : decode (z_c zX9_uncover) 20 = .ok (.getfield 91, 3) := by decide +kernel
theorem dX9_uncover_23 : decode (z_c zX9_uncover) 23 = .ok (.iconst 0, 1) := by decide +kernel
theorem dX9_uncover_24 : decode (z_c zX9_uncover) 24 = .ok (.iload_n 1, 1) := by decide +kernel
theorem dX9_uncover_25 : decode (z_c zX9_uncover) 25 = .ok (.iastore, 1) := by decide +kernel
theorem dX9_uncover_26 : decode (z_c zX9_uncover) 26 = .ok (.aload_n 0, 1) := by decide +kernel
theorem dX9_uncover_27 : decode (z_c zX9_uncover) 27 = .ok (.getfield 26, 3) := by decide +kernel
theorem dX9_uncover_30 : decode (z_c zX9_uncover) 30 = .ok (.iload_n 1, 1) := by decide +kernel
theorem dX9_uncover_31 : decode (z_c zX9_uncover) 31 = .ok (.iconst 1, 1) := by decide +kernel
theorem dX9_uncover_32 : decode (z_c zX9_uncover) 32 = .ok (.iastore, 1) := by decide +kernel
theorem dX9_uncover_33 : decode (z_c zX9_uncover) 33 = .ok (.aload_n 0, 1) := by decide +kernel
theorem dX9_uncover_34 : decode (z_c zX9_uncover) 34 = .ok (.getfield 30, 3) := by decide +kernel
theorem dX9_uncover_37 : decode (z_c zX9_uncover) 37 = .ok (.iload_n 1, 1) := by decide +kernel
theorem dX9_uncover_38 : decode (z_c zX9_uncover) 38 = .ok (.iconst 0, 1) := by decide +kernel
theorem dX9_uncover_39 : decode (z_c zX9_uncover) 39 = .ok (.bastore, 1) := by decide +kernel
theorem dX9_uncover_40 : decode (z_c zX9_uncover) 40 = .ok (.iconst 0, 1) := by decide +kernel
theorem dX9_uncover_41 : decode (z_c zX9_uncover) 41 = .ok (.istore_n 3, 1) := by decide +kernel
theorem dX9_uncover_42 : decode (z_c zX9_uncover) 42 = .ok (.iload_n 3, 1) := by decide +kernel
theorem dX9_uncover_43 : decode (z_c zX9_uncover) 43 = .ok (.iload_n 2, 1) := by decide +kernel
theorem dX9_uncover_44 : decode (z_c zX9_uncover) 44 = .ok (.if_icmp .ge 92, 3) := by decide +kernel
theorem dX9_uncover_47 : decode (z_c zX9_uncover) 47 = .ok (.aload_n 0, 1) := by decide +kernel
theorem dX9_uncover_48 : decode (z_c zX9_uncover) 48 = .ok (.aload_n 0, 1) := by decide +kernel
theorem dX9_uncover_49 : decode (z_c zX9_uncover) 49 = .ok (.getfield 91, 3) := by decide +kernel
theorem dX9_uncover_52 : decode (z_c zX9_uncover) 52 = .ok (.iload_n 3, 1) := by decide +kernel
theorem dX9_uncover_53 : decode (z_c zX9_uncover) 53 = .ok (.iaload, 1) := by decide +kernel
theorem dX9_uncover_54 : decode (z_c zX9_uncover) 54 = .ok (.invokevirtual 142, 3) := by decide +kernel
theorem dX9_uncover_57 : decode (z_c zX9_uncover) 57 = .ok (.ifCond .ne 73, 3) := by decide +kernel
theorem dX9_uncover_60 : decode (z_c zX9_uncover) 60 = .ok (.iconst 0, 1) := by decide +kernel
theorem dX9_uncover_61 : decode (z_c zX9_uncover) 61 = .ok (.istore 4, 2) := by decide +kernel
theorem dX9_uncover_63 : decode (z_c zX9_uncover) 63 = .ok (.iload 4, 2) := by decide +kernel
theorem dX9_uncover_65 : decode (z_c zX9_uncover) 65 = .ok (.aload_n 0, 1) := by decide +kernel
theorem dX9_uncover_66 : decode (z_c zX9_uncover) 66 = .ok (.getfield 16, 3) := by decide +kernel
theorem dX9_uncover_69 : decode (z_c zX9_uncover) 69 = .ok (.if_icmp .ge 61, 3) := by decide +kernel
theorem dX9_uncover_72 : decode (z_c zX9_uncover) 72 = .ok (.aload_n 0, 1) := by decide +kernel
theorem dX9_uncover_73 : decode (z_c zX9_uncover) 73 = .ok (.aload_n 0, 1) := by decide +kernel
theorem dX9_uncover_74 : decode (z_c zX9_uncover) 74 = .ok (.getfield 91, 3) := by decide +kernel
theorem dX9_uncover_77 : decode (z_c zX9_uncover) 77 = .ok (.iload_n 3, 1) := by decide +kernel
theorem dX9_uncover_78 : decode (z_c zX9_uncover) 78 = .ok (.iaload, 1) := by decide +kernel
theorem dX9_uncover_79 : decode (z_c zX9_uncover) 79 = .ok (.iload 4, 2) := by decide +kernel
theorem dX9_uncover_81 : decode (z_c zX9_uncover) 81 = .ok (.invokevirtual 138, 3) := by decide +kernel
theorem dX9_uncover_84 : decode (z_c zX9_uncover) 84 = .ok (.ifCond .eq 40, 3) := by decide +kernel
theorem dX9_uncover_87 : decode (z_c zX9_uncover) 87 = .ok (.aload_n 0, 1) := by decide +kernel
theorem dX9_uncover_88 : decode (z_c zX9_uncover) 88 = .ok (.getfield 26, 3) := by decide +kernel
theorem dX9_uncover_91 : decode (z_c zX9_uncover) 91 = .ok (.iload 4, 2) := by decide +kernel
theorem dX9_uncover_93 : decode (z_c zX9_uncover) 93 = .ok (.iaload, 1) := by decide +kernel
theorem dX9_uncover_94 : decode (z_c zX9_uncover) 94 = .ok (.ifCond .ne 30, 3) := by decide +kernel
theorem dX9_uncover_97 : decode (z_c zX9_uncover) 97 = .ok (.aload_n 0, 1) := by decide +kernel
theorem dX9_uncover_98 : decode (z_c zX9_uncover) 98 = .ok (.getfield 26, 3) := by decide +kernel
theorem dX9_uncover_101 : decode (z_c zX9_uncover) 101 = .ok (.iload 4, 2) := by decide +kernel
theorem dX9_uncover_103 : decode (z_c zX9_uncover) 103 = .ok (.iconst 1, 1) := by decide +kernel
theorem dX9_uncover_104 : decode (z_c zX9_uncover) 104 = .ok (.iastore, 1) := by decide +kernel
theorem dX9_uncover_105 : decode (z_c zX9_uncover) 105 = .ok (.aload_n 0, 1) := by decide +kernel
theorem dX9_uncover_106 : decode (z_c zX9_uncover) 106 = .ok (.getfield 30, 3) := by decide +kernel
theorem dX9_uncover_109 : decode (z_c zX9_uncover) 109 = .ok (.iload 4, 2) := by decide +kernel
theorem dX9_uncover_111 : decode (z_c zX9_uncover) 111 = .ok (.iconst 0, 1) := by decide +kernel
theorem dX9_uncover_112 : decode (z_c zX9_uncover) 112 = .ok (.bastore, 1) := by decide +kernel
theorem dX9_uncover_113 : decode (z_c zX9_uncover) 113 = .ok (.aload_n 0, 1) := by decide +kernel
theorem dX9_uncover_114 : decode (z_c zX9_uncover) 114 = .ok (.getfield 91, 3) := by decide +kernel
theorem dX9_uncover_117 : decode (z_c zX9_uncover) 117 = .ok (.iload_n 2, 1) := by decide +kernel
theorem dX9_uncover_118 : decode (z_c zX9_uncover) 118 = .ok (.iload 4, 2) := by decide +kernel
theorem dX9_uncover_120 : decode (z_c zX9_uncover) 120 = .ok (.iastore, 1) := by decide +kernel
theorem dX9_uncover_121 : decode (z_c zX9_uncover) 121 = .ok (.iinc 2 1, 3) := by decide +kernel
theorem dX9_uncover_124 : decode (z_c zX9_uncover) 124 = .ok (.iinc 4 1, 3) := by decide +kernel
theorem dX9_uncover_127 : decode (z_c zX9_uncover) 127 = .ok (.goto (-64), 3) := by decide +kernel
theorem dX9_uncover_130 : decode (z_c zX9_uncover) 130 = .ok (.iinc 3 1, 3) := by decide +kernel
theorem dX9_uncover_133 : decode (z_c zX9_uncover) 133 = .ok (.goto (-91), 3) := by decide +kernel
theorem dX9_uncover_136 : decode (z_c zX9_uncover) 136 = .ok (.return_, 1) := by decide +kernel
theorem dX9_keepBoard_0 : decode (z_c zX9_keepBoard) 0 = .ok (.iconst 0, 1) := by decide +kernel
theorem dX9_keepBoard_1 : decode (z_c zX9_keepBoard) 1 = .ok (.istore_n 1, 1) := by decide +kernel
theorem dX9_keepBoard_2 : decode (z_c zX9_keepBoard) 2 = .ok (.iload_n 1, 1) := by decide +kernel
theorem dX9_keepBoard_3 : decode (z_c zX9_keepBoard) 3 = .ok (.bipush 100, 2) := by decide +kernel
theorem dX9_keepBoard_5 : decode (z_c zX9_keepBoard) 5 = .ok (.if_icmp .ge 45, 3) := by decide +kernel
theorem dX9_keepBoard_8 : decode (z_c zX9_keepBoard) 8 = .ok (.aload_n 0, 1) := by decide +kernel
theorem dX9_keepBoard_9 : decode (z_c zX9_keepBoard) 9 = .ok (.getfield 36, 3) := by decide +kernel
theorem dX9_keepBoard_12 : decode (z_c zX9_keepBoard) 12 = .ok (.iload_n 1, 1) := by decide +kernel
theorem dX9_keepBoard_13 : decode (z_c zX9_keepBoard) 13 = .ok (.aload_n 0, 1) := by decide +kernel
theorem dX9_keepBoard_14 : decode (z_c zX9_keepBoard) 14 = .ok (.getfield 23, 3) := by decide +kernel
theorem dX9_keepBoard_17 : decode (z_c zX9_keepBoard) 17 = .ok (.iload_n 1, 1) := by decide +kernel
theorem dX9_keepBoard_18 : decode (z_c zX9_keepBoard) 18 = .ok (.baload, 1) := by decide +kernel
theorem dX9_keepBoard_19 : decode (z_c zX9_keepBoard) 19 = .ok (.bastore, 1) := by decide +kernel
theorem dX9_keepBoard_20 : decode (z_c zX9_keepBoard) 20 = .ok (.aload_n 0, 1) := by decide +kernel
theorem dX9_keepBoard_21 : decode (z_c zX9_keepBoard) 21 = .ok (.getfield 39, 3) := by decide +kernel
theorem dX9_keepBoard_24 : decode (z_c zX9_keepBoard) 24 = .ok (.iload_n 1, 1) := by decide +kernel
theorem dX9_keepBoard_25 : decode (z_c zX9_keepBoard) 25 = .ok (.aload_n 0, 1) := by decide +kernel
theorem dX9_keepBoard_26 : decode (z_c zX9_keepBoard) 26 = .ok (.getfield 26, 3) := by decide +kernel
theorem dX9_keepBoard_29 : decode (z_c zX9_keepBoard) 29 = .ok (.iload_n 1, 1) := by decide +kernel
theorem dX9_keepBoard_30 : decode (z_c zX9_keepBoard) 30 = .ok (.iaload, 1) := by decide +kernel
theorem dX9_keepBoard_31 : decode (z_c zX9_keepBoard) 31 = .ok (.iastore, 1) := by decide +kernel
theorem dX9_keepBoard_32 : decode (z_c zX9_keepBoard) 32 = .ok (.aload_n 0, 1) := by decide +kernel
theorem dX9_keepBoard_33 : decode (z_c zX9_keepBoard) 33 = .ok (.getfield 42, 3) := by decide +kernel
theorem dX9_keepBoard_36 : decode (z_c zX9_keepBoard) 36 = .ok (.iload_n 1, 1) := by decide +kernel
theorem dX9_keepBoard_37 : decode (z_c zX9_keepBoard) 37 = .ok (.aload_n 0, 1) := by decide +kernel
theorem dX9_keepBoard_38 : decode (z_c zX9_keepBoard) 38 = .ok (.getfield 30, 3) := by decide +kernel
theorem dX9_keepBoard_41 : decode (z_c zX9_keepBoard) 41 = .ok (.iload_n 1, 1) := by decide +kernel
theorem dX9_keepBoard_42 : decode (z_c zX9_keepBoard) 42 = .ok (.baload, 1) := by decide +kernel
theorem dX9_keepBoard_43 : decode (z_c zX9_keepBoard) 43 = .ok (.bastore, 1) := by decide +kernel
theorem dX9_keepBoard_44 : decode (z_c zX9_keepBoard) 44 = .ok (.iinc 1 1, 3) := by decide +kernel
theorem dX9_keepBoard_47 : decode (z_c zX9_keepBoard) 47 = .ok (.goto (-45), 3) := by decide +kernel
theorem dX9_keepBoard_50 : decode (z_c zX9_keepBoard) 50 = .ok (.return_, 1) := by decide +kernel
theorem dX9_bringBack_0 : decode (z_c zX9_bringBack) 0 = .ok (.iconst 0, 1) := by decide +kernel
theorem dX9_bringBack_1 : decode (z_c zX9_bringBack) 1 = .ok (.istore_n 1, 1) := by decide +kernel
theorem dX9_bringBack_2 : decode (z_c zX9_bringBack) 2 = .ok (.iload_n 1, 1) := by decide +kernel
theorem dX9_bringBack_3 : decode (z_c zX9_bringBack) 3 = .ok (.bipush 100, 2) := by decide +kernel
theorem dX9_bringBack_5 : decode (z_c zX9_bringBack) 5 = .ok (.if_icmp .ge 45, 3) := by decide +kernel
theorem dX9_bringBack_8 : decode (z_c zX9_bringBack) 8 = .ok (.aload_n 0, 1) := by decide +kernel
theorem dX9_bringBack_9 : decode (z_c zX9_bringBack) 9 = .ok (.getfield 23, 3) := by decide +kernel
theorem dX9_bringBack_12 : decode (z_c zX9_bringBack) 12 = .ok (.iload_n 1, 1) := by decide +kernel
theorem dX9_bringBack_13 : decode (z_c zX9_bringBack) 13 = .ok (.aload_n 0, 1) := by decide +kernel
theorem dX9_bringBack_14 : decode (z_c zX9_bringBack) 14 = .ok (.getfield 36, 3) := by decide +kernel
theorem dX9_bringBack_17 : decode (z_c zX9_bringBack) 17 = .ok (.iload_n 1, 1) := by decide +kernel
theorem dX9_bringBack_18 : decode (z_c zX9_bringBack) 18 = .ok (.baload, 1) := by decide +kernel
theorem dX9_bringBack_19 : decode (z_c zX9_bringBack) 19 = .ok (.bastore, 1) := by decide +kernel
theorem dX9_bringBack_20 : decode (z_c zX9_bringBack) 20 = .ok (.aload_n 0, 1) := by decide +kernel
theorem dX9_bringBack_21 : decode (z_c zX9_bringBack) 21 = .ok (.getfield 26, 3) := by decide +kernel
theorem dX9_bringBack_24 : decode (z_c zX9_bringBack) 24 = .ok (.iload_n 1, 1) := by decide +kernel
theorem dX9_bringBack_25 : decode (z_c zX9_bringBack) 25 = .ok (.aload_n 0, 1) := by decide +kernel
theorem dX9_bringBack_26 : decode (z_c zX9_bringBack) 26 = .ok (.getfield 39, 3) := by decide +kernel
theorem dX9_bringBack_29 : decode (z_c zX9_bringBack) 29 = .ok (.iload_n 1, 1) := by decide +kernel
theorem dX9_bringBack_30 : decode (z_c zX9_bringBack) 30 = .ok (.iaload, 1) := by decide +kernel
theorem dX9_bringBack_31 : decode (z_c zX9_bringBack) 31 = .ok (.iastore, 1) := by decide +kernel
theorem dX9_bringBack_32 : decode (z_c zX9_bringBack) 32 = .ok (.aload_n 0, 1) := by decide +kernel
theorem dX9_bringBack_33 : decode (z_c zX9_bringBack) 33 = .ok (.getfield 30, 3) := by decide +kernel
theorem dX9_bringBack_36 : decode (z_c zX9_bringBack) 36 = .ok (.iload_n 1, 1) := by decide +kernel
theorem dX9_bringBack_37 : decode (z_c zX9_bringBack) 37 = .ok (.aload_n 0, 1) := by decide +kernel
theorem dX9_bringBack_38 : decode (z_c zX9_bringBack) 38 = .ok (.getfield 42, 3) := by decide +kernel
theorem dX9_bringBack_41 : decode (z_c zX9_bringBack) 41 = .ok (.iload_n 1, 1) := by decide +kernel
theorem dX9_bringBack_42 : decode (z_c zX9_bringBack) 42 = .ok (.baload, 1) := by decide +kernel
theorem dX9_bringBack_43 : decode (z_c zX9_bringBack) 43 = .ok (.bastore, 1) := by decide +kernel
theorem dX9_bringBack_44 : decode (z_c zX9_bringBack) 44 = .ok (.iinc 1 1, 3) := by decide +kernel
theorem dX9_bringBack_47 : decode (z_c zX9_bringBack) 47 = .ok (.goto (-45), 3) := by decide +kernel
theorem dX9_bringBack_50 : decode (z_c zX9_bringBack) 50 = .ok (.return_, 1) := by decide +kernel
theorem dX9_canBeMined_0 : decode (z_c zX9_canBeMined) 0 = .ok (.iload_n 1, 1) := by decide +kernel
theorem dX9_canBeMined_1 : decode (z_c zX9_canBeMined) 1 = .ok (.iload_n 2, 1) := by decide +kernel
theorem dX9_canBeMined_2 : decode (z_c zX9_canBeMined) 2 = .ok (.if_icmp .eq 16, 3) := by decide +kernel
theorem dX9_canBeMined_5 : decode (z_c zX9_canBeMined) 5 = .ok (.aload_n 0, 1) := by decide +kernel
theorem dX9_canBeMined_6 : decode (z_c zX9_canBeMined) 6 = .ok (.iload_n 2, 1) := by decide +kernel
theorem dX9_canBeMined_7 : decode (z_c zX9_canBeMined) 7 = .ok (.iload_n 1, 1) := by decide +kernel
theorem dX9_canBeMined_8 : decode (z_c zX9_canBeMined) 8 = .ok (.invokevirtual 138, 3) := by decide +kernel
theorem dX9_canBeMined_11 : decode (z_c zX9_canBeMined) 11 = .ok (.ifCond .ne 7, 3) := by decide +kernel
theorem dX9_canBeMined_14 : decode (z_c zX9_canBeMined) 14 = .ok (.iconst 1, 1) := by decide +kernel
theorem dX9_canBeMined_15 : decode (z_c zX9_canBeMined) 15 = .ok (.goto 4, 3) := by decide +kernel
theorem dX9_canBeMined_18 : decode (z_c zX9_canBeMined) 18 = .ok (.iconst 0, 1) := by decide +kernel
theorem dX9_canBeMined_19 : decode (z_c zX9_canBeMined) 19 = .ok (.ireturn, 1) := by decide +kernel
theorem dX9_drawMines_0 : decode (z_c zX9_drawMines) 0 = .ok (.iload_n 3, 1) := by decide +kernel
theorem dX9_drawMines_1 : decode (z_c zX9_drawMines) 1 = .ok (.ldc 145, 2) := by decide +kernel
theorem dX9_drawMines_3 : decode (z_c zX9_drawMines) 3 = .ok (.iand, 1) := by decide +kernel
theorem dX9_drawMines_4 : decode (z_c zX9_drawMines) 4 = .ok (.istore 4, 2) := by decide +kernel
theorem dX9_drawMines_6 : decode (z_c zX9_drawMines) 6 = .ok (.iconst 0, 1) := by decide +kernel
theorem dX9_drawMines_7 : decode (z_c zX9_drawMines) 7 = .ok (.istore 5, 2) := by decide +kernel
theorem dX9_drawMines_9 : decode (z_c zX9_drawMines) 9 = .ok (.iload 5, 2) := by decide +kernel
theorem dX9_drawMines_11 : decode (z_c zX9_drawMines) 11 = .ok (.iload_n 1, 1) := by decide +kernel
theorem dX9_drawMines_12 : decode (z_c zX9_drawMines) 12 = .ok (.if_icmp .ge 150, 3) := by decide +kernel
theorem dX9_drawMines_15 : decode (z_c zX9_drawMines) 15 = .ok (.ldc 146, 2) := by decide +kernel
theorem dX9_drawMines_17 : decode (z_c zX9_drawMines) 17 = .ok (.iload 4, 2) := by decide +kernel
theorem dX9_drawMines_19 : decode (z_c zX9_drawMines) 19 = .ok (.imul, 1) := by decide +kernel
theorem dX9_drawMines_20 : decode (z_c zX9_drawMines) 20 = .ok (.sipush 12345, 3) := by decide +kernel
theorem dX9_drawMines_23 : decode (z_c zX9_drawMines) 23 = .ok (.iadd, 1) := by decide +kernel
theorem dX9_drawMines_24 : decode (z_c zX9_drawMines) 24 = .ok (.ldc 145, 2) := by decide +kernel
theorem dX9_drawMines_26 : decode (z_c zX9_drawMines) 26 = .ok (.iand, 1) := by decide +kernel
theorem dX9_drawMines_27 : decode (z_c zX9_drawMines) 27 = .ok (.istore 4, 2) := by decide +kernel
theorem dX9_drawMines_29 : decode (z_c zX9_drawMines) 29 = .ok (.iconst 0, 1) := by decide +kernel
theorem dX9_drawMines_30 : decode (z_c zX9_drawMines) 30 = .ok (.istore 6, 2) := by decide +kernel
theorem dX9_drawMines_32 : decode (z_c zX9_drawMines) 32 = .ok (.iconst 0, 1) := by decide +kernel
theorem dX9_drawMines_33 : decode (z_c zX9_drawMines) 33 = .ok (.istore 7, 2) := by decide +kernel
theorem dX9_drawMines_35 : decode (z_c zX9_drawMines) 35 = .ok (.iload 7, 2) := by decide +kernel
theorem dX9_drawMines_37 : decode (z_c zX9_drawMines) 37 = .ok (.aload_n 0, 1) := by decide +kernel
theorem dX9_drawMines_38 : decode (z_c zX9_drawMines) 38 = .ok (.getfield 16, 3) := by decide +kernel
theorem dX9_drawMines_41 : decode (z_c zX9_drawMines) 41 = .ok (.if_icmp .ge 39, 3) := by decide +kernel
theorem dX9_drawMines_44 : decode (z_c zX9_drawMines) 44 = .ok (.iload 6, 2) := by decide +kernel
theorem dX9_drawMines_46 : decode (z_c zX9_drawMines) 46 = .ok (.aload_n 0, 1) := by decide +kernel
theorem dX9_drawMines_47 : decode (z_c zX9_drawMines) 47 = .ok (.iload 7, 2) := by decide +kernel
theorem dX9_drawMines_49 : decode (z_c zX9_drawMines) 49 = .ok (.iload_n 2, 1) := by decide +kernel
theorem dX9_drawMines_50 : decode (z_c zX9_drawMines) 50 = .ok (.invokevirtual 147, 3) := by decide +kernel
theorem dX9_drawMines_53 : decode (z_c zX9_drawMines) 53 = .ok (.ifCond .eq 17, 3) := by decide +kernel
theorem dX9_drawMines_56 : decode (z_c zX9_drawMines) 56 = .ok (.aload_n 0, 1) := by decide +kernel
theorem dX9_drawMines_57 : decode (z_c zX9_drawMines) 57 = .ok (.getfield 23, 3) := by decide +kernel
theorem dX9_drawMines_60 : decode (z_c zX9_drawMines) 60 = .ok (.iload 7, 2) := by decide +kernel
theorem dX9_drawMines_62 : decode (z_c zX9_drawMines) 62 = .ok (.baload, 1) := by decide +kernel
theorem dX9_drawMines_63 : decode (z_c zX9_drawMines) 63 = .ok (.ifCond .ne 7, 3) := by decide +kernel
theorem dX9_drawMines_66 : decode (z_c zX9_drawMines) 66 = .ok (.iconst 1, 1) := by decide +kernel
theorem dX9_drawMines_67 : decode (z_c zX9_drawMines) 67 = .ok (.goto 4, 3) := by decide +kernel
theorem dX9_drawMines_70 : decode (z_c zX9_drawMines) 70 = .ok (.iconst 0, 1) := by decide +kernel
theorem dX9_drawMines_71 : decode (z_c zX9_drawMines) 71 = .ok (.iadd, 1) := by decide +kernel
theorem dX9_drawMines_72 : decode (z_c zX9_drawMines) 72 = .ok (.istore 6, 2) := by decide +kernel
theorem dX9_drawMines_74 : decode (z_c zX9_drawMines) 74 = .ok (.iinc 7 1, 3) := by decide +kernel
theorem dX9_drawMines_77 : decode (z_c zX9_drawMines) 77 = .ok (.goto (-42), 3) := by decide +kernel
theorem dX9_drawMines_80 : decode (z_c zX9_drawMines) 80 = .ok (.iload 4, 2) := by decide +kernel
theorem dX9_drawMines_82 : decode (z_c zX9_drawMines) 82 = .ok (.ldc 150, 2) := by decide +kernel
theorem dX9_drawMines_84 : decode (z_c zX9_drawMines) 84 = .ok (.idiv, 1) := by decide +kernel
theorem dX9_drawMines_85 : decode (z_c zX9_drawMines) 85 = .ok (.iload 6, 2) := by decide +kernel
theorem dX9_drawMines_87 : decode (z_c zX9_drawMines) 87 = .ok (.irem, 1) := by decide +kernel
theorem dX9_drawMines_88 : decode (z_c zX9_drawMines) 88 = .ok (.istore 7, 2) := by decide +kernel
theorem dX9_drawMines_90 : decode (z_c zX9_drawMines) 90 = .ok (.iconst (-1), 1) := by decide +kernel
theorem dX9_drawMines_91 : decode (z_c zX9_drawMines) 91 = .ok (.istore 8, 2) := by decide +kernel
theorem dX9_drawMines_93 : decode (z_c zX9_drawMines) 93 = .ok (.iconst 0, 1) := by decide +kernel
theorem dX9_drawMines_94 : decode (z_c zX9_drawMines) 94 = .ok (.istore 9, 2) := by decide +kernel
theorem dX9_drawMines_96 : decode (z_c zX9_drawMines) 96 = .ok (.iload 9, 2) := by decide +kernel
theorem dX9_drawMines_98 : decode (z_c zX9_drawMines) 98 = .ok (.aload_n 0, 1) := by decide +kernel
theorem dX9_drawMines_99 : decode (z_c zX9_drawMines) 99 = .ok (.getfield 16, 3) := by decide +kernel
theorem dX9_drawMines_102 : decode (z_c zX9_drawMines) 102 = .ok (.if_icmp .ge 46, 3) := by decide +kernel
theorem dX9_drawMines_105 : decode (z_c zX9_drawMines) 105 = .ok (.aload_n 0, 1) := by decide +kernel
theorem dX9_drawMines_106 : decode (z_c zX9_drawMines) 106 = .ok (.iload 9, 2) := by decide +kernel
theorem dX9_drawMines_108 : decode (z_c zX9_drawMines) 108 = .ok (.iload_n 2, 1) := by decide +kernel
theorem dX9_drawMines_109 : decode (z_c zX9_drawMines) 109 = .ok (.invokevirtual 147, 3) := by decide +kernel
theorem dX9_drawMines_112 : decode (z_c zX9_drawMines) 112 = .ok (.ifCond .eq 30, 3) := by decide +kernel
theorem dX9_drawMines_115 : decode (z_c zX9_drawMines) 115 = .ok (.aload_n 0, 1) := by decide +kernel
theorem dX9_drawMines_116 : decode (z_c zX9_drawMines) 116 = .ok (.getfield 23, 3) := by decide +kernel
theorem dX9_drawMines_119 : decode (z_c zX9_drawMines) 119 = .ok (.iload 9, 2) := by decide +kernel
theorem dX9_drawMines_121 : decode (z_c zX9_drawMines) 121 = .ok (.baload, 1) := by decide +kernel
theorem dX9_drawMines_122 : decode (z_c zX9_drawMines) 122 = .ok (.ifCond .ne 20, 3) := by decide +kernel
theorem dX9_drawMines_125 : decode (z_c zX9_drawMines) 125 = .ok (.iload 7, 2) := by decide +kernel
theorem dX9_drawMines_127 : decode (z_c zX9_drawMines) 127 = .ok (.ifCond .ne 8, 3) := by decide +kernel
theorem dX9_drawMines_130 : decode (z_c zX9_drawMines) 130 = .ok (.iload 9, 2) := by decide +kernel
theorem dX9_drawMines_132 : decode (z_c zX9_drawMines) 132 = .ok (.goto 5, 3) := by decide +kernel
theorem dX9_drawMines_135 : decode (z_c zX9_drawMines) 135 = .ok (.iload 8, 2) := by decide +kernel
theorem dX9_drawMines_137 : decode (z_c zX9_drawMines) 137 = .ok (.istore 8, 2) := by decide +kernel
theorem dX9_drawMines_139 : decode (z_c zX9_drawMines) 139 = .ok (.iinc 7 (-1), 3) := by decide +kernel
theorem dX9_drawMines_142 : decode (z_c zX9_drawMines) 142 = .ok (.iinc 9 1, 3) := by decide +kernel
theorem dX9_drawMines_145 : decode (z_c zX9_drawMines) 145 = .ok (.goto (-49), 3) := by decide +kernel
theorem dX9_drawMines_148 : decode (z_c zX9_drawMines) 148 = .ok (.aload_n 0, 1) := by decide +kernel
theorem dX9_drawMines_149 : decode (z_c zX9_drawMines) 149 = .ok (.getfield 23, 3) := by decide +kernel
theorem dX9_drawMines_152 : decode (z_c zX9_drawMines) 152 = .ok (.iload 8, 2) := by decide +kernel
theorem dX9_drawMines_154 : decode (z_c zX9_drawMines) 154 = .ok (.iconst 1, 1) := by decide +kernel
theorem dX9_drawMines_155 : decode (z_c zX9_drawMines) 155 = .ok (.bastore, 1) := by decide +kernel
theorem dX9_drawMines_156 : decode (z_c zX9_drawMines) 156 = .ok (.iinc 5 1, 3) := by decide +kernel
theorem dX9_drawMines_159 : decode (z_c zX9_drawMines) 159 = .ok (.goto (-150), 3) := by decide +kernel
theorem dX9_drawMines_162 : decode (z_c zX9_drawMines) 162 = .ok (.return_, 1) := by decide +kernel
theorem dX9_plays_0 : decode (z_c zX9_plays) 0 = .ok (.aload_n 0, 1) := by decide +kernel
theorem dX9_plays_1 : decode (z_c zX9_plays) 1 = .ok (.invokevirtual 120, 3) := by decide +kernel
theorem dX9_plays_4 : decode (z_c zX9_plays) 4 = .ok (.aload_n 0, 1) := by decide +kernel
theorem dX9_plays_5 : decode (z_c zX9_plays) 5 = .ok (.iload_n 1, 1) := by decide +kernel
theorem dX9_plays_6 : decode (z_c zX9_plays) 6 = .ok (.invokevirtual 151, 3) := by decide +kernel
theorem dX9_plays_9 : decode (z_c zX9_plays) 9 = .ok (.iconst 1, 1) := by decide +kernel
theorem dX9_plays_10 : decode (z_c zX9_plays) 10 = .ok (.istore_n 3, 1) := by decide +kernel
theorem dX9_plays_11 : decode (z_c zX9_plays) 11 = .ok (.iload_n 3, 1) := by decide +kernel
theorem dX9_plays_12 : decode (z_c zX9_plays) 12 = .ok (.ifCond .eq 72, 3) := by decide +kernel
theorem dX9_plays_15 : decode (z_c zX9_plays) 15 = .ok (.aload_n 0, 1) := by decide +kernel
theorem dX9_plays_16 : decode (z_c zX9_plays) 16 = .ok (.invokevirtual 155, 3) := by decide +kernel
theorem dX9_plays_19 : decode (z_c zX9_plays) 19 = .ok (.ifCond .ne 65, 3) := by decide +kernel
theorem dX9_plays_22 : decode (z_c zX9_plays) 22 = .ok (.aload_n 0, 1) := by decide +kernel
theorem dX9_plays_23 : decode (z_c zX9_plays) 23 = .ok (.iload_n 2, 1) := by decide +kernel
theorem dX9_plays_24 : decode (z_c zX9_plays) 24 = .ok (.invokevirtual 159, 3) := by decide +kernel
theorem dX9_plays_27 : decode (z_c zX9_plays) 27 = .ok (.aload_n 0, 1) := by decide +kernel
theorem dX9_plays_28 : decode (z_c zX9_plays) 28 = .ok (.getfield 162, 3) := by decide +kernel
theorem dX9_plays_31 : decode (z_c zX9_plays) 31 = .ok (.ifCond .lt 7, 3) := by decide +kernel
theorem dX9_plays_34 : decode (z_c zX9_plays) 34 = .ok (.iconst 1, 1) := by decide +kernel
theorem dX9_plays_35 : decode (z_c zX9_plays) 35 = .ok (.goto 4, 3) := by decide +kernel
theorem dX9_plays_38 : decode (z_c zX9_plays) 38 = .ok (.iconst 0, 1) := by decide +kernel
theorem dX9_plays_39 : decode (z_c zX9_plays) 39 = .ok (.istore_n 3, 1) := by decide +kernel
theorem dX9_plays_40 : decode (z_c zX9_plays) 40 = .ok (.iload_n 3, 1) := by decide +kernel
theorem dX9_plays_41 : decode (z_c zX9_plays) 41 = .ok (.ifCond .eq 26, 3) := by decide +kernel
theorem dX9_plays_44 : decode (z_c zX9_plays) 44 = .ok (.aload_n 0, 1) := by decide +kernel
theorem dX9_plays_45 : decode (z_c zX9_plays) 45 = .ok (.getfield 60, 3) := by decide +kernel
theorem dX9_plays_48 : decode (z_c zX9_plays) 48 = .ok (.aload_n 0, 1) := by decide +kernel
theorem dX9_plays_49 : decode (z_c zX9_plays) 49 = .ok (.getfield 162, 3) := by decide +kernel
theorem dX9_plays_52 : decode (z_c zX9_plays) 52 = .ok (.iaload, 1) := by decide +kernel
theorem dX9_plays_53 : decode (z_c zX9_plays) 53 = .ok (.ifCond .ne 14, 3) := by decide +kernel
theorem dX9_plays_56 : decode (z_c zX9_plays) 56 = .ok (.aload_n 0, 1) := by decide +kernel
theorem dX9_plays_57 : decode (z_c zX9_plays) 57 = .ok (.aload_n 0, 1) := by decide +kernel
theorem dX9_plays_58 : decode (z_c zX9_plays) 58 = .ok (.getfield 162, 3) := by decide +kernel
theorem dX9_plays_61 : decode (z_c zX9_plays) 61 = .ok (.invokevirtual 151, 3) := by decide +kernel
theorem dX9_plays_64 : decode (z_c zX9_plays) 64 = .ok (.goto (-53), 3) := by decide +kernel
theorem dX9_plays_67 : decode (z_c zX9_plays) 67 = .ok (.iload_n 3, 1) := by decide +kernel
theorem dX9_plays_68 : decode (z_c zX9_plays) 68 = .ok (.ifCond .eq (-57), 3) := by decide +kernel
theorem dX9_plays_71 : decode (z_c zX9_plays) 71 = .ok (.aload_n 0, 1) := by decide +kernel
theorem dX9_plays_72 : decode (z_c zX9_plays) 72 = .ok (.getfield 30, 3) := by decide +kernel
theorem dX9_plays_75 : decode (z_c zX9_plays) 75 = .ok (.aload_n 0, 1) := by decide +kernel
theorem dX9_plays_76 : decode (z_c zX9_plays) 76 = .ok (.getfield 162, 3) := by decide +kernel
theorem dX9_plays_79 : decode (z_c zX9_plays) 79 = .ok (.iconst 1, 1) := by decide +kernel
theorem dX9_plays_80 : decode (z_c zX9_plays) 80 = .ok (.bastore, 1) := by decide +kernel
theorem dX9_plays_81 : decode (z_c zX9_plays) 81 = .ok (.goto (-70), 3) := by decide +kernel
theorem dX9_plays_84 : decode (z_c zX9_plays) 84 = .ok (.aload_n 0, 1) := by decide +kernel
theorem dX9_plays_85 : decode (z_c zX9_plays) 85 = .ok (.invokevirtual 155, 3) := by decide +kernel
theorem dX9_plays_88 : decode (z_c zX9_plays) 88 = .ok (.ireturn, 1) := by decide +kernel
theorem dX9_mends_0 : decode (z_c zX9_mends) 0 = .ok (.iconst (-1), 1) := by decide +kernel
theorem dX9_mends_1 : decode (z_c zX9_mends) 1 = .ok (.istore_n 1, 1) := by decide +kernel
theorem dX9_mends_2 : decode (z_c zX9_mends) 2 = .ok (.iconst (-1), 1) := by decide +kernel
theorem dX9_mends_3 : decode (z_c zX9_mends) 3 = .ok (.istore_n 2, 1) := by decide +kernel
theorem dX9_mends_4 : decode (z_c zX9_mends) 4 = .ok (.aload_n 0, 1) := by decide +kernel
theorem dX9_mends_5 : decode (z_c zX9_mends) 5 = .ok (.getfield 16, 3) := by decide +kernel
theorem dX9_mends_8 : decode (z_c zX9_mends) 8 = .ok (.iconst 1, 1) := by decide +kernel
theorem dX9_mends_9 : decode (z_c zX9_mends) 9 = .ok (.isub, 1) := by decide +kernel
theorem dX9_mends_10 : decode (z_c zX9_mends) 10 = .ok (.istore_n 3, 1) := by decide +kernel
theorem dX9_mends_11 : decode (z_c zX9_mends) 11 = .ok (.iload_n 3, 1) := by decide +kernel
theorem dX9_mends_12 : decode (z_c zX9_mends) 12 = .ok (.ifCond .lt 83, 3) := by decide +kernel
theorem dX9_mends_15 : decode (z_c zX9_mends) 15 = .ok (.aload_n 0, 1) := by decide +kernel
theorem dX9_mends_16 : decode (z_c zX9_mends) 16 = .ok (.iload_n 3, 1) := by decide +kernel
theorem dX9_mends_17 : decode (z_c zX9_mends) 17 = .ok (.iconst 1, 1) := by decide +kernel
theorem dX9_mends_18 : decode (z_c zX9_mends) 18 = .ok (.invokevirtual 165, 3) := by decide +kernel
theorem dX9_mends_21 : decode (z_c zX9_mends) 21 = .ok (.ifCond .le 7, 3) := by decide +kernel
theorem dX9_mends_24 : decode (z_c zX9_mends) 24 = .ok (.iconst 1, 1) := by decide +kernel
theorem dX9_mends_25 : decode (z_c zX9_mends) 25 = .ok (.goto 4, 3) := by decide +kernel
theorem dX9_mends_28 : decode (z_c zX9_mends) 28 = .ok (.iconst 0, 1) := by decide +kernel
theorem dX9_mends_29 : decode (z_c zX9_mends) 29 = .ok (.istore 4, 2) := by decide +kernel
theorem dX9_mends_31 : decode (z_c zX9_mends) 31 = .ok (.aload_n 0, 1) := by decide +kernel
theorem dX9_mends_32 : decode (z_c zX9_mends) 32 = .ok (.getfield 26, 3) := by decide +kernel
theorem dX9_mends_35 : decode (z_c zX9_mends) 35 = .ok (.iload_n 3, 1) := by decide +kernel
theorem dX9_mends_36 : decode (z_c zX9_mends) 36 = .ok (.iaload, 1) := by decide +kernel
theorem dX9_mends_37 : decode (z_c zX9_mends) 37 = .ok (.ifCond .ne 21, 3) := by decide +kernel
theorem dX9_mends_40 : decode (z_c zX9_mends) 40 = .ok (.aload_n 0, 1) := by decide +kernel
theorem dX9_mends_41 : decode (z_c zX9_mends) 41 = .ok (.getfield 23, 3) := by decide +kernel
theorem dX9_mends_44 : decode (z_c zX9_mends) 44 = .ok (.iload_n 3, 1) := by decide +kernel
theorem dX9_mends_45 : decode (z_c zX9_mends) 45 = .ok (.baload, 1) := by decide +kernel
theorem dX9_mends_46 : decode (z_c zX9_mends) 46 = .ok (.ifCond .eq 12, 3) := by decide +kernel
theorem dX9_mends_49 : decode (z_c zX9_mends) 49 = .ok (.iload 4, 2) := by decide +kernel
theorem dX9_mends_51 : decode (z_c zX9_mends) 51 = .ok (.ifCond .eq 7, 3) := by decide +kernel
theorem dX9_mends_54 : decode (z_c zX9_mends) 54 = .ok (.iload_n 3, 1) := by decide +kernel
theorem dX9_mends_55 : decode (z_c zX9_mends) 55 = .ok (.goto 4, 3) := by decide +kernel
theorem dX9_mends_58 : decode (z_c zX9_mends) 58 = .ok (.iload_n 1, 1) := by decide +kernel
theorem dX9_mends_59 : decode (z_c zX9_mends) 59 = .ok (.istore_n 1, 1) := by decide +kernel
theorem dX9_mends_60 : decode (z_c zX9_mends) 60 = .ok (.aload_n 0, 1) := by decide +kernel
theorem dX9_mends_61 : decode (z_c zX9_mends) 61 = .ok (.getfield 26, 3) := by decide +kernel
theorem dX9_mends_64 : decode (z_c zX9_mends) 64 = .ok (.iload_n 3, 1) := by decide +kernel
theorem dX9_mends_65 : decode (z_c zX9_mends) 65 = .ok (.iaload, 1) := by decide +kernel
theorem dX9_mends_66 : decode (z_c zX9_mends) 66 = .ok (.ifCond .ne 21, 3) := by decide +kernel
theorem dX9_mends_69 : decode (z_c zX9_mends) 69 = .ok (.aload_n 0, 1) := by decide +kernel
theorem dX9_mends_70 : decode (z_c zX9_mends) 70 = .ok (.getfield 23, 3) := by decide +kernel
theorem dX9_mends_73 : decode (z_c zX9_mends) 73 = .ok (.iload_n 3, 1) := by decide +kernel
theorem dX9_mends_74 : decode (z_c zX9_mends) 74 = .ok (.baload, 1) := by decide +kernel
theorem dX9_mends_75 : decode (z_c zX9_mends) 75 = .ok (.ifCond .ne 12, 3) := by decide +kernel
theorem dX9_mends_78 : decode (z_c zX9_mends) 78 = .ok (.iload 4, 2) := by decide +kernel
theorem dX9_mends_80 : decode (z_c zX9_mends) 80 = .ok (.ifCond .ne 7, 3) := by decide +kernel
theorem dX9_mends_83 : decode (z_c zX9_mends) 83 = .ok (.iload_n 3, 1) := by decide +kernel
theorem dX9_mends_84 : decode (z_c zX9_mends) 84 = .ok (.goto 4, 3) := by decide +kernel
theorem dX9_mends_87 : decode (z_c zX9_mends) 87 = .ok (.iload_n 2, 1) := by decide +kernel
theorem dX9_mends_88 : decode (z_c zX9_mends) 88 = .ok (.istore_n 2, 1) := by decide +kernel
theorem dX9_mends_89 : decode (z_c zX9_mends) 89 = .ok (.iinc 3 (-1), 3) := by decide +kernel
theorem dX9_mends_92 : decode (z_c zX9_mends) 92 = .ok (.goto (-81), 3) := by decide +kernel
theorem dX9_mends_95 : decode (z_c zX9_mends) 95 = .ok (.iload_n 1, 1) := by decide +kernel
theorem dX9_mends_96 : decode (z_c zX9_mends) 96 = .ok (.ifCond .lt 7, 3) := by decide +kernel
theorem dX9_mends_99 : decode (z_c zX9_mends) 99 = .ok (.iload_n 2, 1) := by decide +kernel
theorem dX9_mends_100 : decode (z_c zX9_mends) 100 = .ok (.ifCond .ge 5, 3) := by decide +kernel
theorem dX9_mends_103 : decode (z_c zX9_mends) 103 = .ok (.iconst 0, 1) := by decide +kernel
theorem dX9_mends_104 : decode (z_c zX9_mends) 104 = .ok (.ireturn, 1) := by decide +kernel
theorem dX9_mends_105 : decode (z_c zX9_mends) 105 = .ok (.aload_n 0, 1) := by decide +kernel
theorem dX9_mends_106 : decode (z_c zX9_mends) 106 = .ok (.getfield 23, 3) := by decide +kernel
theorem dX9_mends_109 : decode (z_c zX9_mends) 109 = .ok (.iload_n 1, 1) := by decide +kernel
theorem dX9_mends_110 : decode (z_c zX9_mends) 110 = .ok (.iconst 0, 1) := by decide +kernel
theorem dX9_mends_111 : decode (z_c zX9_mends) 111 = .ok (.bastore, 1) := by decide +kernel
theorem dX9_mends_112 : decode (z_c zX9_mends) 112 = .ok (.aload_n 0, 1) := by decide +kernel
theorem dX9_mends_113 : decode (z_c zX9_mends) 113 = .ok (.getfield 23, 3) := by decide +kernel
theorem dX9_mends_116 : decode (z_c zX9_mends) 116 = .ok (.iload_n 2, 1) := by decide +kernel
theorem dX9_mends_117 : decode (z_c zX9_mends) 117 = .ok (.iconst 1, 1) := by decide +kernel
theorem dX9_mends_118 : decode (z_c zX9_mends) 118 = .ok (.bastore, 1) := by decide +kernel
theorem dX9_mends_119 : decode (z_c zX9_mends) 119 = .ok (.iconst 1, 1) := by decide +kernel
theorem dX9_mends_120 : decode (z_c zX9_mends) 120 = .ok (.ireturn, 1) := by decide +kernel
theorem dX9_make_0 : decode (z_c zX9_make) 0 = .ok (.iload_n 1, 1) := by decide +kernel
theorem dX9_make_1 : decode (z_c zX9_make) 1 = .ok (.iload_n 2, 1) := by decide +kernel
theorem dX9_make_2 : decode (z_c zX9_make) 2 = .ok (.iload 4, 2) := by decide +kernel
theorem dX9_make_4 : decode (z_c zX9_make) 4 = .ok (.invokestatic 116, 3) := by decide +kernel
theorem dX9_make_7 : decode (z_c zX9_make) 7 = .ok (.ifCond .ne 5, 3) := by decide +kernel
theorem dX9_make_10 : decode (z_c zX9_make) 10 = .ok (.iconst (-1), 1) := by decide +kernel
theorem dX9_make_11 : decode (z_c zX9_make) 11 = .ok (.ireturn, 1) := by decide +kernel
theorem dX9_make_12 : decode (z_c zX9_make) 12 = .ok (.aload_n 0, 1) := by decide +kernel
theorem dX9_make_13 : decode (z_c zX9_make) 13 = .ok (.getfield 7, 3) := by decide +kernel
theorem dX9_make_16 : decode (z_c zX9_make) 16 = .ok (.istore 7, 2) := by decide +kernel
theorem dX9_make_18 : decode (z_c zX9_make) 18 = .ok (.aload_n 0, 1) := by decide +kernel
theorem dX9_make_19 : decode (z_c zX9_make) 19 = .ok (.getfield 13, 3) := by decide +kernel
theorem dX9_make_22 : decode (z_c zX9_make) 22 = .ok (.istore 8, 2) := by decide +kernel
theorem dX9_make_24 : decode (z_c zX9_make) 24 = .ok (.aload_n 0, 1) := by decide +kernel
theorem dX9_make_25 : decode (z_c zX9_make) 25 = .ok (.getfield 104, 3) := by decide +kernel
theorem dX9_make_28 : decode (z_c zX9_make) 28 = .ok (.istore 9, 2) := by decide +kernel
theorem dX9_make_30 : decode (z_c zX9_make) 30 = .ok (.aload_n 0, 1) := by decide +kernel
theorem dX9_make_31 : decode (z_c zX9_make) 31 = .ok (.iload_n 1, 1) := by decide +kernel
theorem dX9_make_32 : decode (z_c zX9_make) 32 = .ok (.iload_n 2, 1) := by decide +kernel
theorem dX9_make_33 : decode (z_c zX9_make) 33 = .ok (.iload 4, 2) := by decide +kernel
theorem dX9_make_35 : decode (z_c zX9_make) 35 = .ok (.invokevirtual 100, 3) := by decide +kernel
theorem dX9_make_38 : decode (z_c zX9_make) 38 = .ok (.iload_n 2, 1) := by decide +kernel
theorem dX9_make_39 : decode (z_c zX9_make) 39 = .ok (.iconst 2, 1) := by decide +kernel
theorem dX9_make_40 : decode (z_c zX9_make) 40 = .ok (.idiv, 1) := by decide +kernel
theorem dX9_make_41 : decode (z_c zX9_make) 41 = .ok (.iload_n 1, 1) := by decide +kernel
theorem dX9_make_42 : decode (z_c zX9_make) 42 = .ok (.imul, 1) := by decide +kernel
theorem dX9_make_43 : decode (z_c zX9_make) 43 = .ok (.iload_n 1, 1) := by decide +kernel
theorem dX9_make_44 : decode (z_c zX9_make) 44 = .ok (.iconst 2, 1) := by decide +kernel
theorem dX9_make_45 : decode (z_c zX9_make) 45 = .ok (.idiv, 1) := by decide +kernel
theorem dX9_make_46 : decode (z_c zX9_make) 46 = .ok (.iadd, 1) := by decide +kernel
theorem dX9_make_47 : decode (z_c zX9_make) 47 = .ok (.istore 10, 2) := by decide +kernel
theorem dX9_make_49 : decode (z_c zX9_make) 49 = .ok (.iconst 0, 1) := by decide +kernel
theorem dX9_make_50 : decode (z_c zX9_make) 50 = .ok (.istore 11, 2) := by decide +kernel
theorem dX9_make_52 : decode (z_c zX9_make) 52 = .ok (.iconst 0, 1) := by decide +kernel
theorem dX9_make_53 : decode (z_c zX9_make) 53 = .ok (.istore 12, 2) := by decide +kernel
theorem dX9_make_55 : decode (z_c zX9_make) 55 = .ok (.iload 12, 2) := by decide +kernel
theorem dX9_make_57 : decode (z_c zX9_make) 57 = .ok (.aload_n 0, 1) := by decide +kernel
theorem dX9_make_58 : decode (z_c zX9_make) 58 = .ok (.getfield 16, 3) := by decide +kernel
theorem dX9_make_61 : decode (z_c zX9_make) 61 = .ok (.if_icmp .ge 30, 3) := by decide +kernel
theorem dX9_make_64 : decode (z_c zX9_make) 64 = .ok (.iload 11, 2) := by decide +kernel
theorem dX9_make_66 : decode (z_c zX9_make) 66 = .ok (.aload_n 0, 1) := by decide +kernel
theorem dX9_make_67 : decode (z_c zX9_make) 67 = .ok (.iload 12, 2) := by decide +kernel
theorem dX9_make_69 : decode (z_c zX9_make) 69 = .ok (.iload 10, 2) := by decide +kernel
theorem dX9_make_71 : decode (z_c zX9_make) 71 = .ok (.invokevirtual 147, 3) := by decide +kernel
theorem dX9_make_74 : decode (z_c zX9_make) 74 = .ok (.ifCond .eq 7, 3) := by decide +kernel
theorem dX9_make_77 : decode (z_c zX9_make) 77 = .ok (.iconst 1, 1) := by decide +kernel
theorem dX9_make_78 : decode (z_c zX9_make) 78 = .ok (.goto 4, 3) := by decide +kernel
theorem dX9_make_81 : decode (z_c zX9_make) 81 = .ok (.iconst 0, 1) := by decide +kernel
theorem dX9_make_82 : decode (z_c zX9_make) 82 = .ok (.iadd, 1) := by decide +kernel
theorem dX9_make_83 : decode (z_c zX9_make) 83 = .ok (.istore 11, 2) := by decide +kernel
theorem dX9_make_85 : decode (z_c zX9_make) 85 = .ok (.iinc 12 1, 3) := by decide +kernel
theorem dX9_make_88 : decode (z_c zX9_make) 88 = .ok (.goto (-33), 3) := by decide +kernel
theorem dX9_make_91 : decode (z_c zX9_make) 91 = .ok (.iload_n 3, 1) := by decide +kernel
theorem dX9_make_92 : decode (z_c zX9_make) 92 = .ok (.ifCond .lt 21, 3) := by decide +kernel
theorem dX9_make_95 : decode (z_c zX9_make) 95 = .ok (.iload_n 3, 1) := by decide +kernel
theorem dX9_make_96 : decode (z_c zX9_make) 96 = .ok (.iload 11, 2) := by decide +kernel
theorem dX9_make_98 : decode (z_c zX9_make) 98 = .ok (.if_icmp .gt 15, 3) := by decide +kernel
theorem dX9_make_101 : decode (z_c zX9_make) 101 = .ok (.iload 6, 2) := by decide +kernel
theorem dX9_make_103 : decode (z_c zX9_make) 103 = .ok (.iconst 1, 1) := by decide +kernel
theorem dX9_make_104 : decode (z_c zX9_make) 104 = .ok (.if_icmp .lt 9, 3) := by decide +kernel
theorem dX9_make_107 : decode (z_c zX9_make) 107 = .ok (.iload 6, 2) := by decide +kernel
theorem dX9_make_109 : decode (z_c zX9_make) 109 = .ok (.iconst 3, 1) := by decide +kernel
theorem dX9_make_110 : decode (z_c zX9_make) 110 = .ok (.if_icmp .le 15, 3) := by decide +kernel
theorem dX9_make_113 : decode (z_c zX9_make) 113 = .ok (.aload_n 0, 1) := by decide +kernel
theorem dX9_make_114 : decode (z_c zX9_make) 114 = .ok (.iload 7, 2) := by decide +kernel
theorem dX9_make_116 : decode (z_c zX9_make) 116 = .ok (.iload 8, 2) := by decide +kernel
theorem dX9_make_118 : decode (z_c zX9_make) 118 = .ok (.iload 9, 2) := by decide +kernel
theorem dX9_make_120 : decode (z_c zX9_make) 120 = .ok (.invokevirtual 100, 3) := by decide +kernel
theorem dX9_make_123 : decode (z_c zX9_make) 123 = .ok (.iconst (-1), 1) := by decide +kernel
theorem dX9_make_124 : decode (z_c zX9_make) 124 = .ok (.ireturn, 1) := by decide +kernel
theorem dX9_make_125 : decode (z_c zX9_make) 125 = .ok (.aload_n 0, 1) := by decide +kernel
theorem dX9_make_126 : decode (z_c zX9_make) 126 = .ok (.invokevirtual 169, 3) := by decide +kernel
theorem dX9_make_129 : decode (z_c zX9_make) 129 = .ok (.iconst 0, 1) := by decide +kernel
theorem dX9_make_130 : decode (z_c zX9_make) 130 = .ok (.istore 12, 2) := by decide +kernel
theorem dX9_make_132 : decode (z_c zX9_make) 132 = .ok (.iload 12, 2) := by decide +kernel
theorem dX9_make_134 : decode (z_c zX9_make) 134 = .ok (.bipush 100, 2) := by decide +kernel
theorem dX9_make_136 : decode (z_c zX9_make) 136 = .ok (.if_icmp .ge 17, 3) := by decide +kernel
theorem dX9_make_139 : decode (z_c zX9_make) 139 = .ok (.aload_n 0, 1) := by decide +kernel
theorem dX9_make_140 : decode (z_c zX9_make) 140 = .ok (.getfield 23, 3) := by decide +kernel
theorem dX9_make_143 : decode (z_c zX9_make) 143 = .ok (.iload 12, 2) := by decide +kernel
theorem dX9_make_145 : decode (z_c zX9_make) 145 = .ok (.iconst 0, 1) := by decide +kernel
theorem dX9_make_146 : decode (z_c zX9_make) 146 = .ok (.bastore, 1) := by decide +kernel
theorem dX9_make_147 : decode (z_c zX9_make) 147 = .ok (.iinc 12 1, 3) := by decide +kernel
theorem dX9_make_150 : decode (z_c zX9_make) 150 = .ok (.goto (-18), 3) := by decide +kernel
theorem dX9_make_153 : decode (z_c zX9_make) 153 = .ok (.aload_n 0, 1) := by decide +kernel
theorem dX9_make_154 : decode (z_c zX9_make) 154 = .ok (.iload_n 3, 1) := by decide +kernel
theorem dX9_make_155 : decode (z_c zX9_make) 155 = .ok (.iload 10, 2) := by decide +kernel
theorem dX9_make_157 : decode (z_c zX9_make) 157 = .ok (.iload 5, 2) := by decide +kernel
theorem dX9_make_159 : decode (z_c zX9_make) 159 = .ok (.invokevirtual 172, 3) := by decide +kernel
theorem dX9_make_162 : decode (z_c zX9_make) 162 = .ok (.aload_n 0, 1) := by decide +kernel
theorem dX9_make_163 : decode (z_c zX9_make) 163 = .ok (.iconst 0, 1) := by decide +kernel
theorem dX9_make_164 : decode (z_c zX9_make) 164 = .ok (.putfield 175, 3) := by decide +kernel
theorem dX9_make_167 : decode (z_c zX9_make) 167 = .ok (.aload_n 0, 1) := by decide +kernel
theorem dX9_make_168 : decode (z_c zX9_make) 168 = .ok (.iload 10, 2) := by decide +kernel
theorem dX9_make_170 : decode (z_c zX9_make) 170 = .ok (.iload 6, 2) := by decide +kernel
theorem dX9_make_172 : decode (z_c zX9_make) 172 = .ok (.invokevirtual 178, 3) := by decide +kernel
theorem dX9_make_175 : decode (z_c zX9_make) 175 = .ok (.istore 12, 2) := by decide +kernel
theorem dX9_make_177 : decode (z_c zX9_make) 177 = .ok (.iconst 1, 1) := by decide +kernel
theorem dX9_make_178 : decode (z_c zX9_make) 178 = .ok (.istore 13, 2) := by decide +kernel
theorem dX9_make_180 : decode (z_c zX9_make) 180 = .ok (.iload 12, 2) := by decide +kernel
theorem dX9_make_182 : decode (z_c zX9_make) 182 = .ok (.ifCond .ne 59, 3) := by decide +kernel
theorem dX9_make_185 : decode (z_c zX9_make) 185 = .ok (.iload 13, 2) := by decide +kernel
theorem dX9_make_187 : decode (z_c zX9_make) 187 = .ok (.ifCond .eq 54, 3) := by decide +kernel
theorem dX9_make_190 : decode (z_c zX9_make) 190 = .ok (.aload_n 0, 1) := by decide +kernel
theorem dX9_make_191 : decode (z_c zX9_make) 191 = .ok (.getfield 175, 3) := by decide +kernel
theorem dX9_make_194 : decode (z_c zX9_make) 194 = .ok (.bipush 40, 2) := by decide +kernel
theorem dX9_make_196 : decode (z_c zX9_make) 196 = .ok (.if_icmp .ge 14, 3) := by decide +kernel
theorem dX9_make_199 : decode (z_c zX9_make) 199 = .ok (.aload_n 0, 1) := by decide +kernel
theorem dX9_make_200 : decode (z_c zX9_make) 200 = .ok (.invokevirtual 181, 3) := by decide +kernel
theorem dX9_make_203 : decode (z_c zX9_make) 203 = .ok (.ifCond .eq 7, 3) := by decide +kernel
theorem dX9_make_206 : decode (z_c zX9_make) 206 = .ok (.iconst 1, 1) := by decide +kernel
theorem dX9_make_207 : decode (z_c zX9_make) 207 = .ok (.goto 4, 3) := by decide +kernel
theorem dX9_make_210 : decode (z_c zX9_make) 210 = .ok (.iconst 0, 1) := by decide +kernel
theorem dX9_make_211 : decode (z_c zX9_make) 211 = .ok (.istore 13, 2) := by decide +kernel
theorem dX9_make_213 : decode (z_c zX9_make) 213 = .ok (.iload 13, 2) := by decide +kernel
theorem dX9_make_215 : decode (z_c zX9_make) 215 = .ok (.ifCond .eq (-35), 3) := by decide +kernel
theorem dX9_make_218 : decode (z_c zX9_make) 218 = .ok (.aload_n 0, 1) := by decide +kernel
theorem dX9_make_219 : decode (z_c zX9_make) 219 = .ok (.dup, 1) := by decide +kernel
theorem dX9_make_220 : decode (z_c zX9_make) 220 = .ok (.getfield 175, 3) := by decide +kernel
theorem dX9_make_223 : decode (z_c zX9_make) 223 = .ok (.iconst 1, 1) := by decide +kernel
theorem dX9_make_224 : decode (z_c zX9_make) 224 = .ok (.iadd, 1) := by decide +kernel
theorem dX9_make_225 : decode (z_c zX9_make) 225 = .ok (.putfield 175, 3) := by decide +kernel
theorem dX9_make_228 : decode (z_c zX9_make) 228 = .ok (.aload_n 0, 1) := by decide +kernel
theorem dX9_make_229 : decode (z_c zX9_make) 229 = .ok (.iload 10, 2) := by decide +kernel
theorem dX9_make_231 : decode (z_c zX9_make) 231 = .ok (.iload 6, 2) := by decide +kernel
theorem dX9_make_233 : decode (z_c zX9_make) 233 = .ok (.invokevirtual 178, 3) := by decide +kernel
theorem dX9_make_236 : decode (z_c zX9_make) 236 = .ok (.istore 12, 2) := by decide +kernel
theorem dX9_make_238 : decode (z_c zX9_make) 238 = .ok (.goto (-58), 3) := by decide +kernel
theorem dX9_make_241 : decode (z_c zX9_make) 241 = .ok (.iload 12, 2) := by decide +kernel
theorem dX9_make_243 : decode (z_c zX9_make) 243 = .ok (.ifCond .ne 19, 3) := by decide +kernel
theorem dX9_make_246 : decode (z_c zX9_make) 246 = .ok (.aload_n 0, 1) := by decide +kernel
theorem dX9_make_247 : decode (z_c zX9_make) 247 = .ok (.iload 7, 2) := by decide +kernel
theorem dX9_make_249 : decode (z_c zX9_make) 249 = .ok (.iload 8, 2) := by decide +kernel
theorem dX9_make_251 : decode (z_c zX9_make) 251 = .ok (.iload 9, 2) := by decide +kernel
theorem dX9_make_253 : decode (z_c zX9_make) 253 = .ok (.invokevirtual 100, 3) := by decide +kernel
theorem dX9_make_256 : decode (z_c zX9_make) 256 = .ok (.aload_n 0, 1) := by decide +kernel
theorem dX9_make_257 : decode (z_c zX9_make) 257 = .ok (.invokevirtual 183, 3) := by decide +kernel
theorem dX9_make_260 : decode (z_c zX9_make) 260 = .ok (.iconst 0, 1) := by decide +kernel
theorem dX9_make_261 : decode (z_c zX9_make) 261 = .ok (.ireturn, 1) := by decide +kernel
theorem dX9_make_262 : decode (z_c zX9_make) 262 = .ok (.aload_n 0, 1) := by decide +kernel
theorem dX9_make_263 : decode (z_c zX9_make) 263 = .ok (.invokevirtual 120, 3) := by decide +kernel
theorem dX9_make_266 : decode (z_c zX9_make) 266 = .ok (.aload_n 0, 1) := by decide +kernel
theorem dX9_make_267 : decode (z_c zX9_make) 267 = .ok (.invokevirtual 123, 3) := by decide +kernel
theorem dX9_make_270 : decode (z_c zX9_make) 270 = .ok (.iconst 1, 1) := by decide +kernel
theorem dX9_make_271 : decode (z_c zX9_make) 271 = .ok (.ireturn, 1) := by decide +kernel
theorem dX9_mended_0 : decode (z_c zX9_mended) 0 = .ok (.aload_n 0, 1) := by decide +kernel
theorem dX9_mended_1 : decode (z_c zX9_mended) 1 = .ok (.getfield 175, 3) := by decide +kernel
theorem dX9_mended_4 : decode (z_c zX9_mended) 4 = .ok (.ireturn, 1) := by decide +kernel
theorem dX9_count_0 : decode (z_c zX9_count) 0 = .ok (.iconst 0, 1) := by decide +kernel
theorem dX9_count_1 : decode (z_c zX9_count) 1 = .ok (.istore_n 2, 1) := by decide +kernel
theorem dX9_count_2 : decode (z_c zX9_count) 2 = .ok (.iconst 0, 1) := by decide +kernel
theorem dX9_count_3 : decode (z_c zX9_count) 3 = .ok (.istore_n 3, 1) := by decide +kernel
theorem dX9_count_4 : decode (z_c zX9_count) 4 = .ok (.iload_n 3, 1) := by decide +kernel
theorem dX9_count_5 : decode (z_c zX9_count) 5 = .ok (.aload_n 0, 1) := by decide +kernel
theorem dX9_count_6 : decode (z_c zX9_count) 6 = .ok (.getfield 16, 3) := by decide +kernel
theorem dX9_count_9 : decode (z_c zX9_count) 9 = .ok (.if_icmp .ge 26, 3) := by decide +kernel
theorem dX9_count_12 : decode (z_c zX9_count) 12 = .ok (.iload_n 2, 1) := by decide +kernel
theorem dX9_count_13 : decode (z_c zX9_count) 13 = .ok (.aload_n 0, 1) := by decide +kernel
theorem dX9_count_14 : decode (z_c zX9_count) 14 = .ok (.getfield 30, 3) := by decide +kernel
theorem dX9_count_17 : decode (z_c zX9_count) 17 = .ok (.iload_n 3, 1) := by decide +kernel
theorem dX9_count_18 : decode (z_c zX9_count) 18 = .ok (.baload, 1) := by decide +kernel
theorem dX9_count_19 : decode (z_c zX9_count) 19 = .ok (.ifCond .eq 7, 3) := by decide +kernel
theorem dX9_count_22 : decode (z_c zX9_count) 22 = .ok (.iconst 1, 1) := by decide +kernel
theorem dX9_count_23 : decode (z_c zX9_count) 23 = .ok (.goto 4, 3) := by decide +kernel
theorem dX9_count_26 : decode (z_c zX9_count) 26 = .ok (.iconst 0, 1) := by decide +kernel
theorem dX9_count_27 : decode (z_c zX9_count) 27 = .ok (.iadd, 1) := by decide +kernel
theorem dX9_count_28 : decode (z_c zX9_count) 28 = .ok (.istore_n 2, 1) := by decide +kernel
theorem dX9_count_29 : decode (z_c zX9_count) 29 = .ok (.iinc 3 1, 3) := by decide +kernel
theorem dX9_count_32 : decode (z_c zX9_count) 32 = .ok (.goto (-28), 3) := by decide +kernel
theorem dX9_count_35 : decode (z_c zX9_count) 35 = .ok (.iload_n 1, 1) := by decide +kernel
theorem dX9_count_36 : decode (z_c zX9_count) 36 = .ok (.tableswitch 87 0 7 #[48, 53, 58, 63, 68, 74, 76, 82], 48) := by decide +kernel
theorem dX9_count_84 : decode (z_c zX9_count) 84 = .ok (.aload_n 0, 1) := by decide +kernel
theorem dX9_count_85 : decode (z_c zX9_count) 85 = .ok (.getfield 7, 3) := by decide +kernel
theorem dX9_count_88 : decode (z_c zX9_count) 88 = .ok (.ireturn, 1) := by decide +kernel
theorem dX9_count_89 : decode (z_c zX9_count) 89 = .ok (.aload_n 0, 1) := by decide +kernel
theorem dX9_count_90 : decode (z_c zX9_count) 90 = .ok (.getfield 13, 3) := by decide +kernel
theorem dX9_count_93 : decode (z_c zX9_count) 93 = .ok (.ireturn, 1) := by decide +kernel
theorem dX9_count_94 : decode (z_c zX9_count) 94 = .ok (.aload_n 0, 1) := by decide +kernel
theorem dX9_count_95 : decode (z_c zX9_count) 95 = .ok (.getfield 104, 3) := by decide +kernel
theorem dX9_count_98 : decode (z_c zX9_count) 98 = .ok (.ireturn, 1) := by decide +kernel
theorem dX9_count_99 : decode (z_c zX9_count) 99 = .ok (.aload_n 0, 1) := by decide +kernel
theorem dX9_count_100 : decode (z_c zX9_count) 100 = .ok (.invokevirtual 134, 3) := by decide +kernel
theorem dX9_count_103 : decode (z_c zX9_count) 103 = .ok (.ireturn, 1) := by decide +kernel
theorem dX9_count_104 : decode (z_c zX9_count) 104 = .ok (.aload_n 0, 1) := by decide +kernel
theorem dX9_count_105 : decode (z_c zX9_count) 105 = .ok (.iconst 1, 1) := by decide +kernel
theorem dX9_count_106 : decode (z_c zX9_count) 106 = .ok (.invokevirtual 130, 3) := by decide +kernel
theorem dX9_count_109 : decode (z_c zX9_count) 109 = .ok (.ireturn, 1) := by decide +kernel
theorem dX9_count_110 : decode (z_c zX9_count) 110 = .ok (.iload_n 2, 1) := by decide +kernel
theorem dX9_count_111 : decode (z_c zX9_count) 111 = .ok (.ireturn, 1) := by decide +kernel
theorem dX9_count_112 : decode (z_c zX9_count) 112 = .ok (.aload_n 0, 1) := by decide +kernel
theorem dX9_count_113 : decode (z_c zX9_count) 113 = .ok (.iconst 2, 1) := by decide +kernel
theorem dX9_count_114 : decode (z_c zX9_count) 114 = .ok (.invokevirtual 130, 3) := by decide +kernel
theorem dX9_count_117 : decode (z_c zX9_count) 117 = .ok (.ireturn, 1) := by decide +kernel
theorem dX9_count_118 : decode (z_c zX9_count) 118 = .ok (.aload_n 0, 1) := by decide +kernel
theorem dX9_count_119 : decode (z_c zX9_count) 119 = .ok (.getfield 110, 3) := by decide +kernel
theorem dX9_count_122 : decode (z_c zX9_count) 122 = .ok (.ireturn, 1) := by decide +kernel
theorem dX9_count_123 : decode (z_c zX9_count) 123 = .ok (.iconst (-1), 1) := by decide +kernel
theorem dX9_count_124 : decode (z_c zX9_count) 124 = .ok (.ireturn, 1) := by decide +kernel
theorem dX9_neighbour_0 : decode (z_c zX9_neighbour) 0 = .ok (.aload_n 0, 1) := by decide +kernel
theorem dX9_neighbour_1 : decode (z_c zX9_neighbour) 1 = .ok (.iload_n 1, 1) := by decide +kernel
theorem dX9_neighbour_2 : decode (z_c zX9_neighbour) 2 = .ok (.invokevirtual 126, 3) := by decide +kernel
theorem dX9_neighbour_5 : decode (z_c zX9_neighbour) 5 = .ok (.ifCond .ne 5, 3) := by decide +kernel
theorem dX9_neighbour_8 : decode (z_c zX9_neighbour) 8 = .ok (.iconst (-1), 1) := by decide +kernel
theorem dX9_neighbour_9 : decode (z_c zX9_neighbour) 9 = .ok (.ireturn, 1) := by decide +kernel
theorem dX9_neighbour_10 : decode (z_c zX9_neighbour) 10 = .ok (.iconst (-1), 1) := by decide +kernel
theorem dX9_neighbour_11 : decode (z_c zX9_neighbour) 11 = .ok (.istore_n 3, 1) := by decide +kernel
theorem dX9_neighbour_12 : decode (z_c zX9_neighbour) 12 = .ok (.iconst 0, 1) := by decide +kernel
theorem dX9_neighbour_13 : decode (z_c zX9_neighbour) 13 = .ok (.istore 4, 2) := by decide +kernel
theorem dX9_neighbour_15 : decode (z_c zX9_neighbour) 15 = .ok (.iconst 0, 1) := by decide +kernel
theorem dX9_neighbour_16 : decode (z_c zX9_neighbour) 16 = .ok (.istore 5, 2) := by decide +kernel
theorem dX9_neighbour_18 : decode (z_c zX9_neighbour) 18 = .ok (.iload 5, 2) := by decide +kernel
theorem dX9_neighbour_20 : decode (z_c zX9_neighbour) 20 = .ok (.aload_n 0, 1) := by decide +kernel
theorem dX9_neighbour_21 : decode (z_c zX9_neighbour) 21 = .ok (.getfield 16, 3) := by decide +kernel
theorem dX9_neighbour_24 : decode (z_c zX9_neighbour) 24 = .ok (.if_icmp .ge 35, 3) := by decide +kernel
theorem dX9_neighbour_27 : decode (z_c zX9_neighbour) 27 = .ok (.aload_n 0, 1) := by decide +kernel
theorem dX9_neighbour_28 : decode (z_c zX9_neighbour) 28 = .ok (.iload_n 1, 1) := by decide +kernel
theorem dX9_neighbour_29 : decode (z_c zX9_neighbour) 29 = .ok (.iload 5, 2) := by decide +kernel
theorem dX9_neighbour_31 : decode (z_c zX9_neighbour) 31 = .ok (.invokevirtual 138, 3) := by decide +kernel
theorem dX9_neighbour_34 : decode (z_c zX9_neighbour) 34 = .ok (.ifCond .eq 19, 3) := by decide +kernel
theorem dX9_neighbour_37 : decode (z_c zX9_neighbour) 37 = .ok (.iload 4, 2) := by decide +kernel
theorem dX9_neighbour_39 : decode (z_c zX9_neighbour) 39 = .ok (.iload_n 2, 1) := by decide +kernel
theorem dX9_neighbour_40 : decode (z_c zX9_neighbour) 40 = .ok (.if_icmp .ne 8, 3) := by decide +kernel
theorem dX9_neighbour_43 : decode (z_c zX9_neighbour) 43 = .ok (.iload 5, 2) := by decide +kernel
theorem dX9_neighbour_45 : decode (z_c zX9_neighbour) 45 = .ok (.goto 4, 3) := by decide +kernel
theorem dX9_neighbour_48 : decode (z_c zX9_neighbour) 48 = .ok (.iload_n 3, 1) := by decide +kernel
theorem dX9_neighbour_49 : decode (z_c zX9_neighbour) 49 = .ok (.istore_n 3, 1) := by decide +kernel
theorem dX9_neighbour_50 : decode (z_c zX9_neighbour) 50 = .ok (.iinc 4 1, 3) := by decide +kernel
theorem dX9_neighbour_53 : decode (z_c zX9_neighbour) 53 = .ok (.iinc 5 1, 3) := by decide +kernel
theorem dX9_neighbour_56 : decode (z_c zX9_neighbour) 56 = .ok (.goto (-38), 3) := by decide +kernel
theorem dX9_neighbour_59 : decode (z_c zX9_neighbour) 59 = .ok (.iload_n 3, 1) := by decide +kernel
theorem dX9_neighbour_60 : decode (z_c zX9_neighbour) 60 = .ok (.ireturn, 1) := by decide +kernel
theorem dX9_mined_0 : decode (z_c zX9_mined) 0 = .ok (.aload_n 0, 1) := by decide +kernel
theorem dX9_mined_1 : decode (z_c zX9_mined) 1 = .ok (.iload_n 1, 1) := by decide +kernel
theorem dX9_mined_2 : decode (z_c zX9_mined) 2 = .ok (.invokevirtual 126, 3) := by decide +kernel
theorem dX9_mined_5 : decode (z_c zX9_mined) 5 = .ok (.ifCond .eq 16, 3) := by decide +kernel
theorem dX9_mined_8 : decode (z_c zX9_mined) 8 = .ok (.aload_n 0, 1) := by decide +kernel
theorem dX9_mined_9 : decode (z_c zX9_mined) 9 = .ok (.getfield 23, 3) := by decide +kernel
theorem dX9_mined_12 : decode (z_c zX9_mined) 12 = .ok (.iload_n 1, 1) := by decide +kernel
theorem dX9_mined_13 : decode (z_c zX9_mined) 13 = .ok (.baload, 1) := by decide +kernel
theorem dX9_mined_14 : decode (z_c zX9_mined) 14 = .ok (.ifCond .eq 7, 3) := by decide +kernel
theorem dX9_mined_17 : decode (z_c zX9_mined) 17 = .ok (.iconst 1, 1) := by decide +kernel
theorem dX9_mined_18 : decode (z_c zX9_mined) 18 = .ok (.goto 4, 3) := by decide +kernel
theorem dX9_mined_21 : decode (z_c zX9_mined) 21 = .ok (.iconst 0, 1) := by decide +kernel
theorem dX9_mined_22 : decode (z_c zX9_mined) 22 = .ok (.ireturn, 1) := by decide +kernel
theorem dX9_move_0 : decode (z_c zX9_move) 0 = .ok (.iconst 0, 1) := by decide +kernel
theorem dX9_move_1 : decode (z_c zX9_move) 1 = .ok (.istore_n 1, 1) := by decide +kernel
theorem dX9_move_2 : decode (z_c zX9_move) 2 = .ok (.iload_n 1, 1) := by decide +kernel
theorem dX9_move_3 : decode (z_c zX9_move) 3 = .ok (.aload_n 0, 1) := by decide +kernel
theorem dX9_move_4 : decode (z_c zX9_move) 4 = .ok (.getfield 16, 3) := by decide +kernel
theorem dX9_move_7 : decode (z_c zX9_move) 7 = .ok (.if_icmp .ge 44, 3) := by decide +kernel
theorem dX9_move_10 : decode (z_c zX9_move) 10 = .ok (.aload_n 0, 1) := by decide +kernel
theorem dX9_move_11 : decode (z_c zX9_move) 11 = .ok (.getfield 33, 3) := by decide +kernel
theorem dX9_move_14 : decode (z_c zX9_move) 14 = .ok (.bipush 100, 2) := by decide +kernel
theorem dX9_move_16 : decode (z_c zX9_move) 16 = .ok (.aload_n 0, 1) := by decide +kernel
theorem dX9_move_17 : decode (z_c zX9_move) 17 = .ok (.getfield 110, 3) := by decide +kernel
theorem dX9_move_20 : decode (z_c zX9_move) 20 = .ok (.imul, 1) := by decide +kernel
theorem dX9_move_21 : decode (z_c zX9_move) 21 = .ok (.iload_n 1, 1) := by decide +kernel
theorem dX9_move_22 : decode (z_c zX9_move) 22 = .ok (.iadd, 1) := by decide +kernel
theorem dX9_move_23 : decode (z_c zX9_move) 23 = .ok (.aload_n 0, 1) := by decide +kernel
theorem dX9_move_24 : decode (z_c zX9_move) 24 = .ok (.getfield 26, 3) := by decide +kernel
theorem dX9_move_27 : decode (z_c zX9_move) 27 = .ok (.iload_n 1, 1) := by decide +kernel
theorem dX9_move_28 : decode (z_c zX9_move) 28 = .ok (.iaload, 1) := by decide +kernel
theorem dX9_move_29 : decode (z_c zX9_move) 29 = .ok (.aload_n 0, 1) := by decide +kernel
theorem dX9_move_30 : decode (z_c zX9_move) 30 = .ok (.getfield 30, 3) := by decide +kernel
theorem dX9_move_33 : decode (z_c zX9_move) 33 = .ok (.iload_n 1, 1) := by decide +kernel
theorem dX9_move_34 : decode (z_c zX9_move) 34 = .ok (.baload, 1) := by decide +kernel
theorem dX9_move_35 : decode (z_c zX9_move) 35 = .ok (.ifCond .eq 7, 3) := by decide +kernel
theorem dX9_move_38 : decode (z_c zX9_move) 38 = .ok (.iconst 4, 1) := by decide +kernel
theorem dX9_move_39 : decode (z_c zX9_move) 39 = .ok (.goto 4, 3) := by decide +kernel
theorem dX9_move_42 : decode (z_c zX9_move) 42 = .ok (.iconst 0, 1) := by decide +kernel
theorem dX9_move_43 : decode (z_c zX9_move) 43 = .ok (.iadd, 1) := by decide +kernel
theorem dX9_move_44 : decode (z_c zX9_move) 44 = .ok (.iastore, 1) := by decide +kernel
theorem dX9_move_45 : decode (z_c zX9_move) 45 = .ok (.iinc 1 1, 3) := by decide +kernel
theorem dX9_move_48 : decode (z_c zX9_move) 48 = .ok (.goto (-46), 3) := by decide +kernel
theorem dX9_move_51 : decode (z_c zX9_move) 51 = .ok (.aload_n 0, 1) := by decide +kernel
theorem dX9_move_52 : decode (z_c zX9_move) 52 = .ok (.dup, 1) := by decide +kernel
theorem dX9_move_53 : decode (z_c zX9_move) 53 = .ok (.getfield 110, 3) := by decide +kernel
theorem dX9_move_56 : decode (z_c zX9_move) 56 = .ok (.iconst 1, 1) := by decide +kernel
theorem dX9_move_57 : decode (z_c zX9_move) 57 = .ok (.iadd, 1) := by decide +kernel
theorem dX9_move_58 : decode (z_c zX9_move) 58 = .ok (.putfield 110, 3) := by decide +kernel
theorem dX9_move_61 : decode (z_c zX9_move) 61 = .ok (.return_, 1) := by decide +kernel
theorem dX9_open_0 : decode (z_c zX9_open) 0 = .ok (.aload_n 0, 1) := by decide +kernel
theorem dX9_open_1 : decode (z_c zX9_open) 1 = .ok (.iload_n 1, 1) := by decide +kernel
theorem dX9_open_2 : decode (z_c zX9_open) 2 = .ok (.invokevirtual 126, 3) := by decide +kernel
theorem dX9_open_5 : decode (z_c zX9_open) 5 = .ok (.ifCond .ne 5, 3) := by decide +kernel
theorem dX9_open_8 : decode (z_c zX9_open) 8 = .ok (.iconst (-1), 1) := by decide +kernel
theorem dX9_open_9 : decode (z_c zX9_open) 9 = .ok (.ireturn, 1) := by decide +kernel
theorem dX9_open_10 : decode (z_c zX9_open) 10 = .ok (.aload_n 0, 1) := by decide +kernel
theorem dX9_open_11 : decode (z_c zX9_open) 11 = .ok (.getfield 26, 3) := by decide +kernel
theorem dX9_open_14 : decode (z_c zX9_open) 14 = .ok (.iload_n 1, 1) := by decide +kernel
theorem dX9_open_15 : decode (z_c zX9_open) 15 = .ok (.iaload, 1) := by decide +kernel
theorem dX9_open_16 : decode (z_c zX9_open) 16 = .ok (.ifCond .ne 12, 3) := by decide +kernel
theorem dX9_open_19 : decode (z_c zX9_open) 19 = .ok (.aload_n 0, 1) := by decide +kernel
theorem dX9_open_20 : decode (z_c zX9_open) 20 = .ok (.getfield 30, 3) := by decide +kernel
theorem dX9_open_23 : decode (z_c zX9_open) 23 = .ok (.iload_n 1, 1) := by decide +kernel
theorem dX9_open_24 : decode (z_c zX9_open) 24 = .ok (.baload, 1) := by decide +kernel
theorem dX9_open_25 : decode (z_c zX9_open) 25 = .ok (.ifCond .eq 6, 3) := by decide +kernel
theorem dX9_open_28 : decode (z_c zX9_open) 28 = .ok (.bipush (-2), 2) := by decide +kernel
theorem dX9_open_30 : decode (z_c zX9_open) 30 = .ok (.ireturn, 1) := by decide +kernel
theorem dX9_open_31 : decode (z_c zX9_open) 31 = .ok (.aload_n 0, 1) := by decide +kernel
theorem dX9_open_32 : decode (z_c zX9_open) 32 = .ok (.getfield 110, 3) := by decide +kernel
theorem dX9_open_35 : decode (z_c zX9_open) 35 = .ok (.sipush 200, 3) := by decide +kernel
theorem dX9_open_38 : decode (z_c zX9_open) 38 = .ok (.if_icmp .ne 6, 3) := by decide +kernel
theorem dX9_open_41 : decode (z_c zX9_open) 41 = .ok (.bipush (-4), 2) := by decide +kernel
theorem dX9_open_43 : decode (z_c zX9_open) 43 = .ok (.ireturn, 1) := by decide +kernel
theorem dX9_open_44 : decode (z_c zX9_open) 44 = .ok (.aload_n 0, 1) := by decide +kernel
theorem dX9_open_45 : decode (z_c zX9_open) 45 = .ok (.invokevirtual 186, 3) := by decide +kernel
theorem dX9_open_48 : decode (z_c zX9_open) 48 = .ok (.aload_n 0, 1) := by decide +kernel
theorem dX9_open_49 : decode (z_c zX9_open) 49 = .ok (.iload_n 1, 1) := by decide +kernel
theorem dX9_open_50 : decode (z_c zX9_open) 50 = .ok (.invokevirtual 151, 3) := by decide +kernel
theorem dX9_open_53 : decode (z_c zX9_open) 53 = .ok (.aload_n 0, 1) := by decide +kernel
theorem dX9_open_54 : decode (z_c zX9_open) 54 = .ok (.getfield 23, 3) := by decide +kernel
theorem dX9_open_57 : decode (z_c zX9_open) 57 = .ok (.iload_n 1, 1) := by decide +kernel
theorem dX9_open_58 : decode (z_c zX9_open) 58 = .ok (.baload, 1) := by decide +kernel
theorem dX9_open_59 : decode (z_c zX9_open) 59 = .ok (.ifCond .eq 8, 3) := by decide +kernel
theorem dX9_open_62 : decode (z_c zX9_open) 62 = .ok (.bipush (-5), 2) := by decide +kernel
theorem dX9_open_64 : decode (z_c zX9_open) 64 = .ok (.goto 8, 3) := by decide +kernel
theorem dX9_open_67 : decode (z_c zX9_open) 67 = .ok (.aload_n 0, 1) := by decide +kernel
theorem dX9_open_68 : decode (z_c zX9_open) 68 = .ok (.iload_n 1, 1) := by decide +kernel
theorem dX9_open_69 : decode (z_c zX9_open) 69 = .ok (.invokevirtual 142, 3) := by decide +kernel
theorem dX9_open_72 : decode (z_c zX9_open) 72 = .ok (.ireturn, 1) := by decide +kernel
theorem dX9_flag_0 : decode (z_c zX9_flag) 0 = .ok (.aload_n 0, 1) := by decide +kernel
theorem dX9_flag_1 : decode (z_c zX9_flag) 1 = .ok (.iload_n 1, 1) := by decide +kernel
theorem dX9_flag_2 : decode (z_c zX9_flag) 2 = .ok (.invokevirtual 126, 3) := by decide +kernel
theorem dX9_flag_5 : decode (z_c zX9_flag) 5 = .ok (.ifCond .ne 5, 3) := by decide +kernel
theorem dX9_flag_8 : decode (z_c zX9_flag) 8 = .ok (.iconst (-1), 1) := by decide +kernel
theorem dX9_flag_9 : decode (z_c zX9_flag) 9 = .ok (.ireturn, 1) := by decide +kernel
theorem dX9_flag_10 : decode (z_c zX9_flag) 10 = .ok (.aload_n 0, 1) := by decide +kernel
theorem dX9_flag_11 : decode (z_c zX9_flag) 11 = .ok (.getfield 26, 3) := by decide +kernel
theorem dX9_flag_14 : decode (z_c zX9_flag) 14 = .ok (.iload_n 1, 1) := by decide +kernel
theorem dX9_flag_15 : decode (z_c zX9_flag) 15 = .ok (.iaload, 1) := by decide +kernel
theorem dX9_flag_16 : decode (z_c zX9_flag) 16 = .ok (.ifCond .eq 6, 3) := by decide +kernel
theorem dX9_flag_19 : decode (z_c zX9_flag) 19 = .ok (.bipush (-2), 2) := by decide +kernel
theorem dX9_flag_21 : decode (z_c zX9_flag) 21 = .ok (.ireturn, 1) := by decide +kernel
theorem dX9_flag_22 : decode (z_c zX9_flag) 22 = .ok (.aload_n 0, 1) := by decide +kernel
theorem dX9_flag_23 : decode (z_c zX9_flag) 23 = .ok (.getfield 110, 3) := by decide +kernel
theorem dX9_flag_26 : decode (z_c zX9_flag) 26 = .ok (.sipush 200, 3) := by decide +kernel
theorem dX9_flag_29 : decode (z_c zX9_flag) 29 = .ok (.if_icmp .ne 6, 3) := by decide +kernel
theorem dX9_flag_32 : decode (z_c zX9_flag) 32 = .ok (.bipush (-4), 2) := by decide +kernel
theorem dX9_flag_34 : decode (z_c zX9_flag) 34 = .ok (.ireturn, 1) := by decide +kernel
theorem dX9_flag_35 : decode (z_c zX9_flag) 35 = .ok (.aload_n 0, 1) := by decide +kernel
theorem dX9_flag_36 : decode (z_c zX9_flag) 36 = .ok (.invokevirtual 186, 3) := by decide +kernel
theorem dX9_flag_39 : decode (z_c zX9_flag) 39 = .ok (.aload_n 0, 1) := by decide +kernel
theorem dX9_flag_40 : decode (z_c zX9_flag) 40 = .ok (.getfield 30, 3) := by decide +kernel
theorem dX9_flag_43 : decode (z_c zX9_flag) 43 = .ok (.iload_n 1, 1) := by decide +kernel
theorem dX9_flag_44 : decode (z_c zX9_flag) 44 = .ok (.aload_n 0, 1) := by decide +kernel
theorem dX9_flag_45 : decode (z_c zX9_flag) 45 = .ok (.getfield 30, 3) := by decide +kernel
theorem dX9_flag_48 : decode (z_c zX9_flag) 48 = .ok (.iload_n 1, 1) := by decide +kernel
theorem dX9_flag_49 : decode (z_c zX9_flag) 49 = .ok (.baload, 1) := by decide +kernel
theorem dX9_flag_50 : decode (z_c zX9_flag) 50 = .ok (.ifCond .ne 7, 3) := by decide +kernel
theorem dX9_flag_53 : decode (z_c zX9_flag) 53 = .ok (.iconst 1, 1) := by decide +kernel
theorem dX9_flag_54 : decode (z_c zX9_flag) 54 = .ok (.goto 4, 3) := by decide +kernel
theorem dX9_flag_57 : decode (z_c zX9_flag) 57 = .ok (.iconst 0, 1) := by decide +kernel
theorem dX9_flag_58 : decode (z_c zX9_flag) 58 = .ok (.bastore, 1) := by decide +kernel
theorem dX9_flag_59 : decode (z_c zX9_flag) 59 = .ok (.aload_n 0, 1) := by decide +kernel
theorem dX9_flag_60 : decode (z_c zX9_flag) 60 = .ok (.getfield 30, 3) := by decide +kernel
theorem dX9_flag_63 : decode (z_c zX9_flag) 63 = .ok (.iload_n 1, 1) := by decide +kernel
theorem dX9_flag_64 : decode (z_c zX9_flag) 64 = .ok (.baload, 1) := by decide +kernel
theorem dX9_flag_65 : decode (z_c zX9_flag) 65 = .ok (.ifCond .eq 7, 3) := by decide +kernel
theorem dX9_flag_68 : decode (z_c zX9_flag) 68 = .ok (.iconst 1, 1) := by decide +kernel
theorem dX9_flag_69 : decode (z_c zX9_flag) 69 = .ok (.goto 4, 3) := by decide +kernel
theorem dX9_flag_72 : decode (z_c zX9_flag) 72 = .ok (.iconst 0, 1) := by decide +kernel
theorem dX9_flag_73 : decode (z_c zX9_flag) 73 = .ok (.ireturn, 1) := by decide +kernel
theorem dX9_flagsNear_0 : decode (z_c zX9_flagsNear) 0 = .ok (.iconst 0, 1) := by decide +kernel
theorem dX9_flagsNear_1 : decode (z_c zX9_flagsNear) 1 = .ok (.istore_n 2, 1) := by decide +kernel
theorem dX9_flagsNear_2 : decode (z_c zX9_flagsNear) 2 = .ok (.iconst 0, 1) := by decide +kernel
theorem dX9_flagsNear_3 : decode (z_c zX9_flagsNear) 3 = .ok (.istore_n 3, 1) := by decide +kernel
theorem dX9_flagsNear_4 : decode (z_c zX9_flagsNear) 4 = .ok (.iload_n 3, 1) := by decide +kernel
theorem dX9_flagsNear_5 : decode (z_c zX9_flagsNear) 5 = .ok (.aload_n 0, 1) := by decide +kernel
theorem dX9_flagsNear_6 : decode (z_c zX9_flagsNear) 6 = .ok (.getfield 16, 3) := by decide +kernel
theorem dX9_flagsNear_9 : decode (z_c zX9_flagsNear) 9 = .ok (.if_icmp .ge 35, 3) := by decide +kernel
theorem dX9_flagsNear_12 : decode (z_c zX9_flagsNear) 12 = .ok (.iload_n 2, 1) := by decide +kernel
theorem dX9_flagsNear_13 : decode (z_c zX9_flagsNear) 13 = .ok (.aload_n 0, 1) := by decide +kernel
theorem dX9_flagsNear_14 : decode (z_c zX9_flagsNear) 14 = .ok (.iload_n 1, 1) := by decide +kernel
theorem dX9_flagsNear_15 : decode (z_c zX9_flagsNear) 15 = .ok (.iload_n 3, 1) := by decide +kernel
theorem dX9_flagsNear_16 : decode (z_c zX9_flagsNear) 16 = .ok (.invokevirtual 138, 3) := by decide +kernel
theorem dX9_flagsNear_19 : decode (z_c zX9_flagsNear) 19 = .ok (.ifCond .eq 16, 3) := by decide +kernel
theorem dX9_flagsNear_22 : decode (z_c zX9_flagsNear) 22 = .ok (.aload_n 0, 1) := by decide +kernel
theorem dX9_flagsNear_23 : decode (z_c zX9_flagsNear) 23 = .ok (.getfield 30, 3) := by decide +kernel
theorem dX9_flagsNear_26 : decode (z_c zX9_flagsNear) 26 = .ok (.iload_n 3, 1) := by decide +kernel
theorem dX9_flagsNear_27 : decode (z_c zX9_flagsNear) 27 = .ok (.baload, 1) := by decide +kernel
theorem dX9_flagsNear_28 : decode (z_c zX9_flagsNear) 28 = .ok (.ifCond .eq 7, 3) := by decide +kernel
theorem dX9_flagsNear_31 : decode (z_c zX9_flagsNear) 31 = .ok (.iconst 1, 1) := by decide +kernel
theorem dX9_flagsNear_32 : decode (z_c zX9_flagsNear) 32 = .ok (.goto 4, 3) := by decide +kernel
theorem dX9_flagsNear_35 : decode (z_c zX9_flagsNear) 35 = .ok (.iconst 0, 1) := by decide +kernel
theorem dX9_flagsNear_36 : decode (z_c zX9_flagsNear) 36 = .ok (.iadd, 1) := by decide +kernel
theorem dX9_flagsNear_37 : decode (z_c zX9_flagsNear) 37 = .ok (.istore_n 2, 1) := by decide +kernel
theorem dX9_flagsNear_38 : decode (z_c zX9_flagsNear) 38 = .ok (.iinc 3 1, 3) := by decide +kernel
theorem dX9_flagsNear_41 : decode (z_c zX9_flagsNear) 41 = .ok (.goto (-37), 3) := by decide +kernel
theorem dX9_flagsNear_44 : decode (z_c zX9_flagsNear) 44 = .ok (.iload_n 2, 1) := by decide +kernel
theorem dX9_flagsNear_45 : decode (z_c zX9_flagsNear) 45 = .ok (.ireturn, 1) := by decide +kernel
theorem dX9_chord_0 : decode (z_c zX9_chord) 0 = .ok (.aload_n 0, 1) := by decide +kernel
theorem dX9_chord_1 : decode (z_c zX9_chord) 1 = .ok (.iload_n 1, 1) := by decide +kernel
theorem dX9_chord_2 : decode (z_c zX9_chord) 2 = .ok (.invokevirtual 126, 3) := by decide +kernel
theorem dX9_chord_5 : decode (z_c zX9_chord) 5 = .ok (.ifCond .ne 5, 3) := by decide +kernel
theorem dX9_chord_8 : decode (z_c zX9_chord) 8 = .ok (.iconst (-1), 1) := by decide +kernel
theorem dX9_chord_9 : decode (z_c zX9_chord) 9 = .ok (.ireturn, 1) := by decide +kernel
theorem dX9_chord_10 : decode (z_c zX9_chord) 10 = .ok (.aload_n 0, 1) := by decide +kernel
theorem dX9_chord_11 : decode (z_c zX9_chord) 11 = .ok (.getfield 26, 3) := by decide +kernel
theorem dX9_chord_14 : decode (z_c zX9_chord) 14 = .ok (.iload_n 1, 1) := by decide +kernel
theorem dX9_chord_15 : decode (z_c zX9_chord) 15 = .ok (.iaload, 1) := by decide +kernel
theorem dX9_chord_16 : decode (z_c zX9_chord) 16 = .ok (.iconst 1, 1) := by decide +kernel
theorem dX9_chord_17 : decode (z_c zX9_chord) 17 = .ok (.if_icmp .ne 23, 3) := by decide +kernel
theorem dX9_chord_20 : decode (z_c zX9_chord) 20 = .ok (.aload_n 0, 1) := by decide +kernel
theorem dX9_chord_21 : decode (z_c zX9_chord) 21 = .ok (.iload_n 1, 1) := by decide +kernel
theorem dX9_chord_22 : decode (z_c zX9_chord) 22 = .ok (.invokevirtual 189, 3) := by decide +kernel
theorem dX9_chord_25 : decode (z_c zX9_chord) 25 = .ok (.aload_n 0, 1) := by decide +kernel
theorem dX9_chord_26 : decode (z_c zX9_chord) 26 = .ok (.iload_n 1, 1) := by decide +kernel
theorem dX9_chord_27 : decode (z_c zX9_chord) 27 = .ok (.iconst 2, 1) := by decide +kernel
theorem dX9_chord_28 : decode (z_c zX9_chord) 28 = .ok (.invokevirtual 165, 3) := by decide +kernel
theorem dX9_chord_31 : decode (z_c zX9_chord) 31 = .ok (.iadd, 1) := by decide +kernel
theorem dX9_chord_32 : decode (z_c zX9_chord) 32 = .ok (.aload_n 0, 1) := by decide +kernel
theorem dX9_chord_33 : decode (z_c zX9_chord) 33 = .ok (.iload_n 1, 1) := by decide +kernel
theorem dX9_chord_34 : decode (z_c zX9_chord) 34 = .ok (.invokevirtual 142, 3) := by decide +kernel
theorem dX9_chord_37 : decode (z_c zX9_chord) 37 = .ok (.if_icmp .eq 6, 3) := by decide +kernel
theorem dX9_chord_40 : decode (z_c zX9_chord) 40 = .ok (.bipush (-2), 2) := by decide +kernel
theorem dX9_chord_42 : decode (z_c zX9_chord) 42 = .ok (.ireturn, 1) := by decide +kernel
theorem dX9_chord_43 : decode (z_c zX9_chord) 43 = .ok (.aload_n 0, 1) := by decide +kernel
theorem dX9_chord_44 : decode (z_c zX9_chord) 44 = .ok (.getfield 110, 3) := by decide +kernel
theorem dX9_chord_47 : decode (z_c zX9_chord) 47 = .ok (.sipush 200, 3) := by decide +kernel
theorem dX9_chord_50 : decode (z_c zX9_chord) 50 = .ok (.if_icmp .ne 6, 3) := by decide +kernel
theorem dX9_chord_53 : decode (z_c zX9_chord) 53 = .ok (.bipush (-4), 2) := by decide +kernel
theorem dX9_chord_55 : decode (z_c zX9_chord) 55 = .ok (.ireturn, 1) := by decide +kernel
theorem dX9_chord_56 : decode (z_c zX9_chord) 56 = .ok (.aload_n 0, 1) := by decide +kernel
theorem dX9_chord_57 : decode (z_c zX9_chord) 57 = .ok (.invokevirtual 186, 3) := by decide +kernel
theorem dX9_chord_60 : decode (z_c zX9_chord) 60 = .ok (.aload_n 0, 1) := by decide +kernel
theorem dX9_chord_61 : decode (z_c zX9_chord) 61 = .ok (.iconst 0, 1) := by decide +kernel
theorem dX9_chord_62 : decode (z_c zX9_chord) 62 = .ok (.invokevirtual 130, 3) := by decide +kernel
theorem dX9_chord_65 : decode (z_c zX9_chord) 65 = .ok (.istore_n 2, 1) := by decide +kernel
theorem dX9_chord_66 : decode (z_c zX9_chord) 66 = .ok (.bipush 100, 2) := by decide +kernel
theorem dX9_chord_68 : decode (z_c zX9_chord) 68 = .ok (.aload_n 0, 1) := by decide +kernel
theorem dX9_chord_69 : decode (z_c zX9_chord) 69 = .ok (.getfield 110, 3) := by decide +kernel
theorem dX9_chord_72 : decode (z_c zX9_chord) 72 = .ok (.iconst 1, 1) := by decide +kernel
theorem dX9_chord_73 : decode (z_c zX9_chord) 73 = .ok (.isub, 1) := by decide +kernel
theorem dX9_chord_74 : decode (z_c zX9_chord) 74 = .ok (.imul, 1) := by decide +kernel
theorem dX9_chord_75 : decode (z_c zX9_chord) 75 = .ok (.istore_n 3, 1) := by decide +kernel
theorem dX9_chord_76 : decode (z_c zX9_chord) 76 = .ok (.iconst 0, 1) := by decide +kernel
theorem dX9_chord_77 : decode (z_c zX9_chord) 77 = .ok (.istore 4, 2) := by decide +kernel
theorem dX9_chord_79 : decode (z_c zX9_chord) 79 = .ok (.iload 4, 2) := by decide +kernel
theorem dX9_chord_81 : decode (z_c zX9_chord) 81 = .ok (.aload_n 0, 1) := by decide +kernel
theorem dX9_chord_82 : decode (z_c zX9_chord) 82 = .ok (.getfield 16, 3) := by decide +kernel
theorem dX9_chord_85 : decode (z_c zX9_chord) 85 = .ok (.if_icmp .ge 47, 3) := by decide +kernel
theorem dX9_chord_88 : decode (z_c zX9_chord) 88 = .ok (.aload_n 0, 1) := by decide +kernel
theorem dX9_chord_89 : decode (z_c zX9_chord) 89 = .ok (.iload_n 1, 1) := by decide +kernel
theorem dX9_chord_90 : decode (z_c zX9_chord) 90 = .ok (.iload 4, 2) := by decide +kernel
theorem dX9_chord_92 : decode (z_c zX9_chord) 92 = .ok (.invokevirtual 138, 3) := by decide +kernel
theorem dX9_chord_95 : decode (z_c zX9_chord) 95 = .ok (.ifCond .eq 31, 3) := by decide +kernel
theorem dX9_chord_98 : decode (z_c zX9_chord) 98 = .ok (.aload_n 0, 1) := by decide +kernel
theorem dX9_chord_99 : decode (z_c zX9_chord) 99 = .ok (.getfield 33, 3) := by decide +kernel
theorem dX9_chord_102 : decode (z_c zX9_chord) 102 = .ok (.iload_n 3, 1) := by decide +kernel
theorem dX9_chord_103 : decode (z_c zX9_chord) 103 = .ok (.iload 4, 2) := by decide +kernel
theorem dX9_chord_105 : decode (z_c zX9_chord) 105 = .ok (.iadd, 1) := by decide +kernel
theorem dX9_chord_106 : decode (z_c zX9_chord) 106 = .ok (.iaload, 1) := by decide +kernel
theorem dX9_chord_107 : decode (z_c zX9_chord) 107 = .ok (.ifCond .ne 19, 3) := by decide +kernel
theorem dX9_chord_110 : decode (z_c zX9_chord) 110 = .ok (.aload_n 0, 1) := by decide +kernel
theorem dX9_chord_111 : decode (z_c zX9_chord) 111 = .ok (.getfield 26, 3) := by decide +kernel
theorem dX9_chord_114 : decode (z_c zX9_chord) 114 = .ok (.iload 4, 2) := by decide +kernel
theorem dX9_chord_116 : decode (z_c zX9_chord) 116 = .ok (.iaload, 1) := by decide +kernel
theorem dX9_chord_117 : decode (z_c zX9_chord) 117 = .ok (.ifCond .ne 9, 3) := by decide +kernel
theorem dX9_chord_120 : decode (z_c zX9_chord) 120 = .ok (.aload_n 0, 1) := by decide +kernel
theorem dX9_chord_121 : decode (z_c zX9_chord) 121 = .ok (.iload 4, 2) := by decide +kernel
theorem dX9_chord_123 : decode (z_c zX9_chord) 123 = .ok (.invokevirtual 151, 3) := by decide +kernel
theorem dX9_chord_126 : decode (z_c zX9_chord) 126 = .ok (.iinc 4 1, 3) := by decide +kernel
theorem dX9_chord_129 : decode (z_c zX9_chord) 129 = .ok (.goto (-50), 3) := by decide +kernel
theorem dX9_chord_132 : decode (z_c zX9_chord) 132 = .ok (.iload_n 2, 1) := by decide +kernel
theorem dX9_chord_133 : decode (z_c zX9_chord) 133 = .ok (.aload_n 0, 1) := by decide +kernel
theorem dX9_chord_134 : decode (z_c zX9_chord) 134 = .ok (.iconst 0, 1) := by decide +kernel
theorem dX9_chord_135 : decode (z_c zX9_chord) 135 = .ok (.invokevirtual 130, 3) := by decide +kernel
theorem dX9_chord_138 : decode (z_c zX9_chord) 138 = .ok (.isub, 1) := by decide +kernel
theorem dX9_chord_139 : decode (z_c zX9_chord) 139 = .ok (.ireturn, 1) := by decide +kernel
theorem dX9_undo_0 : decode (z_c zX9_undo) 0 = .ok (.aload_n 0, 1) := by decide +kernel
theorem dX9_undo_1 : decode (z_c zX9_undo) 1 = .ok (.getfield 110, 3) := by decide +kernel
theorem dX9_undo_4 : decode (z_c zX9_undo) 4 = .ok (.ifCond .ne 6, 3) := by decide +kernel
theorem dX9_undo_7 : decode (z_c zX9_undo) 7 = .ok (.bipush (-2), 2) := by decide +kernel
theorem dX9_undo_9 : decode (z_c zX9_undo) 9 = .ok (.ireturn, 1) := by decide +kernel
theorem dX9_undo_10 : decode (z_c zX9_undo) 10 = .ok (.aload_n 0, 1) := by decide +kernel
theorem dX9_undo_11 : decode (z_c zX9_undo) 11 = .ok (.dup, 1) := by decide +kernel
theorem dX9_undo_12 : decode (z_c zX9_undo) 12 = .ok (.getfield 110, 3) := by decide +kernel
theorem dX9_undo_15 : decode (z_c zX9_undo) 15 = .ok (.iconst 1, 1) := by decide +kernel
theorem dX9_undo_16 : decode (z_c zX9_undo) 16 = .ok (.isub, 1) := by decide +kernel
theorem dX9_undo_17 : decode (z_c zX9_undo) 17 = .ok (.putfield 110, 3) := by decide +kernel
theorem dX9_undo_20 : decode (z_c zX9_undo) 20 = .ok (.iconst 0, 1) := by decide +kernel
theorem dX9_undo_21 : decode (z_c zX9_undo) 21 = .ok (.istore_n 1, 1) := by decide +kernel
theorem dX9_undo_22 : decode (z_c zX9_undo) 22 = .ok (.iload_n 1, 1) := by decide +kernel
theorem dX9_undo_23 : decode (z_c zX9_undo) 23 = .ok (.aload_n 0, 1) := by decide +kernel
theorem dX9_undo_24 : decode (z_c zX9_undo) 24 = .ok (.getfield 16, 3) := by decide +kernel
theorem dX9_undo_27 : decode (z_c zX9_undo) 27 = .ok (.if_icmp .ge 60, 3) := by decide +kernel
theorem dX9_undo_30 : decode (z_c zX9_undo) 30 = .ok (.aload_n 0, 1) := by decide +kernel
theorem dX9_undo_31 : decode (z_c zX9_undo) 31 = .ok (.getfield 26, 3) := by decide +kernel
theorem dX9_undo_34 : decode (z_c zX9_undo) 34 = .ok (.iload_n 1, 1) := by decide +kernel
theorem dX9_undo_35 : decode (z_c zX9_undo) 35 = .ok (.aload_n 0, 1) := by decide +kernel
theorem dX9_undo_36 : decode (z_c zX9_undo) 36 = .ok (.getfield 33, 3) := by decide +kernel
theorem dX9_undo_39 : decode (z_c zX9_undo) 39 = .ok (.bipush 100, 2) := by decide +kernel
theorem dX9_undo_41 : decode (z_c zX9_undo) 41 = .ok (.aload_n 0, 1) := by decide +kernel
theorem dX9_undo_42 : decode (z_c zX9_undo) 42 = .ok (.getfield 110, 3) := by decide +kernel
theorem dX9_undo_45 : decode (z_c zX9_undo) 45 = .ok (.imul, 1) := by decide +kernel
theorem dX9_undo_46 : decode (z_c zX9_undo) 46 = .ok (.iload_n 1, 1) := by decide +kernel
theorem dX9_undo_47 : decode (z_c zX9_undo) 47 = .ok (.iadd, 1) := by decide +kernel
theorem dX9_undo_48 : decode (z_c zX9_undo) 48 = .ok (.iaload, 1) := by decide +kernel
theorem dX9_undo_49 : decode (z_c zX9_undo) 49 = .ok (.iconst 4, 1) := by decide +kernel
theorem dX9_undo_50 : decode (z_c zX9_undo) 50 = .ok (.irem, 1) := by decide +kernel
theorem dX9_undo_51 : decode (z_c zX9_undo) 51 = .ok (.iastore, 1) := by decide +kernel
theorem dX9_undo_52 : decode (z_c zX9_undo) 52 = .ok (.aload_n 0, 1) := by decide +kernel
theorem dX9_undo_53 : decode (z_c zX9_undo) 53 = .ok (.getfield 30, 3) := by decide +kernel
theorem dX9_undo_56 : decode (z_c zX9_undo) 56 = .ok (.iload_n 1, 1) := by decide +kernel
theorem dX9_undo_57 : decode (z_c zX9_undo) 57 = .ok (.aload_n 0, 1) := by decide +kernel
theorem dX9_undo_58 : decode (z_c zX9_undo) 58 = .ok (.getfield 33, 3) := by decide +kernel
theorem dX9_undo_61 : decode (z_c zX9_undo) 61 = .ok (.bipush 100, 2) := by decide +kernel
theorem dX9_undo_63 : decode (z_c zX9_undo) 63 = .ok (.aload_n 0, 1) := by decide +kernel
theorem dX9_undo_64 : decode (z_c zX9_undo) 64 = .ok (.getfield 110, 3) := by decide +kernel
theorem dX9_undo_67 : decode (z_c zX9_undo) 67 = .ok (.imul, 1) := by decide +kernel
theorem dX9_undo_68 : decode (z_c zX9_undo) 68 = .ok (.iload_n 1, 1) := by decide +kernel
theorem dX9_undo_69 : decode (z_c zX9_undo) 69 = .ok (.iadd, 1) := by decide +kernel
theorem dX9_undo_70 : decode (z_c zX9_undo) 70 = .ok (.iaload, 1) := by decide +kernel
theorem dX9_undo_71 : decode (z_c zX9_undo) 71 = .ok (.iconst 4, 1) := by decide +kernel
theorem dX9_undo_72 : decode (z_c zX9_undo) 72 = .ok (.if_icmp .lt 7, 3) := by decide +kernel
theorem dX9_undo_75 : decode (z_c zX9_undo) 75 = .ok (.iconst 1, 1) := by decide +kernel
theorem dX9_undo_76 : decode (z_c zX9_undo) 76 = .ok (.goto 4, 3) := by decide +kernel
theorem dX9_undo_79 : decode (z_c zX9_undo) 79 = .ok (.iconst 0, 1) := by decide +kernel
theorem dX9_undo_80 : decode (z_c zX9_undo) 80 = .ok (.bastore, 1) := by decide +kernel
theorem dX9_undo_81 : decode (z_c zX9_undo) 81 = .ok (.iinc 1 1, 3) := by decide +kernel
theorem dX9_undo_84 : decode (z_c zX9_undo) 84 = .ok (.goto (-62), 3) := by decide +kernel
theorem dX9_undo_87 : decode (z_c zX9_undo) 87 = .ok (.iconst 1, 1) := by decide +kernel
theorem dX9_undo_88 : decode (z_c zX9_undo) 88 = .ok (.ireturn, 1) := by decide +kernel
theorem dX9_shown_0 : decode (z_c zX9_shown) 0 = .ok (.aload_n 0, 1) := by decide +kernel
theorem dX9_shown_1 : decode (z_c zX9_shown) 1 = .ok (.iload_n 1, 1) := by decide +kernel
theorem dX9_shown_2 : decode (z_c zX9_shown) 2 = .ok (.invokevirtual 126, 3) := by decide +kernel
theorem dX9_shown_5 : decode (z_c zX9_shown) 5 = .ok (.ifCond .ne 5, 3) := by decide +kernel
theorem dX9_shown_8 : decode (z_c zX9_shown) 8 = .ok (.iconst (-1), 1) := by decide +kernel
theorem dX9_shown_9 : decode (z_c zX9_shown) 9 = .ok (.ireturn, 1) := by decide +kernel
theorem dX9_shown_10 : decode (z_c zX9_shown) 10 = .ok (.aload_n 0, 1) := by decide +kernel
theorem dX9_shown_11 : decode (z_c zX9_shown) 11 = .ok (.getfield 26, 3) := by decide +kernel
theorem dX9_shown_14 : decode (z_c zX9_shown) 14 = .ok (.iload_n 1, 1) := by decide +kernel
theorem dX9_shown_15 : decode (z_c zX9_shown) 15 = .ok (.iaload, 1) := by decide +kernel
theorem dX9_shown_16 : decode (z_c zX9_shown) 16 = .ok (.ifCond .ne 20, 3) := by decide +kernel
theorem dX9_shown_19 : decode (z_c zX9_shown) 19 = .ok (.aload_n 0, 1) := by decide +kernel
theorem dX9_shown_20 : decode (z_c zX9_shown) 20 = .ok (.getfield 30, 3) := by decide +kernel
theorem dX9_shown_23 : decode (z_c zX9_shown) 23 = .ok (.iload_n 1, 1) := by decide +kernel
theorem dX9_shown_24 : decode (z_c zX9_shown) 24 = .ok (.baload, 1) := by decide +kernel
theorem dX9_shown_25 : decode (z_c zX9_shown) 25 = .ok (.ifCond .eq 8, 3) := by decide +kernel
theorem dX9_shown_28 : decode (z_c zX9_shown) 28 = .ok (.bipush 10, 2) := by decide +kernel
theorem dX9_shown_30 : decode (z_c zX9_shown) 30 = .ok (.goto 5, 3) := by decide +kernel
theorem dX9_shown_33 : decode (z_c zX9_shown) 33 = .ok (.bipush 9, 2) := by decide +kernel
theorem dX9_shown_35 : decode (z_c zX9_shown) 35 = .ok (.ireturn, 1) := by decide +kernel
theorem dX9_shown_36 : decode (z_c zX9_shown) 36 = .ok (.aload_n 0, 1) := by decide +kernel
theorem dX9_shown_37 : decode (z_c zX9_shown) 37 = .ok (.getfield 26, 3) := by decide +kernel
theorem dX9_shown_40 : decode (z_c zX9_shown) 40 = .ok (.iload_n 1, 1) := by decide +kernel
theorem dX9_shown_41 : decode (z_c zX9_shown) 41 = .ok (.iaload, 1) := by decide +kernel
theorem dX9_shown_42 : decode (z_c zX9_shown) 42 = .ok (.iconst 1, 1) := by decide +kernel
theorem dX9_shown_43 : decode (z_c zX9_shown) 43 = .ok (.if_icmp .ne 11, 3) := by decide +kernel
theorem dX9_shown_46 : decode (z_c zX9_shown) 46 = .ok (.aload_n 0, 1) := by decide +kernel
theorem dX9_shown_47 : decode (z_c zX9_shown) 47 = .ok (.iload_n 1, 1) := by decide +kernel
theorem dX9_shown_48 : decode (z_c zX9_shown) 48 = .ok (.invokevirtual 142, 3) := by decide +kernel
theorem dX9_shown_51 : decode (z_c zX9_shown) 51 = .ok (.goto 5, 3) := by decide +kernel
theorem dX9_shown_54 : decode (z_c zX9_shown) 54 = .ok (.bipush 11, 2) := by decide +kernel
theorem dX9_shown_56 : decode (z_c zX9_shown) 56 = .ok (.ireturn, 1) := by decide +kernel
theorem dX9_solved_0 : decode (z_c zX9_solved) 0 = .ok (.aload_n 0, 1) := by decide +kernel
theorem dX9_solved_1 : decode (z_c zX9_solved) 1 = .ok (.invokevirtual 155, 3) := by decide +kernel
theorem dX9_solved_4 : decode (z_c zX9_solved) 4 = .ok (.ireturn, 1) := by decide +kernel
theorem dX9_isBare_0 : decode (z_c zX9_isBare) 0 = .ok (.aload_n 0, 1) := by decide +kernel
theorem dX9_isBare_1 : decode (z_c zX9_isBare) 1 = .ok (.getfield 26, 3) := by decide +kernel
theorem dX9_isBare_4 : decode (z_c zX9_isBare) 4 = .ok (.iload_n 1, 1) := by decide +kernel
theorem dX9_isBare_5 : decode (z_c zX9_isBare) 5 = .ok (.iaload, 1) := by decide +kernel
theorem dX9_isBare_6 : decode (z_c zX9_isBare) 6 = .ok (.ifCond .ne 24, 3) := by decide +kernel
theorem dX9_isBare_9 : decode (z_c zX9_isBare) 9 = .ok (.aload_n 0, 1) := by decide +kernel
theorem dX9_isBare_10 : decode (z_c zX9_isBare) 10 = .ok (.getfield 23, 3) := by decide +kernel
theorem dX9_isBare_13 : decode (z_c zX9_isBare) 13 = .ok (.iload_n 1, 1) := by decide +kernel
theorem dX9_isBare_14 : decode (z_c zX9_isBare) 14 = .ok (.baload, 1) := by decide +kernel
theorem dX9_isBare_15 : decode (z_c zX9_isBare) 15 = .ok (.ifCond .ne 15, 3) := by decide +kernel
theorem dX9_isBare_18 : decode (z_c zX9_isBare) 18 = .ok (.aload_n 0, 1) := by decide +kernel
theorem dX9_isBare_19 : decode (z_c zX9_isBare) 19 = .ok (.iload_n 1, 1) := by decide +kernel
theorem dX9_isBare_20 : decode (z_c zX9_isBare) 20 = .ok (.invokevirtual 142, 3) := by decide +kernel
theorem dX9_isBare_23 : decode (z_c zX9_isBare) 23 = .ok (.ifCond .ne 7, 3) := by decide +kernel
theorem dX9_isBare_26 : decode (z_c zX9_isBare) 26 = .ok (.iconst 1, 1) := by decide +kernel
theorem dX9_isBare_27 : decode (z_c zX9_isBare) 27 = .ok (.goto 4, 3) := by decide +kernel
theorem dX9_isBare_30 : decode (z_c zX9_isBare) 30 = .ok (.iconst 0, 1) := by decide +kernel
theorem dX9_isBare_31 : decode (z_c zX9_isBare) 31 = .ok (.ireturn, 1) := by decide +kernel
theorem dX9_clicks_0 : decode (z_c zX9_clicks) 0 = .ok (.iconst 0, 1) := by decide +kernel
theorem dX9_clicks_1 : decode (z_c zX9_clicks) 1 = .ok (.istore_n 1, 1) := by decide +kernel
theorem dX9_clicks_2 : decode (z_c zX9_clicks) 2 = .ok (.iconst 0, 1) := by decide +kernel
theorem dX9_clicks_3 : decode (z_c zX9_clicks) 3 = .ok (.istore_n 2, 1) := by decide +kernel
theorem dX9_clicks_4 : decode (z_c zX9_clicks) 4 = .ok (.iload_n 2, 1) := by decide +kernel
theorem dX9_clicks_5 : decode (z_c zX9_clicks) 5 = .ok (.aload_n 0, 1) := by decide +kernel
theorem dX9_clicks_6 : decode (z_c zX9_clicks) 6 = .ok (.getfield 16, 3) := by decide +kernel
theorem dX9_clicks_9 : decode (z_c zX9_clicks) 9 = .ok (.if_icmp .ge 28, 3) := by decide +kernel
theorem dX9_clicks_12 : decode (z_c zX9_clicks) 12 = .ok (.aload_n 0, 1) := by decide +kernel
theorem dX9_clicks_13 : decode (z_c zX9_clicks) 13 = .ok (.getfield 69, 3) := by decide +kernel
theorem dX9_clicks_16 : decode (z_c zX9_clicks) 16 = .ok (.iload_n 2, 1) := by decide +kernel
theorem dX9_clicks_17 : decode (z_c zX9_clicks) 17 = .ok (.aload_n 0, 1) := by decide +kernel
theorem dX9_clicks_18 : decode (z_c zX9_clicks) 18 = .ok (.iload_n 2, 1) := by decide +kernel
theorem dX9_clicks_19 : decode (z_c zX9_clicks) 19 = .ok (.invokevirtual 192, 3) := by decide +kernel
theorem dX9_clicks_22 : decode (z_c zX9_clicks) 22 = .ok (.ifCond .eq 7, 3) := by decide +kernel
theorem dX9_clicks_25 : decode (z_c zX9_clicks) 25 = .ok (.iload_n 2, 1) := by decide +kernel
theorem dX9_clicks_26 : decode (z_c zX9_clicks) 26 = .ok (.goto 4, 3) := by decide +kernel
theorem dX9_clicks_29 : decode (z_c zX9_clicks) 29 = .ok (.iconst (-1), 1) := by decide +kernel
theorem dX9_clicks_30 : decode (z_c zX9_clicks) 30 = .ok (.iastore, 1) := by decide +kernel
theorem dX9_clicks_31 : decode (z_c zX9_clicks) 31 = .ok (.iinc 2 1, 3) := by decide +kernel
theorem dX9_clicks_34 : decode (z_c zX9_clicks) 34 = .ok (.goto (-30), 3) := by decide +kernel
theorem dX9_clicks_37 : decode (z_c zX9_clicks) 37 = .ok (.iconst 0, 1) := by decide +kernel
theorem dX9_clicks_38 : decode (z_c zX9_clicks) 38 = .ok (.istore_n 2, 1) := by decide +kernel
theorem dX9_clicks_39 : decode (z_c zX9_clicks) 39 = .ok (.iload_n 2, 1) := by decide +kernel
theorem dX9_clicks_40 : decode (z_c zX9_clicks) 40 = .ok (.aload_n 0, 1) := by decide +kernel
theorem dX9_clicks_41 : decode (z_c zX9_clicks) 41 = .ok (.getfield 16, 3) := by decide +kernel
theorem dX9_clicks_44 : decode (z_c zX9_clicks) 44 = .ok (.if_icmp .ge 101, 3) := by decide +kernel
theorem dX9_clicks_47 : decode (z_c zX9_clicks) 47 = .ok (.iconst 0, 1) := by decide +kernel
theorem dX9_clicks_48 : decode (z_c zX9_clicks) 48 = .ok (.istore_n 3, 1) := by decide +kernel
theorem dX9_clicks_49 : decode (z_c zX9_clicks) 49 = .ok (.iload_n 3, 1) := by decide +kernel
theorem dX9_clicks_50 : decode (z_c zX9_clicks) 50 = .ok (.aload_n 0, 1) := by decide +kernel
theorem dX9_clicks_51 : decode (z_c zX9_clicks) 51 = .ok (.getfield 16, 3) := by decide +kernel
theorem dX9_clicks_54 : decode (z_c zX9_clicks) 54 = .ok (.if_icmp .ge 85, 3) := by decide +kernel
theorem dX9_clicks_57 : decode (z_c zX9_clicks) 57 = .ok (.iconst 0, 1) := by decide +kernel
theorem dX9_clicks_58 : decode (z_c zX9_clicks) 58 = .ok (.istore 4, 2) := by decide +kernel
theorem dX9_clicks_60 : decode (z_c zX9_clicks) 60 = .ok (.iload 4, 2) := by decide +kernel
theorem dX9_clicks_62 : decode (z_c zX9_clicks) 62 = .ok (.aload_n 0, 1) := by decide +kernel
theorem dX9_clicks_63 : decode (z_c zX9_clicks) 63 = .ok (.getfield 16, 3) := by decide +kernel
theorem dX9_clicks_66 : decode (z_c zX9_clicks) 66 = .ok (.if_icmp .ge 67, 3) := by decide +kernel
theorem dX9_clicks_69 : decode (z_c zX9_clicks) 69 = .ok (.aload_n 0, 1) := by decide +kernel
theorem dX9_clicks_70 : decode (z_c zX9_clicks) 70 = .ok (.iload_n 3, 1) := by decide +kernel
theorem dX9_clicks_71 : decode (z_c zX9_clicks) 71 = .ok (.iload 4, 2) := by decide +kernel
theorem dX9_clicks_73 : decode (z_c zX9_clicks) 73 = .ok (.invokevirtual 138, 3) := by decide +kernel
theorem dX9_clicks_76 : decode (z_c zX9_clicks) 76 = .ok (.ifCond .eq 51, 3) := by decide +kernel
theorem dX9_clicks_79 : decode (z_c zX9_clicks) 79 = .ok (.aload_n 0, 1) := by decide +kernel
theorem dX9_clicks_80 : decode (z_c zX9_clicks) 80 = .ok (.getfield 69, 3) := by decide +kernel
theorem dX9_clicks_83 : decode (z_c zX9_clicks) 83 = .ok (.iload_n 3, 1) := by decide +kernel
theorem dX9_clicks_84 : decode (z_c zX9_clicks) 84 = .ok (.iaload, 1) := by decide +kernel
theorem dX9_clicks_85 : decode (z_c zX9_clicks) 85 = .ok (.ifCond .lt 42, 3) := by decide +kernel
theorem dX9_clicks_88 : decode (z_c zX9_clicks) 88 = .ok (.aload_n 0, 1) := by decide +kernel
theorem dX9_clicks_89 : decode (z_c zX9_clicks) 89 = .ok (.getfield 69, 3) := by decide +kernel
theorem dX9_clicks_92 : decode (z_c zX9_clicks) 92 = .ok (.iload 4, 2) := by decide +kernel
theorem dX9_clicks_94 : decode (z_c zX9_clicks) 94 = .ok (.iaload, 1) := by decide +kernel
theorem dX9_clicks_95 : decode (z_c zX9_clicks) 95 = .ok (.ifCond .lt 32, 3) := by decide +kernel
theorem dX9_clicks_98 : decode (z_c zX9_clicks) 98 = .ok (.aload_n 0, 1) := by decide +kernel
theorem dX9_clicks_99 : decode (z_c zX9_clicks) 99 = .ok (.getfield 69, 3) := by decide +kernel
theorem dX9_clicks_102 : decode (z_c zX9_clicks) 102 = .ok (.iload 4, 2) := by decide +kernel
theorem dX9_clicks_104 : decode (z_c zX9_clicks) 104 = .ok (.iaload, 1) := by decide +kernel
theorem dX9_clicks_105 : decode (z_c zX9_clicks) 105 = .ok (.aload_n 0, 1) := by decide +kernel
theorem dX9_clicks_106 : decode (z_c zX9_clicks) 106 = .ok (.getfield 69, 3) := by decide +kernel
theorem dX9_clicks_109 : decode (z_c zX9_clicks) 109 = .ok (.iload_n 3, 1) := by decide +kernel
theorem dX9_clicks_110 : decode (z_c zX9_clicks) 110 = .ok (.iaload, 1) := by decide +kernel
theorem dX9_clicks_111 : decode (z_c zX9_clicks) 111 = .ok (.if_icmp .ge 16, 3) := by decide +kernel
theorem dX9_clicks_114 : decode (z_c zX9_clicks) 114 = .ok (.aload_n 0, 1) := by decide +kernel
theorem dX9_clicks_115 : decode (z_c zX9_clicks) 115 = .ok (.getfield 69, 3) := by decide +kernel
theorem dX9_clicks_118 : decode (z_c zX9_clicks) 118 = .ok (.iload_n 3, 1) := by decide +kernel
theorem dX9_clicks_119 : decode (z_c zX9_clicks) 119 = .ok (.aload_n 0, 1) := by decide +kernel
theorem dX9_clicks_120 : decode (z_c zX9_clicks) 120 = .ok (.getfield 69, 3) := by decide +kernel
theorem dX9_clicks_123 : decode (z_c zX9_clicks) 123 = .ok (.iload 4, 2) := by decide +kernel
theorem dX9_clicks_125 : decode (z_c zX9_clicks) 125 = .ok (.iaload, 1) := by decide +kernel
theorem dX9_clicks_126 : decode (z_c zX9_clicks) 126 = .ok (.iastore, 1) := by decide +kernel
theorem dX9_clicks_127 : decode (z_c zX9_clicks) 127 = .ok (.iinc 4 1, 3) := by decide +kernel
theorem dX9_clicks_130 : decode (z_c zX9_clicks) 130 = .ok (.goto (-70), 3) := by decide +kernel
theorem dX9_clicks_133 : decode (z_c zX9_clicks) 133 = .ok (.iinc 3 1, 3) := by decide +kernel
theorem dX9_clicks_136 : decode (z_c zX9_clicks) 136 = .ok (.goto (-87), 3) := by decide +kernel
theorem dX9_clicks_139 : decode (z_c zX9_clicks) 139 = .ok (.iinc 2 1, 3) := by decide +kernel
theorem dX9_clicks_142 : decode (z_c zX9_clicks) 142 = .ok (.goto (-103), 3) := by decide +kernel
theorem dX9_clicks_145 : decode (z_c zX9_clicks) 145 = .ok (.iconst 0, 1) := by decide +kernel
theorem dX9_clicks_146 : decode (z_c zX9_clicks) 146 = .ok (.istore_n 2, 1) := by decide +kernel
theorem dX9_clicks_147 : decode (z_c zX9_clicks) 147 = .ok (.iload_n 2, 1) := by decide +kernel
theorem dX9_clicks_148 : decode (z_c zX9_clicks) 148 = .ok (.aload_n 0, 1) := by decide +kernel
theorem dX9_clicks_149 : decode (z_c zX9_clicks) 149 = .ok (.getfield 16, 3) := by decide +kernel
theorem dX9_clicks_152 : decode (z_c zX9_clicks) 152 = .ok (.if_icmp .ge 112, 3) := by decide +kernel
theorem dX9_clicks_155 : decode (z_c zX9_clicks) 155 = .ok (.aload_n 0, 1) := by decide +kernel
theorem dX9_clicks_156 : decode (z_c zX9_clicks) 156 = .ok (.getfield 26, 3) := by decide +kernel
theorem dX9_clicks_159 : decode (z_c zX9_clicks) 159 = .ok (.iload_n 2, 1) := by decide +kernel
theorem dX9_clicks_160 : decode (z_c zX9_clicks) 160 = .ok (.iaload, 1) := by decide +kernel
theorem dX9_clicks_161 : decode (z_c zX9_clicks) 161 = .ok (.ifCond .ne 25, 3) := by decide +kernel
theorem dX9_clicks_164 : decode (z_c zX9_clicks) 164 = .ok (.aload_n 0, 1) := by decide +kernel
theorem dX9_clicks_165 : decode (z_c zX9_clicks) 165 = .ok (.getfield 23, 3) := by decide +kernel
theorem dX9_clicks_168 : decode (z_c zX9_clicks) 168 = .ok (.iload_n 2, 1) := by decide +kernel
theorem dX9_clicks_169 : decode (z_c zX9_clicks) 169 = .ok (.baload, 1) := by decide +kernel
theorem dX9_clicks_170 : decode (z_c zX9_clicks) 170 = .ok (.ifCond .ne 16, 3) := by decide +kernel
theorem dX9_clicks_173 : decode (z_c zX9_clicks) 173 = .ok (.aload_n 0, 1) := by decide +kernel
theorem dX9_clicks_174 : decode (z_c zX9_clicks) 174 = .ok (.getfield 69, 3) := by decide +kernel
theorem dX9_clicks_177 : decode (z_c zX9_clicks) 177 = .ok (.iload_n 2, 1) := by decide +kernel
theorem dX9_clicks_178 : decode (z_c zX9_clicks) 178 = .ok (.iaload, 1) := by decide +kernel
theorem dX9_clicks_179 : decode (z_c zX9_clicks) 179 = .ok (.ifCond .ge 7, 3) := by decide +kernel
theorem dX9_clicks_182 : decode (z_c zX9_clicks) 182 = .ok (.iconst 1, 1) := by decide +kernel
theorem dX9_clicks_183 : decode (z_c zX9_clicks) 183 = .ok (.goto 4, 3) := by decide +kernel
theorem dX9_clicks_186 : decode (z_c zX9_clicks) 186 = .ok (.iconst 0, 1) := by decide +kernel
theorem dX9_clicks_187 : decode (z_c zX9_clicks) 187 = .ok (.istore_n 3, 1) := by decide +kernel
theorem dX9_clicks_188 : decode (z_c zX9_clicks) 188 = .ok (.iconst 0, 1) := by decide +kernel
theorem dX9_clicks_189 : decode (z_c zX9_clicks) 189 = .ok (.istore 4, 2) := by decide +kernel
theorem dX9_clicks_191 : decode (z_c zX9_clicks) 191 = .ok (.iload 4, 2) := by decide +kernel
theorem dX9_clicks_193 : decode (z_c zX9_clicks) 193 = .ok (.aload_n 0, 1) := by decide +kernel
theorem dX9_clicks_194 : decode (z_c zX9_clicks) 194 = .ok (.getfield 16, 3) := by decide +kernel
theorem dX9_clicks_197 : decode (z_c zX9_clicks) 197 = .ok (.if_icmp .ge 39, 3) := by decide +kernel
theorem dX9_clicks_200 : decode (z_c zX9_clicks) 200 = .ok (.iload_n 3, 1) := by decide +kernel
theorem dX9_clicks_201 : decode (z_c zX9_clicks) 201 = .ok (.ifCond .eq 27, 3) := by decide +kernel
theorem dX9_clicks_204 : decode (z_c zX9_clicks) 204 = .ok (.aload_n 0, 1) := by decide +kernel
theorem dX9_clicks_205 : decode (z_c zX9_clicks) 205 = .ok (.iload_n 2, 1) := by decide +kernel
theorem dX9_clicks_206 : decode (z_c zX9_clicks) 206 = .ok (.iload 4, 2) := by decide +kernel
theorem dX9_clicks_208 : decode (z_c zX9_clicks) 208 = .ok (.invokevirtual 138, 3) := by decide +kernel
theorem dX9_clicks_211 : decode (z_c zX9_clicks) 211 = .ok (.ifCond .eq 13, 3) := by decide +kernel
theorem dX9_clicks_214 : decode (z_c zX9_clicks) 214 = .ok (.aload_n 0, 1) := by decide +kernel
theorem dX9_clicks_215 : decode (z_c zX9_clicks) 215 = .ok (.getfield 69, 3) := by decide +kernel
theorem dX9_clicks_218 : decode (z_c zX9_clicks) 218 = .ok (.iload 4, 2) := by decide +kernel
theorem dX9_clicks_220 : decode (z_c zX9_clicks) 220 = .ok (.iaload, 1) := by decide +kernel
theorem dX9_clicks_221 : decode (z_c zX9_clicks) 221 = .ok (.ifCond .ge 7, 3) := by decide +kernel
theorem dX9_clicks_224 : decode (z_c zX9_clicks) 224 = .ok (.iconst 1, 1) := by decide +kernel
theorem dX9_clicks_225 : decode (z_c zX9_clicks) 225 = .ok (.goto 4, 3) := by decide +kernel
theorem dX9_clicks_228 : decode (z_c zX9_clicks) 228 = .ok (.iconst 0, 1) := by decide +kernel
theorem dX9_clicks_229 : decode (z_c zX9_clicks) 229 = .ok (.istore_n 3, 1) := by decide +kernel
theorem dX9_clicks_230 : decode (z_c zX9_clicks) 230 = .ok (.iinc 4 1, 3) := by decide +kernel
theorem dX9_clicks_233 : decode (z_c zX9_clicks) 233 = .ok (.goto (-42), 3) := by decide +kernel
theorem dX9_clicks_236 : decode (z_c zX9_clicks) 236 = .ok (.iload_n 1, 1) := by decide +kernel
theorem dX9_clicks_237 : decode (z_c zX9_clicks) 237 = .ok (.aload_n 0, 1) := by decide +kernel
theorem dX9_clicks_238 : decode (z_c zX9_clicks) 238 = .ok (.getfield 69, 3) := by decide +kernel
theorem dX9_clicks_241 : decode (z_c zX9_clicks) 241 = .ok (.iload_n 2, 1) := by decide +kernel
theorem dX9_clicks_242 : decode (z_c zX9_clicks) 242 = .ok (.iaload, 1) := by decide +kernel
theorem dX9_clicks_243 : decode (z_c zX9_clicks) 243 = .ok (.iload_n 2, 1) := by decide +kernel
theorem dX9_clicks_244 : decode (z_c zX9_clicks) 244 = .ok (.if_icmp .eq 7, 3) := by decide +kernel
theorem dX9_clicks_247 : decode (z_c zX9_clicks) 247 = .ok (.iload_n 3, 1) := by decide +kernel
theorem dX9_clicks_248 : decode (z_c zX9_clicks) 248 = .ok (.ifCond .eq 7, 3) := by decide +kernel
theorem dX9_clicks_251 : decode (z_c zX9_clicks) 251 = .ok (.iconst 1, 1) := by decide +kernel
theorem dX9_clicks_252 : decode (z_c zX9_clicks) 252 = .ok (.goto 4, 3) := by decide +kernel
theorem dX9_clicks_255 : decode (z_c zX9_clicks) 255 = .ok (.iconst 0, 1) := by decide +kernel
theorem dX9_clicks_256 : decode (z_c zX9_clicks) 256 = .ok (.iadd, 1) := by decide +kernel
theorem dX9_clicks_257 : decode (z_c zX9_clicks) 257 = .ok (.istore_n 1, 1) := by decide +kernel
theorem dX9_clicks_258 : decode (z_c zX9_clicks) 258 = .ok (.iinc 2 1, 3) := by decide +kernel
theorem dX9_clicks_261 : decode (z_c zX9_clicks) 261 = .ok (.goto (-114), 3) := by decide +kernel
theorem dX9_clicks_264 : decode (z_c zX9_clicks) 264 = .ok (.iload_n 1, 1) := by decide +kernel
theorem dX9_clicks_265 : decode (z_c zX9_clicks) 265 = .ok (.ireturn, 1) := by decide +kernel
theorem dX9_isUnsure_0 : decode (z_c zX9_isUnsure) 0 = .ok (.aload_n 0, 1) := by decide +kernel
theorem dX9_isUnsure_1 : decode (z_c zX9_isUnsure) 1 = .ok (.iload_n 1, 1) := by decide +kernel
theorem dX9_isUnsure_2 : decode (z_c zX9_isUnsure) 2 = .ok (.iload_n 2, 1) := by decide +kernel
theorem dX9_isUnsure_3 : decode (z_c zX9_isUnsure) 3 = .ok (.invokevirtual 138, 3) := by decide +kernel
theorem dX9_isUnsure_6 : decode (z_c zX9_isUnsure) 6 = .ok (.ifCond .eq 25, 3) := by decide +kernel
theorem dX9_isUnsure_9 : decode (z_c zX9_isUnsure) 9 = .ok (.aload_n 0, 1) := by decide +kernel
theorem dX9_isUnsure_10 : decode (z_c zX9_isUnsure) 10 = .ok (.getfield 26, 3) := by decide +kernel
theorem dX9_isUnsure_13 : decode (z_c zX9_isUnsure) 13 = .ok (.iload_n 2, 1) := by decide +kernel
theorem dX9_isUnsure_14 : decode (z_c zX9_isUnsure) 14 = .ok (.iaload, 1) := by decide +kernel
theorem dX9_isUnsure_15 : decode (z_c zX9_isUnsure) 15 = .ok (.ifCond .ne 16, 3) := by decide +kernel
theorem dX9_isUnsure_18 : decode (z_c zX9_isUnsure) 18 = .ok (.aload_n 0, 1) := by decide +kernel
theorem dX9_isUnsure_19 : decode (z_c zX9_isUnsure) 19 = .ok (.getfield 54, 3) := by decide +kernel
theorem dX9_isUnsure_22 : decode (z_c zX9_isUnsure) 22 = .ok (.iload_n 2, 1) := by decide +kernel
theorem dX9_isUnsure_23 : decode (z_c zX9_isUnsure) 23 = .ok (.iaload, 1) := by decide +kernel
theorem dX9_isUnsure_24 : decode (z_c zX9_isUnsure) 24 = .ok (.ifCond .ge 7, 3) := by decide +kernel
theorem dX9_isUnsure_27 : decode (z_c zX9_isUnsure) 27 = .ok (.iconst 1, 1) := by decide +kernel
theorem dX9_isUnsure_28 : decode (z_c zX9_isUnsure) 28 = .ok (.goto 4, 3) := by decide +kernel
theorem dX9_isUnsure_31 : decode (z_c zX9_isUnsure) 31 = .ok (.iconst 0, 1) := by decide +kernel
theorem dX9_isUnsure_32 : decode (z_c zX9_isUnsure) 32 = .ok (.ireturn, 1) := by decide +kernel
theorem dX9_unsure_0 : decode (z_c zX9_unsure) 0 = .ok (.iconst 0, 1) := by decide +kernel
theorem dX9_unsure_1 : decode (z_c zX9_unsure) 1 = .ok (.istore_n 2, 1) := by decide +kernel
theorem dX9_unsure_2 : decode (z_c zX9_unsure) 2 = .ok (.iconst 0, 1) := by decide +kernel
theorem dX9_unsure_3 : decode (z_c zX9_unsure) 3 = .ok (.istore_n 3, 1) := by decide +kernel
theorem dX9_unsure_4 : decode (z_c zX9_unsure) 4 = .ok (.iload_n 3, 1) := by decide +kernel
theorem dX9_unsure_5 : decode (z_c zX9_unsure) 5 = .ok (.aload_n 0, 1) := by decide +kernel
theorem dX9_unsure_6 : decode (z_c zX9_unsure) 6 = .ok (.getfield 16, 3) := by decide +kernel
theorem dX9_unsure_9 : decode (z_c zX9_unsure) 9 = .ok (.if_icmp .ge 26, 3) := by decide +kernel
theorem dX9_unsure_12 : decode (z_c zX9_unsure) 12 = .ok (.iload_n 2, 1) := by decide +kernel
theorem dX9_unsure_13 : decode (z_c zX9_unsure) 13 = .ok (.aload_n 0, 1) := by decide +kernel
theorem dX9_unsure_14 : decode (z_c zX9_unsure) 14 = .ok (.iload_n 1, 1) := by decide +kernel
theorem dX9_unsure_15 : decode (z_c zX9_unsure) 15 = .ok (.iload_n 3, 1) := by decide +kernel
theorem dX9_unsure_16 : decode (z_c zX9_unsure) 16 = .ok (.invokevirtual 195, 3) := by decide +kernel
theorem dX9_unsure_19 : decode (z_c zX9_unsure) 19 = .ok (.ifCond .eq 7, 3) := by decide +kernel
theorem dX9_unsure_22 : decode (z_c zX9_unsure) 22 = .ok (.iconst 1, 1) := by decide +kernel
theorem dX9_unsure_23 : decode (z_c zX9_unsure) 23 = .ok (.goto 4, 3) := by decide +kernel
theorem dX9_unsure_26 : decode (z_c zX9_unsure) 26 = .ok (.iconst 0, 1) := by decide +kernel
theorem dX9_unsure_27 : decode (z_c zX9_unsure) 27 = .ok (.iadd, 1) := by decide +kernel
theorem dX9_unsure_28 : decode (z_c zX9_unsure) 28 = .ok (.istore_n 2, 1) := by decide +kernel
theorem dX9_unsure_29 : decode (z_c zX9_unsure) 29 = .ok (.iinc 3 1, 3) := by decide +kernel
theorem dX9_unsure_32 : decode (z_c zX9_unsure) 32 = .ok (.goto (-28), 3) := by decide +kernel
theorem dX9_unsure_35 : decode (z_c zX9_unsure) 35 = .ok (.iload_n 2, 1) := by decide +kernel
theorem dX9_unsure_36 : decode (z_c zX9_unsure) 36 = .ok (.ireturn, 1) := by decide +kernel
theorem dX9_due_0 : decode (z_c zX9_due) 0 = .ok (.aload_n 0, 1) := by decide +kernel
theorem dX9_due_1 : decode (z_c zX9_due) 1 = .ok (.iload_n 1, 1) := by decide +kernel
theorem dX9_due_2 : decode (z_c zX9_due) 2 = .ok (.invokevirtual 142, 3) := by decide +kernel
theorem dX9_due_5 : decode (z_c zX9_due) 5 = .ok (.aload_n 0, 1) := by decide +kernel
theorem dX9_due_6 : decode (z_c zX9_due) 6 = .ok (.iload_n 1, 1) := by decide +kernel
theorem dX9_due_7 : decode (z_c zX9_due) 7 = .ok (.iconst 2, 1) := by decide +kernel
theorem dX9_due_8 : decode (z_c zX9_due) 8 = .ok (.invokevirtual 165, 3) := by decide +kernel
theorem dX9_due_11 : decode (z_c zX9_due) 11 = .ok (.isub, 1) := by decide +kernel
theorem dX9_due_12 : decode (z_c zX9_due) 12 = .ok (.istore_n 2, 1) := by decide +kernel
theorem dX9_due_13 : decode (z_c zX9_due) 13 = .ok (.iconst 0, 1) := by decide +kernel
theorem dX9_due_14 : decode (z_c zX9_due) 14 = .ok (.istore_n 3, 1) := by decide +kernel
theorem dX9_due_15 : decode (z_c zX9_due) 15 = .ok (.iload_n 3, 1) := by decide +kernel
theorem dX9_due_16 : decode (z_c zX9_due) 16 = .ok (.aload_n 0, 1) := by decide +kernel
theorem dX9_due_17 : decode (z_c zX9_due) 17 = .ok (.getfield 16, 3) := by decide +kernel
theorem dX9_due_20 : decode (z_c zX9_due) 20 = .ok (.if_icmp .ge 36, 3) := by decide +kernel
theorem dX9_due_23 : decode (z_c zX9_due) 23 = .ok (.iload_n 2, 1) := by decide +kernel
theorem dX9_due_24 : decode (z_c zX9_due) 24 = .ok (.aload_n 0, 1) := by decide +kernel
theorem dX9_due_25 : decode (z_c zX9_due) 25 = .ok (.iload_n 1, 1) := by decide +kernel
theorem dX9_due_26 : decode (z_c zX9_due) 26 = .ok (.iload_n 3, 1) := by decide +kernel
theorem dX9_due_27 : decode (z_c zX9_due) 27 = .ok (.invokevirtual 138, 3) := by decide +kernel
theorem dX9_due_30 : decode (z_c zX9_due) 30 = .ok (.ifCond .eq 17, 3) := by decide +kernel
theorem dX9_due_33 : decode (z_c zX9_due) 33 = .ok (.aload_n 0, 1) := by decide +kernel
theorem dX9_due_34 : decode (z_c zX9_due) 34 = .ok (.getfield 54, 3) := by decide +kernel
theorem dX9_due_37 : decode (z_c zX9_due) 37 = .ok (.iload_n 3, 1) := by decide +kernel
theorem dX9_due_38 : decode (z_c zX9_due) 38 = .ok (.iaload, 1) := by decide +kernel
theorem dX9_due_39 : decode (z_c zX9_due) 39 = .ok (.iconst 1, 1) := by decide +kernel
theorem dX9_due_40 : decode (z_c zX9_due) 40 = .ok (.if_icmp .ne 7, 3) := by decide +kernel
theorem dX9_due_43 : decode (z_c zX9_due) 43 = .ok (.iconst 1, 1) := by decide +kernel
theorem dX9_due_44 : decode (z_c zX9_due) 44 = .ok (.goto 4, 3) := by decide +kernel
theorem dX9_due_47 : decode (z_c zX9_due) 47 = .ok (.iconst 0, 1) := by decide +kernel
theorem dX9_due_48 : decode (z_c zX9_due) 48 = .ok (.isub, 1) := by decide +kernel
theorem dX9_due_49 : decode (z_c zX9_due) 49 = .ok (.istore_n 2, 1) := by decide +kernel
theorem dX9_due_50 : decode (z_c zX9_due) 50 = .ok (.iinc 3 1, 3) := by decide +kernel
theorem dX9_due_53 : decode (z_c zX9_due) 53 = .ok (.goto (-38), 3) := by decide +kernel
theorem dX9_due_56 : decode (z_c zX9_due) 56 = .ok (.iload_n 2, 1) := by decide +kernel
theorem dX9_due_57 : decode (z_c zX9_due) 57 = .ok (.ireturn, 1) := by decide +kernel
theorem dX9_clearGiven_0 : decode (z_c zX9_clearGiven) 0 = .ok (.iconst 0, 1) := by decide +kernel
theorem dX9_clearGiven_1 : decode (z_c zX9_clearGiven) 1 = .ok (.istore_n 1, 1) := by decide +kernel
theorem dX9_clearGiven_2 : decode (z_c zX9_clearGiven) 2 = .ok (.iload_n 1, 1) := by decide +kernel
theorem dX9_clearGiven_3 : decode (z_c zX9_clearGiven) 3 = .ok (.bipush 100, 2) := by decide +kernel
theorem dX9_clearGiven_5 : decode (z_c zX9_clearGiven) 5 = .ok (.if_icmp .ge 16, 3) := by decide +kernel
theorem dX9_clearGiven_8 : decode (z_c zX9_clearGiven) 8 = .ok (.aload_n 0, 1) := by decide +kernel
theorem dX9_clearGiven_9 : decode (z_c zX9_clearGiven) 9 = .ok (.getfield 60, 3) := by decide +kernel
theorem dX9_clearGiven_12 : decode (z_c zX9_clearGiven) 12 = .ok (.iload_n 1, 1) := by decide +kernel
theorem dX9_clearGiven_13 : decode (z_c zX9_clearGiven) 13 = .ok (.iconst (-1), 1) := by decide +kernel
theorem dX9_clearGiven_14 : decode (z_c zX9_clearGiven) 14 = .ok (.iastore, 1) := by decide +kernel
theorem dX9_clearGiven_15 : decode (z_c zX9_clearGiven) 15 = .ok (.iinc 1 1, 3) := by decide +kernel
theorem dX9_clearGiven_18 : decode (z_c zX9_clearGiven) 18 = .ok (.goto (-16), 3) := by decide +kernel
theorem dX9_clearGiven_21 : decode (z_c zX9_clearGiven) 21 = .ok (.iconst 0, 1) := by decide +kernel
theorem dX9_clearGiven_22 : decode (z_c zX9_clearGiven) 22 = .ok (.istore_n 1, 1) := by decide +kernel
theorem dX9_clearGiven_23 : decode (z_c zX9_clearGiven) 23 = .ok (.iload_n 1, 1) := by decide +kernel
theorem dX9_clearGiven_24 : decode (z_c zX9_clearGiven) 24 = .ok (.bipush 101, 2) := by decide +kernel
theorem dX9_clearGiven_26 : decode (z_c zX9_clearGiven) 26 = .ok (.if_icmp .ge 16, 3) := by decide +kernel
theorem dX9_clearGiven_29 : decode (z_c zX9_clearGiven) 29 = .ok (.aload_n 0, 1) := by decide +kernel
theorem dX9_clearGiven_30 : decode (z_c zX9_clearGiven) 30 = .ok (.getfield 63, 3) := by decide +kernel
theorem dX9_clearGiven_33 : decode (z_c zX9_clearGiven) 33 = .ok (.iload_n 1, 1) := by decide +kernel
theorem dX9_clearGiven_34 : decode (z_c zX9_clearGiven) 34 = .ok (.iconst 0, 1) := by decide +kernel
theorem dX9_clearGiven_35 : decode (z_c zX9_clearGiven) 35 = .ok (.bastore, 1) := by decide +kernel
theorem dX9_clearGiven_36 : decode (z_c zX9_clearGiven) 36 = .ok (.iinc 1 1, 3) := by decide +kernel
theorem dX9_clearGiven_39 : decode (z_c zX9_clearGiven) 39 = .ok (.goto (-16), 3) := by decide +kernel
theorem dX9_clearGiven_42 : decode (z_c zX9_clearGiven) 42 = .ok (.return_, 1) := by decide +kernel
theorem dX9_becauseOf_0 : decode (z_c zX9_becauseOf) 0 = .ok (.aload_n 0, 1) := by decide +kernel
theorem dX9_becauseOf_1 : decode (z_c zX9_becauseOf) 1 = .ok (.getfield 63, 3) := by decide +kernel
theorem dX9_becauseOf_4 : decode (z_c zX9_becauseOf) 4 = .ok (.iload_n 1, 1) := by decide +kernel
theorem dX9_becauseOf_5 : decode (z_c zX9_becauseOf) 5 = .ok (.iconst 1, 1) := by decide +kernel
theorem dX9_becauseOf_6 : decode (z_c zX9_becauseOf) 6 = .ok (.bastore, 1) := by decide +kernel
theorem dX9_becauseOf_7 : decode (z_c zX9_becauseOf) 7 = .ok (.iconst 0, 1) := by decide +kernel
theorem dX9_becauseOf_8 : decode (z_c zX9_becauseOf) 8 = .ok (.istore_n 2, 1) := by decide +kernel
theorem dX9_becauseOf_9 : decode (z_c zX9_becauseOf) 9 = .ok (.iload_n 2, 1) := by decide +kernel
theorem dX9_becauseOf_10 : decode (z_c zX9_becauseOf) 10 = .ok (.aload_n 0, 1) := by decide +kernel
theorem dX9_becauseOf_11 : decode (z_c zX9_becauseOf) 11 = .ok (.getfield 16, 3) := by decide +kernel
theorem dX9_becauseOf_14 : decode (z_c zX9_becauseOf) 14 = .ok (.if_icmp .ge 75, 3) := by decide +kernel
theorem dX9_becauseOf_17 : decode (z_c zX9_becauseOf) 17 = .ok (.aload_n 0, 1) := by decide +kernel
theorem dX9_becauseOf_18 : decode (z_c zX9_becauseOf) 18 = .ok (.iload_n 1, 1) := by decide +kernel
theorem dX9_becauseOf_19 : decode (z_c zX9_becauseOf) 19 = .ok (.iload_n 2, 1) := by decide +kernel
theorem dX9_becauseOf_20 : decode (z_c zX9_becauseOf) 20 = .ok (.invokevirtual 138, 3) := by decide +kernel
theorem dX9_becauseOf_23 : decode (z_c zX9_becauseOf) 23 = .ok (.ifCond .eq 60, 3) := by decide +kernel
theorem dX9_becauseOf_26 : decode (z_c zX9_becauseOf) 26 = .ok (.aload_n 0, 1) := by decide +kernel
theorem dX9_becauseOf_27 : decode (z_c zX9_becauseOf) 27 = .ok (.getfield 54, 3) := by decide +kernel
theorem dX9_becauseOf_30 : decode (z_c zX9_becauseOf) 30 = .ok (.iload_n 2, 1) := by decide +kernel
theorem dX9_becauseOf_31 : decode (z_c zX9_becauseOf) 31 = .ok (.iaload, 1) := by decide +kernel
theorem dX9_becauseOf_32 : decode (z_c zX9_becauseOf) 32 = .ok (.ifCond .lt 51, 3) := by decide +kernel
theorem dX9_becauseOf_35 : decode (z_c zX9_becauseOf) 35 = .ok (.iconst 0, 1) := by decide +kernel
theorem dX9_becauseOf_36 : decode (z_c zX9_becauseOf) 36 = .ok (.istore_n 3, 1) := by decide +kernel
theorem dX9_becauseOf_37 : decode (z_c zX9_becauseOf) 37 = .ok (.iload_n 3, 1) := by decide +kernel
theorem dX9_becauseOf_38 : decode (z_c zX9_becauseOf) 38 = .ok (.bipush 101, 2) := by decide +kernel
theorem dX9_becauseOf_40 : decode (z_c zX9_becauseOf) 40 = .ok (.if_icmp .ge 43, 3) := by decide +kernel
theorem dX9_becauseOf_43 : decode (z_c zX9_becauseOf) 43 = .ok (.aload_n 0, 1) := by decide +kernel
theorem dX9_becauseOf_44 : decode (z_c zX9_becauseOf) 44 = .ok (.getfield 63, 3) := by decide +kernel
theorem dX9_becauseOf_47 : decode (z_c zX9_becauseOf) 47 = .ok (.iload_n 3, 1) := by decide +kernel
theorem dX9_becauseOf_48 : decode (z_c zX9_becauseOf) 48 = .ok (.aload_n 0, 1) := by decide +kernel
theorem dX9_becauseOf_49 : decode (z_c zX9_becauseOf) 49 = .ok (.getfield 63, 3) := by decide +kernel
theorem dX9_becauseOf_52 : decode (z_c zX9_becauseOf) 52 = .ok (.iload_n 3, 1) := by decide +kernel
theorem dX9_becauseOf_53 : decode (z_c zX9_becauseOf) 53 = .ok (.baload, 1) := by decide +kernel
theorem dX9_becauseOf_54 : decode (z_c zX9_becauseOf) 54 = .ok (.ifCond .ne 17, 3) := by decide +kernel
theorem dX9_becauseOf_57 : decode (z_c zX9_becauseOf) 57 = .ok (.aload_n 0, 1) := by decide +kernel
theorem dX9_becauseOf_58 : decode (z_c zX9_becauseOf) 58 = .ok (.getfield 57, 3) := by decide +kernel
theorem dX9_becauseOf_61 : decode (z_c zX9_becauseOf) 61 = .ok (.bipush 101, 2) := by decide +kernel
theorem dX9_becauseOf_63 : decode (z_c zX9_becauseOf) 63 = .ok (.iload_n 2, 1) := by decide +kernel
theorem dX9_becauseOf_64 : decode (z_c zX9_becauseOf) 64 = .ok (.imul, 1) := by decide +kernel
theorem dX9_becauseOf_65 : decode (z_c zX9_becauseOf) 65 = .ok (.iload_n 3, 1) := by decide +kernel
theorem dX9_becauseOf_66 : decode (z_c zX9_becauseOf) 66 = .ok (.iadd, 1) := by decide +kernel
theorem dX9_becauseOf_67 : decode (z_c zX9_becauseOf) 67 = .ok (.baload, 1) := by decide +kernel
theorem dX9_becauseOf_68 : decode (z_c zX9_becauseOf) 68 = .ok (.ifCond .eq 7, 3) := by decide +kernel
theorem dX9_becauseOf_71 : decode (z_c zX9_becauseOf) 71 = .ok (.iconst 1, 1) := by decide +kernel
theorem dX9_becauseOf_72 : decode (z_c zX9_becauseOf) 72 = .ok (.goto 4, 3) := by decide +kernel
theorem dX9_becauseOf_75 : decode (z_c zX9_becauseOf) 75 = .ok (.iconst 0, 1) := by decide +kernel
theorem dX9_becauseOf_76 : decode (z_c zX9_becauseOf) 76 = .ok (.bastore, 1) := by decide +kernel
theorem dX9_becauseOf_77 : decode (z_c zX9_becauseOf) 77 = .ok (.iinc 3 1, 3) := by decide +kernel
theorem dX9_becauseOf_80 : decode (z_c zX9_becauseOf) 80 = .ok (.goto (-43), 3) := by decide +kernel
theorem dX9_becauseOf_83 : decode (z_c zX9_becauseOf) 83 = .ok (.iinc 2 1, 3) := by decide +kernel
theorem dX9_becauseOf_86 : decode (z_c zX9_becauseOf) 86 = .ok (.goto (-77), 3) := by decide +kernel
theorem dX9_becauseOf_89 : decode (z_c zX9_becauseOf) 89 = .ok (.return_, 1) := by decide +kernel
theorem dX9_ruleOne_0 : decode (z_c zX9_ruleOne) 0 = .ok (.iconst 0, 1) := by decide +kernel
theorem dX9_ruleOne_1 : decode (z_c zX9_ruleOne) 1 = .ok (.istore_n 1, 1) := by decide +kernel
theorem dX9_ruleOne_2 : decode (z_c zX9_ruleOne) 2 = .ok (.iload_n 1, 1) := by decide +kernel
theorem dX9_ruleOne_3 : decode (z_c zX9_ruleOne) 3 = .ok (.aload_n 0, 1) := by decide +kernel
theorem dX9_ruleOne_4 : decode (z_c zX9_ruleOne) 4 = .ok (.getfield 16, 3) := by decide +kernel
theorem dX9_ruleOne_7 : decode (z_c zX9_ruleOne) 7 = .ok (.if_icmp .ge 117, 3) := by decide +kernel
theorem dX9_ruleOne_10 : decode (z_c zX9_ruleOne) 10 = .ok (.aload_n 0, 1) := by decide +kernel
theorem dX9_ruleOne_11 : decode (z_c zX9_ruleOne) 11 = .ok (.getfield 26, 3) := by decide +kernel
theorem dX9_ruleOne_14 : decode (z_c zX9_ruleOne) 14 = .ok (.iload_n 1, 1) := by decide +kernel
theorem dX9_ruleOne_15 : decode (z_c zX9_ruleOne) 15 = .ok (.iaload, 1) := by decide +kernel
theorem dX9_ruleOne_16 : decode (z_c zX9_ruleOne) 16 = .ok (.iconst 1, 1) := by decide +kernel
theorem dX9_ruleOne_17 : decode (z_c zX9_ruleOne) 17 = .ok (.if_icmp .ne 11, 3) := by decide +kernel
theorem dX9_ruleOne_20 : decode (z_c zX9_ruleOne) 20 = .ok (.aload_n 0, 1) := by decide +kernel
theorem dX9_ruleOne_21 : decode (z_c zX9_ruleOne) 21 = .ok (.iload_n 1, 1) := by decide +kernel
theorem dX9_ruleOne_22 : decode (z_c zX9_ruleOne) 22 = .ok (.invokevirtual 198, 3) := by decide +kernel
theorem dX9_ruleOne_25 : decode (z_c zX9_ruleOne) 25 = .ok (.goto 4, 3) := by decide +kernel
theorem dX9_ruleOne_28 : decode (z_c zX9_ruleOne) 28 = .ok (.iconst 0, 1) := by decide +kernel
theorem dX9_ruleOne_29 : decode (z_c zX9_ruleOne) 29 = .ok (.istore_n 2, 1) := by decide +kernel
theorem dX9_ruleOne_30 : decode (z_c zX9_ruleOne) 30 = .ok (.iload_n 2, 1) := by decide +kernel
theorem dX9_ruleOne_31 : decode (z_c zX9_ruleOne) 31 = .ok (.ifCond .le 87, 3) := by decide +kernel
theorem dX9_ruleOne_34 : decode (z_c zX9_ruleOne) 34 = .ok (.aload_n 0, 1) := by decide +kernel
theorem dX9_ruleOne_35 : decode (z_c zX9_ruleOne) 35 = .ok (.iload_n 1, 1) := by decide +kernel
theorem dX9_ruleOne_36 : decode (z_c zX9_ruleOne) 36 = .ok (.invokevirtual 201, 3) := by decide +kernel
theorem dX9_ruleOne_39 : decode (z_c zX9_ruleOne) 39 = .ok (.ifCond .eq 12, 3) := by decide +kernel
theorem dX9_ruleOne_42 : decode (z_c zX9_ruleOne) 42 = .ok (.aload_n 0, 1) := by decide +kernel
theorem dX9_ruleOne_43 : decode (z_c zX9_ruleOne) 43 = .ok (.iload_n 1, 1) := by decide +kernel
theorem dX9_ruleOne_44 : decode (z_c zX9_ruleOne) 44 = .ok (.invokevirtual 201, 3) := by decide +kernel
theorem dX9_ruleOne_47 : decode (z_c zX9_ruleOne) 47 = .ok (.iload_n 2, 1) := by decide +kernel
theorem dX9_ruleOne_48 : decode (z_c zX9_ruleOne) 48 = .ok (.if_icmp .ne 70, 3) := by decide +kernel
theorem dX9_ruleOne_51 : decode (z_c zX9_ruleOne) 51 = .ok (.aload_n 0, 1) := by decide +kernel
theorem dX9_ruleOne_52 : decode (z_c zX9_ruleOne) 52 = .ok (.iload_n 1, 1) := by decide +kernel
theorem dX9_ruleOne_53 : decode (z_c zX9_ruleOne) 53 = .ok (.invokevirtual 201, 3) := by decide +kernel
theorem dX9_ruleOne_56 : decode (z_c zX9_ruleOne) 56 = .ok (.ifCond .ne 7, 3) := by decide +kernel
theorem dX9_ruleOne_59 : decode (z_c zX9_ruleOne) 59 = .ok (.iconst 0, 1) := by decide +kernel
theorem dX9_ruleOne_60 : decode (z_c zX9_ruleOne) 60 = .ok (.goto 4, 3) := by decide +kernel
theorem dX9_ruleOne_63 : decode (z_c zX9_ruleOne) 63 = .ok (.iconst 1, 1) := by decide +kernel
theorem dX9_ruleOne_64 : decode (z_c zX9_ruleOne) 64 = .ok (.istore_n 3, 1) := by decide +kernel
theorem dX9_ruleOne_65 : decode (z_c zX9_ruleOne) 65 = .ok (.iconst 0, 1) := by decide +kernel
theorem dX9_ruleOne_66 : decode (z_c zX9_ruleOne) 66 = .ok (.istore 4, 2) := by decide +kernel
theorem dX9_ruleOne_68 : decode (z_c zX9_ruleOne) 68 = .ok (.iload 4, 2) := by decide +kernel
theorem dX9_ruleOne_70 : decode (z_c zX9_ruleOne) 70 = .ok (.aload_n 0, 1) := by decide +kernel
theorem dX9_ruleOne_71 : decode (z_c zX9_ruleOne) 71 = .ok (.getfield 16, 3) := by decide +kernel
theorem dX9_ruleOne_74 : decode (z_c zX9_ruleOne) 74 = .ok (.if_icmp .ge 37, 3) := by decide +kernel
theorem dX9_ruleOne_77 : decode (z_c zX9_ruleOne) 77 = .ok (.aload_n 0, 1) := by decide +kernel
theorem dX9_ruleOne_78 : decode (z_c zX9_ruleOne) 78 = .ok (.getfield 60, 3) := by decide +kernel
theorem dX9_ruleOne_81 : decode (z_c zX9_ruleOne) 81 = .ok (.iload 4, 2) := by decide +kernel
theorem dX9_ruleOne_83 : decode (z_c zX9_ruleOne) 83 = .ok (.aload_n 0, 1) := by decide +kernel
theorem dX9_ruleOne_84 : decode (z_c zX9_ruleOne) 84 = .ok (.iload_n 1, 1) := by decide +kernel
theorem dX9_ruleOne_85 : decode (z_c zX9_ruleOne) 85 = .ok (.iload 4, 2) := by decide +kernel
theorem dX9_ruleOne_87 : decode (z_c zX9_ruleOne) 87 = .ok (.invokevirtual 195, 3) := by decide +kernel
theorem dX9_ruleOne_90 : decode (z_c zX9_ruleOne) 90 = .ok (.ifCond .eq 7, 3) := by decide +kernel
theorem dX9_ruleOne_93 : decode (z_c zX9_ruleOne) 93 = .ok (.iload_n 3, 1) := by decide +kernel
theorem dX9_ruleOne_94 : decode (z_c zX9_ruleOne) 94 = .ok (.goto 10, 3) := by decide +kernel
theorem dX9_ruleOne_97 : decode (z_c zX9_ruleOne) 97 = .ok (.aload_n 0, 1) := by decide +kernel
theorem dX9_ruleOne_98 : decode (z_c zX9_ruleOne) 98 = .ok (.getfield 60, 3) := by decide +kernel
theorem dX9_ruleOne_101 : decode (z_c zX9_ruleOne) 101 = .ok (.iload 4, 2) := by decide +kernel
theorem dX9_ruleOne_103 : decode (z_c zX9_ruleOne) 103 = .ok (.iaload, 1) := by decide +kernel
theorem dX9_ruleOne_104 : decode (z_c zX9_ruleOne) 104 = .ok (.iastore, 1) := by decide +kernel
theorem dX9_ruleOne_105 : decode (z_c zX9_ruleOne) 105 = .ok (.iinc 4 1, 3) := by decide +kernel
theorem dX9_ruleOne_108 : decode (z_c zX9_ruleOne) 108 = .ok (.goto (-40), 3) := by decide +kernel
theorem dX9_ruleOne_111 : decode (z_c zX9_ruleOne) 111 = .ok (.aload_n 0, 1) := by decide +kernel
theorem dX9_ruleOne_112 : decode (z_c zX9_ruleOne) 112 = .ok (.iload_n 1, 1) := by decide +kernel
theorem dX9_ruleOne_113 : decode (z_c zX9_ruleOne) 113 = .ok (.invokevirtual 204, 3) := by decide +kernel
theorem dX9_ruleOne_116 : decode (z_c zX9_ruleOne) 116 = .ok (.iconst 1, 1) := by decide +kernel
theorem dX9_ruleOne_117 : decode (z_c zX9_ruleOne) 117 = .ok (.ireturn, 1) := by decide +kernel
theorem dX9_ruleOne_118 : decode (z_c zX9_ruleOne) 118 = .ok (.iinc 1 1, 3) := by decide +kernel
theorem dX9_ruleOne_121 : decode (z_c zX9_ruleOne) 121 = .ok (.goto (-119), 3) := by decide +kernel
theorem dX9_ruleOne_124 : decode (z_c zX9_ruleOne) 124 = .ok (.iconst 0, 1) := by decide +kernel
theorem dX9_ruleOne_125 : decode (z_c zX9_ruleOne) 125 = .ok (.ireturn, 1) := by decide +kernel
theorem dX9_isWithin_0 : decode (z_c zX9_isWithin) 0 = .ok (.iconst 1, 1) := by decide +kernel
theorem dX9_isWithin_1 : decode (z_c zX9_isWithin) 1 = .ok (.istore_n 3, 1) := by decide +kernel
theorem dX9_isWithin_2 : decode (z_c zX9_isWithin) 2 = .ok (.iconst 0, 1) := by decide +kernel
theorem dX9_isWithin_3 : decode (z_c zX9_isWithin) 3 = .ok (.istore 4, 2) := by decide +kernel
theorem dX9_isWithin_5 : decode (z_c zX9_isWithin) 5 = .ok (.iload 4, 2) := by decide +kernel
theorem dX9_isWithin_7 : decode (z_c zX9_isWithin) 7 = .ok (.aload_n 0, 1) := by decide +kernel
theorem dX9_isWithin_8 : decode (z_c zX9_isWithin) 8 = .ok (.getfield 16, 3) := by decide +kernel
theorem dX9_isWithin_11 : decode (z_c zX9_isWithin) 11 = .ok (.if_icmp .ge 39, 3) := by decide +kernel
theorem dX9_isWithin_14 : decode (z_c zX9_isWithin) 14 = .ok (.iload_n 3, 1) := by decide +kernel
theorem dX9_isWithin_15 : decode (z_c zX9_isWithin) 15 = .ok (.ifCond .eq 27, 3) := by decide +kernel
theorem dX9_isWithin_18 : decode (z_c zX9_isWithin) 18 = .ok (.aload_n 0, 1) := by decide +kernel
theorem dX9_isWithin_19 : decode (z_c zX9_isWithin) 19 = .ok (.iload_n 1, 1) := by decide +kernel
theorem dX9_isWithin_20 : decode (z_c zX9_isWithin) 20 = .ok (.iload 4, 2) := by decide +kernel
theorem dX9_isWithin_22 : decode (z_c zX9_isWithin) 22 = .ok (.invokevirtual 195, 3) := by decide +kernel
theorem dX9_isWithin_25 : decode (z_c zX9_isWithin) 25 = .ok (.ifCond .eq 13, 3) := by decide +kernel
theorem dX9_isWithin_28 : decode (z_c zX9_isWithin) 28 = .ok (.aload_n 0, 1) := by decide +kernel
theorem dX9_isWithin_29 : decode (z_c zX9_isWithin) 29 = .ok (.iload_n 2, 1) := by decide +kernel
theorem dX9_isWithin_30 : decode (z_c zX9_isWithin) 30 = .ok (.iload 4, 2) := by decide +kernel
theorem dX9_isWithin_32 : decode (z_c zX9_isWithin) 32 = .ok (.invokevirtual 195, 3) := by decide +kernel
theorem dX9_isWithin_35 : decode (z_c zX9_isWithin) 35 = .ok (.ifCond .eq 7, 3) := by decide +kernel
theorem dX9_isWithin_38 : decode (z_c zX9_isWithin) 38 = .ok (.iconst 1, 1) := by decide +kernel
theorem dX9_isWithin_39 : decode (z_c zX9_isWithin) 39 = .ok (.goto 4, 3) := by decide +kernel
theorem dX9_isWithin_42 : decode (z_c zX9_isWithin) 42 = .ok (.iconst 0, 1) := by decide +kernel
theorem dX9_isWithin_43 : decode (z_c zX9_isWithin) 43 = .ok (.istore_n 3, 1) := by decide +kernel
theorem dX9_isWithin_44 : decode (z_c zX9_isWithin) 44 = .ok (.iinc 4 1, 3) := by decide +kernel
theorem dX9_isWithin_47 : decode (z_c zX9_isWithin) 47 = .ok (.goto (-42), 3) := by decide +kernel
theorem dX9_isWithin_50 : decode (z_c zX9_isWithin) 50 = .ok (.iload_n 3, 1) := by decide +kernel
theorem dX9_isWithin_51 : decode (z_c zX9_isWithin) 51 = .ok (.ireturn, 1) := by decide +kernel
theorem dX9_ruleTwo_0 : decode (z_c zX9_ruleTwo) 0 = .ok (.iconst 0, 1) := by decide +kernel
theorem dX9_ruleTwo_1 : decode (z_c zX9_ruleTwo) 1 = .ok (.istore_n 1, 1) := by decide +kernel
theorem dX9_ruleTwo_2 : decode (z_c zX9_ruleTwo) 2 = .ok (.iload_n 1, 1) := by decide +kernel
theorem dX9_ruleTwo_3 : decode (z_c zX9_ruleTwo) 3 = .ok (.aload_n 0, 1) := by decide +kernel
theorem dX9_ruleTwo_4 : decode (z_c zX9_ruleTwo) 4 = .ok (.getfield 16, 3) := by decide +kernel
theorem dX9_ruleTwo_7 : decode (z_c zX9_ruleTwo) 7 = .ok (.if_icmp .ge 188, 3) := by decide +kernel
theorem dX9_ruleTwo_10 : decode (z_c zX9_ruleTwo) 10 = .ok (.aload_n 0, 1) := by decide +kernel
theorem dX9_ruleTwo_11 : decode (z_c zX9_ruleTwo) 11 = .ok (.getfield 26, 3) := by decide +kernel
theorem dX9_ruleTwo_14 : decode (z_c zX9_ruleTwo) 14 = .ok (.iload_n 1, 1) := by decide +kernel
theorem dX9_ruleTwo_15 : decode (z_c zX9_ruleTwo) 15 = .ok (.iaload, 1) := by decide +kernel
theorem dX9_ruleTwo_16 : decode (z_c zX9_ruleTwo) 16 = .ok (.iconst 1, 1) := by decide +kernel
theorem dX9_ruleTwo_17 : decode (z_c zX9_ruleTwo) 17 = .ok (.if_icmp .ne 11, 3) := by decide +kernel
theorem dX9_ruleTwo_20 : decode (z_c zX9_ruleTwo) 20 = .ok (.aload_n 0, 1) := by decide +kernel
theorem dX9_ruleTwo_21 : decode (z_c zX9_ruleTwo) 21 = .ok (.iload_n 1, 1) := by decide +kernel
theorem dX9_ruleTwo_22 : decode (z_c zX9_ruleTwo) 22 = .ok (.invokevirtual 198, 3) := by decide +kernel
theorem dX9_ruleTwo_25 : decode (z_c zX9_ruleTwo) 25 = .ok (.goto 4, 3) := by decide +kernel
theorem dX9_ruleTwo_28 : decode (z_c zX9_ruleTwo) 28 = .ok (.iconst 0, 1) := by decide +kernel
theorem dX9_ruleTwo_29 : decode (z_c zX9_ruleTwo) 29 = .ok (.istore_n 2, 1) := by decide +kernel
theorem dX9_ruleTwo_30 : decode (z_c zX9_ruleTwo) 30 = .ok (.iconst 0, 1) := by decide +kernel
theorem dX9_ruleTwo_31 : decode (z_c zX9_ruleTwo) 31 = .ok (.istore_n 3, 1) := by decide +kernel
theorem dX9_ruleTwo_32 : decode (z_c zX9_ruleTwo) 32 = .ok (.iload_n 3, 1) := by decide +kernel
theorem dX9_ruleTwo_33 : decode (z_c zX9_ruleTwo) 33 = .ok (.aload_n 0, 1) := by decide +kernel
theorem dX9_ruleTwo_34 : decode (z_c zX9_ruleTwo) 34 = .ok (.getfield 16, 3) := by decide +kernel
theorem dX9_ruleTwo_37 : decode (z_c zX9_ruleTwo) 37 = .ok (.if_icmp .ge 152, 3) := by decide +kernel
theorem dX9_ruleTwo_40 : decode (z_c zX9_ruleTwo) 40 = .ok (.iload_n 2, 1) := by decide +kernel
theorem dX9_ruleTwo_41 : decode (z_c zX9_ruleTwo) 41 = .ok (.ifCond .le 148, 3) := by decide +kernel
theorem dX9_ruleTwo_44 : decode (z_c zX9_ruleTwo) 44 = .ok (.aload_n 0, 1) := by decide +kernel
theorem dX9_ruleTwo_45 : decode (z_c zX9_ruleTwo) 45 = .ok (.getfield 26, 3) := by decide +kernel
theorem dX9_ruleTwo_48 : decode (z_c zX9_ruleTwo) 48 = .ok (.iload_n 3, 1) := by decide +kernel
theorem dX9_ruleTwo_49 : decode (z_c zX9_ruleTwo) 49 = .ok (.iaload, 1) := by decide +kernel
theorem dX9_ruleTwo_50 : decode (z_c zX9_ruleTwo) 50 = .ok (.iconst 1, 1) := by decide +kernel
theorem dX9_ruleTwo_51 : decode (z_c zX9_ruleTwo) 51 = .ok (.if_icmp .ne 13, 3) := by decide +kernel
theorem dX9_ruleTwo_54 : decode (z_c zX9_ruleTwo) 54 = .ok (.aload_n 0, 1) := by decide +kernel
theorem dX9_ruleTwo_55 : decode (z_c zX9_ruleTwo) 55 = .ok (.iload_n 3, 1) := by decide +kernel
theorem dX9_ruleTwo_56 : decode (z_c zX9_ruleTwo) 56 = .ok (.invokevirtual 198, 3) := by decide +kernel
theorem dX9_ruleTwo_59 : decode (z_c zX9_ruleTwo) 59 = .ok (.iload_n 2, 1) := by decide +kernel
theorem dX9_ruleTwo_60 : decode (z_c zX9_ruleTwo) 60 = .ok (.isub, 1) := by decide +kernel
theorem dX9_ruleTwo_61 : decode (z_c zX9_ruleTwo) 61 = .ok (.goto 4, 3) := by decide +kernel
theorem dX9_ruleTwo_64 : decode (z_c zX9_ruleTwo) 64 = .ok (.iconst 0, 1) := by decide +kernel
theorem dX9_ruleTwo_65 : decode (z_c zX9_ruleTwo) 65 = .ok (.istore 4, 2) := by decide +kernel
theorem dX9_ruleTwo_67 : decode (z_c zX9_ruleTwo) 67 = .ok (.iload 4, 2) := by decide +kernel
theorem dX9_ruleTwo_69 : decode (z_c zX9_ruleTwo) 69 = .ok (.ifCond .le 114, 3) := by decide +kernel
theorem dX9_ruleTwo_72 : decode (z_c zX9_ruleTwo) 72 = .ok (.aload_n 0, 1) := by decide +kernel
theorem dX9_ruleTwo_73 : decode (z_c zX9_ruleTwo) 73 = .ok (.iload_n 1, 1) := by decide +kernel
theorem dX9_ruleTwo_74 : decode (z_c zX9_ruleTwo) 74 = .ok (.iload_n 3, 1) := by decide +kernel
theorem dX9_ruleTwo_75 : decode (z_c zX9_ruleTwo) 75 = .ok (.invokevirtual 207, 3) := by decide +kernel
theorem dX9_ruleTwo_78 : decode (z_c zX9_ruleTwo) 78 = .ok (.ifCond .eq 105, 3) := by decide +kernel
theorem dX9_ruleTwo_81 : decode (z_c zX9_ruleTwo) 81 = .ok (.aload_n 0, 1) := by decide +kernel
theorem dX9_ruleTwo_82 : decode (z_c zX9_ruleTwo) 82 = .ok (.iload_n 3, 1) := by decide +kernel
theorem dX9_ruleTwo_83 : decode (z_c zX9_ruleTwo) 83 = .ok (.invokevirtual 201, 3) := by decide +kernel
theorem dX9_ruleTwo_86 : decode (z_c zX9_ruleTwo) 86 = .ok (.aload_n 0, 1) := by decide +kernel
theorem dX9_ruleTwo_87 : decode (z_c zX9_ruleTwo) 87 = .ok (.iload_n 1, 1) := by decide +kernel
theorem dX9_ruleTwo_88 : decode (z_c zX9_ruleTwo) 88 = .ok (.invokevirtual 201, 3) := by decide +kernel
theorem dX9_ruleTwo_91 : decode (z_c zX9_ruleTwo) 91 = .ok (.isub, 1) := by decide +kernel
theorem dX9_ruleTwo_92 : decode (z_c zX9_ruleTwo) 92 = .ok (.istore 5, 2) := by decide +kernel
theorem dX9_ruleTwo_94 : decode (z_c zX9_ruleTwo) 94 = .ok (.iload 5, 2) := by decide +kernel
theorem dX9_ruleTwo_96 : decode (z_c zX9_ruleTwo) 96 = .ok (.ifCond .eq 10, 3) := by decide +kernel
theorem dX9_ruleTwo_99 : decode (z_c zX9_ruleTwo) 99 = .ok (.iload 5, 2) := by decide +kernel
theorem dX9_ruleTwo_101 : decode (z_c zX9_ruleTwo) 101 = .ok (.iload 4, 2) := by decide +kernel
theorem dX9_ruleTwo_103 : decode (z_c zX9_ruleTwo) 103 = .ok (.if_icmp .ne 80, 3) := by decide +kernel
theorem dX9_ruleTwo_106 : decode (z_c zX9_ruleTwo) 106 = .ok (.iconst 0, 1) := by decide +kernel
theorem dX9_ruleTwo_107 : decode (z_c zX9_ruleTwo) 107 = .ok (.istore 6, 2) := by decide +kernel
theorem dX9_ruleTwo_109 : decode (z_c zX9_ruleTwo) 109 = .ok (.iload 6, 2) := by decide +kernel
theorem dX9_ruleTwo_111 : decode (z_c zX9_ruleTwo) 111 = .ok (.aload_n 0, 1) := by decide +kernel
theorem dX9_ruleTwo_112 : decode (z_c zX9_ruleTwo) 112 = .ok (.getfield 16, 3) := by decide +kernel
theorem dX9_ruleTwo_115 : decode (z_c zX9_ruleTwo) 115 = .ok (.if_icmp .ge 56, 3) := by decide +kernel
theorem dX9_ruleTwo_118 : decode (z_c zX9_ruleTwo) 118 = .ok (.aload_n 0, 1) := by decide +kernel
theorem dX9_ruleTwo_119 : decode (z_c zX9_ruleTwo) 119 = .ok (.getfield 60, 3) := by decide +kernel
theorem dX9_ruleTwo_122 : decode (z_c zX9_ruleTwo) 122 = .ok (.iload 6, 2) := by decide +kernel
theorem dX9_ruleTwo_124 : decode (z_c zX9_ruleTwo) 124 = .ok (.aload_n 0, 1) := by decide +kernel
theorem dX9_ruleTwo_125 : decode (z_c zX9_ruleTwo) 125 = .ok (.iload_n 3, 1) := by decide +kernel
theorem dX9_ruleTwo_126 : decode (z_c zX9_ruleTwo) 126 = .ok (.iload 6, 2) := by decide +kernel
theorem dX9_ruleTwo_128 : decode (z_c zX9_ruleTwo) 128 = .ok (.invokevirtual 195, 3) := by decide +kernel
theorem dX9_ruleTwo_131 : decode (z_c zX9_ruleTwo) 131 = .ok (.ifCond .eq 26, 3) := by decide +kernel
theorem dX9_ruleTwo_134 : decode (z_c zX9_ruleTwo) 134 = .ok (.aload_n 0, 1) := by decide +kernel
theorem dX9_ruleTwo_135 : decode (z_c zX9_ruleTwo) 135 = .ok (.iload_n 1, 1) := by decide +kernel
theorem dX9_ruleTwo_136 : decode (z_c zX9_ruleTwo) 136 = .ok (.iload 6, 2) := by decide +kernel
theorem dX9_ruleTwo_138 : decode (z_c zX9_ruleTwo) 138 = .ok (.invokevirtual 195, 3) := by decide +kernel
theorem dX9_ruleTwo_141 : decode (z_c zX9_ruleTwo) 141 = .ok (.ifCond .ne 16, 3) := by decide +kernel
theorem dX9_ruleTwo_144 : decode (z_c zX9_ruleTwo) 144 = .ok (.iload 5, 2) := by decide +kernel
theorem dX9_ruleTwo_146 : decode (z_c zX9_ruleTwo) 146 = .ok (.ifCond .ne 7, 3) := by decide +kernel
theorem dX9_ruleTwo_149 : decode (z_c zX9_ruleTwo) 149 = .ok (.iconst 0, 1) := by decide +kernel
theorem dX9_ruleTwo_150 : decode (z_c zX9_ruleTwo) 150 = .ok (.goto 14, 3) := by decide +kernel
theorem dX9_ruleTwo_153 : decode (z_c zX9_ruleTwo) 153 = .ok (.iconst 1, 1) := by decide +kernel
theorem dX9_ruleTwo_154 : decode (z_c zX9_ruleTwo) 154 = .ok (.goto 10, 3) := by decide +kernel
theorem dX9_ruleTwo_157 : decode (z_c zX9_ruleTwo) 157 = .ok (.aload_n 0, 1) := by decide +kernel
theorem dX9_ruleTwo_158 : decode (z_c zX9_ruleTwo) 158 = .ok (.getfield 60, 3) := by decide +kernel
theorem dX9_ruleTwo_161 : decode (z_c zX9_ruleTwo) 161 = .ok (.iload 6, 2) := by decide +kernel
theorem dX9_ruleTwo_163 : decode (z_c zX9_ruleTwo) 163 = .ok (.iaload, 1) := by decide +kernel
theorem dX9_ruleTwo_164 : decode (z_c zX9_ruleTwo) 164 = .ok (.iastore, 1) := by decide +kernel
theorem dX9_ruleTwo_165 : decode (z_c zX9_ruleTwo) 165 = .ok (.iinc 6 1, 3) := by decide +kernel
theorem dX9_ruleTwo_168 : decode (z_c zX9_ruleTwo) 168 = .ok (.goto (-59), 3) := by decide +kernel
theorem dX9_ruleTwo_171 : decode (z_c zX9_ruleTwo) 171 = .ok (.aload_n 0, 1) := by decide +kernel
theorem dX9_ruleTwo_172 : decode (z_c zX9_ruleTwo) 172 = .ok (.iload_n 1, 1) := by decide +kernel
theorem dX9_ruleTwo_173 : decode (z_c zX9_ruleTwo) 173 = .ok (.invokevirtual 204, 3) := by decide +kernel
theorem dX9_ruleTwo_176 : decode (z_c zX9_ruleTwo) 176 = .ok (.aload_n 0, 1) := by decide +kernel
theorem dX9_ruleTwo_177 : decode (z_c zX9_ruleTwo) 177 = .ok (.iload_n 3, 1) := by decide +kernel
theorem dX9_ruleTwo_178 : decode (z_c zX9_ruleTwo) 178 = .ok (.invokevirtual 204, 3) := by decide +kernel
theorem dX9_ruleTwo_181 : decode (z_c zX9_ruleTwo) 181 = .ok (.iconst 1, 1) := by decide +kernel
theorem dX9_ruleTwo_182 : decode (z_c zX9_ruleTwo) 182 = .ok (.ireturn, 1) := by decide +kernel
theorem dX9_ruleTwo_183 : decode (z_c zX9_ruleTwo) 183 = .ok (.iinc 3 1, 3) := by decide +kernel
theorem dX9_ruleTwo_186 : decode (z_c zX9_ruleTwo) 186 = .ok (.goto (-154), 3) := by decide +kernel
theorem dX9_ruleTwo_189 : decode (z_c zX9_ruleTwo) 189 = .ok (.iinc 1 1, 3) := by decide +kernel
theorem dX9_ruleTwo_192 : decode (z_c zX9_ruleTwo) 192 = .ok (.goto (-190), 3) := by decide +kernel
theorem dX9_ruleTwo_195 : decode (z_c zX9_ruleTwo) 195 = .ok (.iconst 0, 1) := by decide +kernel
theorem dX9_ruleTwo_196 : decode (z_c zX9_ruleTwo) 196 = .ok (.ireturn, 1) := by decide +kernel
theorem dX9_ruleThree_0 : decode (z_c zX9_ruleThree) 0 = .ok (.aload_n 0, 1) := by decide +kernel
theorem dX9_ruleThree_1 : decode (z_c zX9_ruleThree) 1 = .ok (.invokevirtual 210, 3) := by decide +kernel
theorem dX9_ruleThree_4 : decode (z_c zX9_ruleThree) 4 = .ok (.ifCond .ne 5, 3) := by decide +kernel
theorem dX9_ruleThree_7 : decode (z_c zX9_ruleThree) 7 = .ok (.iconst 0, 1) := by decide +kernel
theorem dX9_ruleThree_8 : decode (z_c zX9_ruleThree) 8 = .ok (.ireturn, 1) := by decide +kernel
theorem dX9_ruleThree_9 : decode (z_c zX9_ruleThree) 9 = .ok (.aload_n 0, 1) := by decide +kernel
theorem dX9_ruleThree_10 : decode (z_c zX9_ruleThree) 10 = .ok (.invokevirtual 213, 3) := by decide +kernel
theorem dX9_ruleThree_13 : decode (z_c zX9_ruleThree) 13 = .ok (.iconst 0, 1) := by decide +kernel
theorem dX9_ruleThree_14 : decode (z_c zX9_ruleThree) 14 = .ok (.istore_n 1, 1) := by decide +kernel
theorem dX9_ruleThree_15 : decode (z_c zX9_ruleThree) 15 = .ok (.iload_n 1, 1) := by decide +kernel
theorem dX9_ruleThree_16 : decode (z_c zX9_ruleThree) 16 = .ok (.aload_n 0, 1) := by decide +kernel
theorem dX9_ruleThree_17 : decode (z_c zX9_ruleThree) 17 = .ok (.getfield 16, 3) := by decide +kernel
theorem dX9_ruleThree_20 : decode (z_c zX9_ruleThree) 20 = .ok (.if_icmp .ge 118, 3) := by decide +kernel
theorem dX9_ruleThree_23 : decode (z_c zX9_ruleThree) 23 = .ok (.aload_n 0, 1) := by decide +kernel
theorem dX9_ruleThree_24 : decode (z_c zX9_ruleThree) 24 = .ok (.getfield 26, 3) := by decide +kernel
theorem dX9_ruleThree_27 : decode (z_c zX9_ruleThree) 27 = .ok (.iload_n 1, 1) := by decide +kernel
theorem dX9_ruleThree_28 : decode (z_c zX9_ruleThree) 28 = .ok (.iaload, 1) := by decide +kernel
theorem dX9_ruleThree_29 : decode (z_c zX9_ruleThree) 29 = .ok (.ifCond .ne 103, 3) := by decide +kernel
theorem dX9_ruleThree_32 : decode (z_c zX9_ruleThree) 32 = .ok (.aload_n 0, 1) := by decide +kernel
theorem dX9_ruleThree_33 : decode (z_c zX9_ruleThree) 33 = .ok (.getfield 54, 3) := by decide +kernel
theorem dX9_ruleThree_36 : decode (z_c zX9_ruleThree) 36 = .ok (.iload_n 1, 1) := by decide +kernel
theorem dX9_ruleThree_37 : decode (z_c zX9_ruleThree) 37 = .ok (.iaload, 1) := by decide +kernel
theorem dX9_ruleThree_38 : decode (z_c zX9_ruleThree) 38 = .ok (.ifCond .ge 94, 3) := by decide +kernel
theorem dX9_ruleThree_41 : decode (z_c zX9_ruleThree) 41 = .ok (.aload_n 0, 1) := by decide +kernel
theorem dX9_ruleThree_42 : decode (z_c zX9_ruleThree) 42 = .ok (.iload_n 1, 1) := by decide +kernel
theorem dX9_ruleThree_43 : decode (z_c zX9_ruleThree) 43 = .ok (.iconst 1, 1) := by decide +kernel
theorem dX9_ruleThree_44 : decode (z_c zX9_ruleThree) 44 = .ok (.invokevirtual 216, 3) := by decide +kernel
theorem dX9_ruleThree_47 : decode (z_c zX9_ruleThree) 47 = .ok (.istore_n 2, 1) := by decide +kernel
theorem dX9_ruleThree_48 : decode (z_c zX9_ruleThree) 48 = .ok (.iload_n 2, 1) := by decide +kernel
theorem dX9_ruleThree_49 : decode (z_c zX9_ruleThree) 49 = .ok (.ifCond .eq 12, 3) := by decide +kernel
theorem dX9_ruleThree_52 : decode (z_c zX9_ruleThree) 52 = .ok (.aload_n 0, 1) := by decide +kernel
theorem dX9_ruleThree_53 : decode (z_c zX9_ruleThree) 53 = .ok (.iload_n 1, 1) := by decide +kernel
theorem dX9_ruleThree_54 : decode (z_c zX9_ruleThree) 54 = .ok (.iconst 0, 1) := by decide +kernel
theorem dX9_ruleThree_55 : decode (z_c zX9_ruleThree) 55 = .ok (.invokevirtual 216, 3) := by decide +kernel
theorem dX9_ruleThree_58 : decode (z_c zX9_ruleThree) 58 = .ok (.ifCond .ne 74, 3) := by decide +kernel
theorem dX9_ruleThree_61 : decode (z_c zX9_ruleThree) 61 = .ok (.aload_n 0, 1) := by decide +kernel
theorem dX9_ruleThree_62 : decode (z_c zX9_ruleThree) 62 = .ok (.getfield 60, 3) := by decide +kernel
theorem dX9_ruleThree_65 : decode (z_c zX9_ruleThree) 65 = .ok (.iload_n 1, 1) := by decide +kernel
theorem dX9_ruleThree_66 : decode (z_c zX9_ruleThree) 66 = .ok (.iload_n 2, 1) := by decide +kernel
theorem dX9_ruleThree_67 : decode (z_c zX9_ruleThree) 67 = .ok (.ifCond .eq 7, 3) := by decide +kernel
theorem dX9_ruleThree_70 : decode (z_c zX9_ruleThree) 70 = .ok (.iconst 1, 1) := by decide +kernel
theorem dX9_ruleThree_71 : decode (z_c zX9_ruleThree) 71 = .ok (.goto 4, 3) := by decide +kernel
theorem dX9_ruleThree_74 : decode (z_c zX9_ruleThree) 74 = .ok (.iconst 0, 1) := by decide +kernel
theorem dX9_ruleThree_75 : decode (z_c zX9_ruleThree) 75 = .ok (.iastore, 1) := by decide +kernel
theorem dX9_ruleThree_76 : decode (z_c zX9_ruleThree) 76 = .ok (.iconst 0, 1) := by decide +kernel
theorem dX9_ruleThree_77 : decode (z_c zX9_ruleThree) 77 = .ok (.istore_n 3, 1) := by decide +kernel
theorem dX9_ruleThree_78 : decode (z_c zX9_ruleThree) 78 = .ok (.iload_n 3, 1) := by decide +kernel
theorem dX9_ruleThree_79 : decode (z_c zX9_ruleThree) 79 = .ok (.aload_n 0, 1) := by decide +kernel
theorem dX9_ruleThree_80 : decode (z_c zX9_ruleThree) 80 = .ok (.getfield 16, 3) := by decide +kernel
theorem dX9_ruleThree_83 : decode (z_c zX9_ruleThree) 83 = .ok (.if_icmp .ge 39, 3) := by decide +kernel
theorem dX9_ruleThree_86 : decode (z_c zX9_ruleThree) 86 = .ok (.aload_n 0, 1) := by decide +kernel
theorem dX9_ruleThree_87 : decode (z_c zX9_ruleThree) 87 = .ok (.getfield 63, 3) := by decide +kernel
theorem dX9_ruleThree_90 : decode (z_c zX9_ruleThree) 90 = .ok (.iload_n 3, 1) := by decide +kernel
theorem dX9_ruleThree_91 : decode (z_c zX9_ruleThree) 91 = .ok (.aload_n 0, 1) := by decide +kernel
theorem dX9_ruleThree_92 : decode (z_c zX9_ruleThree) 92 = .ok (.getfield 26, 3) := by decide +kernel
theorem dX9_ruleThree_95 : decode (z_c zX9_ruleThree) 95 = .ok (.iload_n 3, 1) := by decide +kernel
theorem dX9_ruleThree_96 : decode (z_c zX9_ruleThree) 96 = .ok (.iaload, 1) := by decide +kernel
theorem dX9_ruleThree_97 : decode (z_c zX9_ruleThree) 97 = .ok (.iconst 1, 1) := by decide +kernel
theorem dX9_ruleThree_98 : decode (z_c zX9_ruleThree) 98 = .ok (.if_icmp .ne 16, 3) := by decide +kernel
theorem dX9_ruleThree_101 : decode (z_c zX9_ruleThree) 101 = .ok (.aload_n 0, 1) := by decide +kernel
theorem dX9_ruleThree_102 : decode (z_c zX9_ruleThree) 102 = .ok (.iload_n 3, 1) := by decide +kernel
theorem dX9_ruleThree_103 : decode (z_c zX9_ruleThree) 103 = .ok (.iconst 0, 1) := by decide +kernel
theorem dX9_ruleThree_104 : decode (z_c zX9_ruleThree) 104 = .ok (.invokevirtual 165, 3) := by decide +kernel
theorem dX9_ruleThree_107 : decode (z_c zX9_ruleThree) 107 = .ok (.ifCond .le 7, 3) := by decide +kernel
theorem dX9_ruleThree_110 : decode (z_c zX9_ruleThree) 110 = .ok (.iconst 1, 1) := by decide +kernel
theorem dX9_ruleThree_111 : decode (z_c zX9_ruleThree) 111 = .ok (.goto 4, 3) := by decide +kernel
theorem dX9_ruleThree_114 : decode (z_c zX9_ruleThree) 114 = .ok (.iconst 0, 1) := by decide +kernel
theorem dX9_ruleThree_115 : decode (z_c zX9_ruleThree) 115 = .ok (.bastore, 1) := by decide +kernel
theorem dX9_ruleThree_116 : decode (z_c zX9_ruleThree) 116 = .ok (.iinc 3 1, 3) := by decide +kernel
theorem dX9_ruleThree_119 : decode (z_c zX9_ruleThree) 119 = .ok (.goto (-41), 3) := by decide +kernel
theorem dX9_ruleThree_122 : decode (z_c zX9_ruleThree) 122 = .ok (.aload_n 0, 1) := by decide +kernel
theorem dX9_ruleThree_123 : decode (z_c zX9_ruleThree) 123 = .ok (.getfield 63, 3) := by decide +kernel
theorem dX9_ruleThree_126 : decode (z_c zX9_ruleThree) 126 = .ok (.bipush 100, 2) := by decide +kernel
theorem dX9_ruleThree_128 : decode (z_c zX9_ruleThree) 128 = .ok (.iconst 1, 1) := by decide +kernel
theorem dX9_ruleThree_129 : decode (z_c zX9_ruleThree) 129 = .ok (.bastore, 1) := by decide +kernel
theorem dX9_ruleThree_130 : decode (z_c zX9_ruleThree) 130 = .ok (.iconst 1, 1) := by decide +kernel
theorem dX9_ruleThree_131 : decode (z_c zX9_ruleThree) 131 = .ok (.ireturn, 1) := by decide +kernel
theorem dX9_ruleThree_132 : decode (z_c zX9_ruleThree) 132 = .ok (.iinc 1 1, 3) := by decide +kernel
theorem dX9_ruleThree_135 : decode (z_c zX9_ruleThree) 135 = .ok (.goto (-120), 3) := by decide +kernel
theorem dX9_ruleThree_138 : decode (z_c zX9_ruleThree) 138 = .ok (.iconst 0, 1) := by decide +kernel
theorem dX9_ruleThree_139 : decode (z_c zX9_ruleThree) 139 = .ok (.ireturn, 1) := by decide +kernel
theorem dX9_rule_0 : decode (z_c zX9_rule) 0 = .ok (.aload_n 0, 1) := by decide +kernel
theorem dX9_rule_1 : decode (z_c zX9_rule) 1 = .ok (.invokevirtual 219, 3) := by decide +kernel
theorem dX9_rule_4 : decode (z_c zX9_rule) 4 = .ok (.aload_n 0, 1) := by decide +kernel
theorem dX9_rule_5 : decode (z_c zX9_rule) 5 = .ok (.invokevirtual 222, 3) := by decide +kernel
theorem dX9_rule_8 : decode (z_c zX9_rule) 8 = .ok (.ifCond .eq 5, 3) := by decide +kernel
theorem dX9_rule_11 : decode (z_c zX9_rule) 11 = .ok (.iconst 1, 1) := by decide +kernel
theorem dX9_rule_12 : decode (z_c zX9_rule) 12 = .ok (.ireturn, 1) := by decide +kernel
theorem dX9_rule_13 : decode (z_c zX9_rule) 13 = .ok (.iload_n 1, 1) := by decide +kernel
theorem dX9_rule_14 : decode (z_c zX9_rule) 14 = .ok (.iconst 1, 1) := by decide +kernel
theorem dX9_rule_15 : decode (z_c zX9_rule) 15 = .ok (.if_icmp .le 12, 3) := by decide +kernel
theorem dX9_rule_18 : decode (z_c zX9_rule) 18 = .ok (.aload_n 0, 1) := by decide +kernel
theorem dX9_rule_19 : decode (z_c zX9_rule) 19 = .ok (.invokevirtual 225, 3) := by decide +kernel
theorem dX9_rule_22 : decode (z_c zX9_rule) 22 = .ok (.ifCond .eq 5, 3) := by decide +kernel
theorem dX9_rule_25 : decode (z_c zX9_rule) 25 = .ok (.iconst 2, 1) := by decide +kernel
theorem dX9_rule_26 : decode (z_c zX9_rule) 26 = .ok (.ireturn, 1) := by decide +kernel
theorem dX9_rule_27 : decode (z_c zX9_rule) 27 = .ok (.iload_n 1, 1) := by decide +kernel
theorem dX9_rule_28 : decode (z_c zX9_rule) 28 = .ok (.iconst 2, 1) := by decide +kernel
theorem dX9_rule_29 : decode (z_c zX9_rule) 29 = .ok (.if_icmp .le 14, 3) := by decide +kernel
theorem dX9_rule_32 : decode (z_c zX9_rule) 32 = .ok (.aload_n 0, 1) := by decide +kernel
theorem dX9_rule_33 : decode (z_c zX9_rule) 33 = .ok (.invokevirtual 228, 3) := by decide +kernel
theorem dX9_rule_36 : decode (z_c zX9_rule) 36 = .ok (.ifCond .eq 7, 3) := by decide +kernel
theorem dX9_rule_39 : decode (z_c zX9_rule) 39 = .ok (.iconst 3, 1) := by decide +kernel
theorem dX9_rule_40 : decode (z_c zX9_rule) 40 = .ok (.goto 4, 3) := by decide +kernel
theorem dX9_rule_43 : decode (z_c zX9_rule) 43 = .ok (.iconst 0, 1) := by decide +kernel
theorem dX9_rule_44 : decode (z_c zX9_rule) 44 = .ok (.ireturn, 1) := by decide +kernel
theorem dX9_find_0 : decode (z_c zX9_find) 0 = .ok (.iconst 0, 1) := by decide +kernel
theorem dX9_find_1 : decode (z_c zX9_find) 1 = .ok (.istore_n 2, 1) := by decide +kernel
theorem dX9_find_2 : decode (z_c zX9_find) 2 = .ok (.iload_n 2, 1) := by decide +kernel
theorem dX9_find_3 : decode (z_c zX9_find) 3 = .ok (.bipush 100, 2) := by decide +kernel
theorem dX9_find_5 : decode (z_c zX9_find) 5 = .ok (.if_icmp .ge 16, 3) := by decide +kernel
theorem dX9_find_8 : decode (z_c zX9_find) 8 = .ok (.aload_n 0, 1) := by decide +kernel
theorem dX9_find_9 : decode (z_c zX9_find) 9 = .ok (.getfield 54, 3) := by decide +kernel
theorem dX9_find_12 : decode (z_c zX9_find) 12 = .ok (.iload_n 2, 1) := by decide +kernel
theorem dX9_find_13 : decode (z_c zX9_find) 13 = .ok (.iconst (-1), 1) := by decide +kernel
theorem dX9_find_14 : decode (z_c zX9_find) 14 = .ok (.iastore, 1) := by decide +kernel
theorem dX9_find_15 : decode (z_c zX9_find) 15 = .ok (.iinc 2 1, 3) := by decide +kernel
theorem dX9_find_18 : decode (z_c zX9_find) 18 = .ok (.goto (-16), 3) := by decide +kernel
theorem dX9_find_21 : decode (z_c zX9_find) 21 = .ok (.aload_n 0, 1) := by decide +kernel
theorem dX9_find_22 : decode (z_c zX9_find) 22 = .ok (.iconst (-1), 1) := by decide +kernel
theorem dX9_find_23 : decode (z_c zX9_find) 23 = .ok (.putfield 162, 3) := by decide +kernel
theorem dX9_find_26 : decode (z_c zX9_find) 26 = .ok (.aload_n 0, 1) := by decide +kernel
theorem dX9_find_27 : decode (z_c zX9_find) 27 = .ok (.aload_n 0, 1) := by decide +kernel
theorem dX9_find_28 : decode (z_c zX9_find) 28 = .ok (.iload_n 1, 1) := by decide +kernel
theorem dX9_find_29 : decode (z_c zX9_find) 29 = .ok (.invokevirtual 231, 3) := by decide +kernel
theorem dX9_find_32 : decode (z_c zX9_find) 32 = .ok (.putfield 234, 3) := by decide +kernel
theorem dX9_find_35 : decode (z_c zX9_find) 35 = .ok (.aload_n 0, 1) := by decide +kernel
theorem dX9_find_36 : decode (z_c zX9_find) 36 = .ok (.getfield 234, 3) := by decide +kernel
theorem dX9_find_39 : decode (z_c zX9_find) 39 = .ok (.ifCond .le 148, 3) := by decide +kernel
theorem dX9_find_42 : decode (z_c zX9_find) 42 = .ok (.aload_n 0, 1) := by decide +kernel
theorem dX9_find_43 : decode (z_c zX9_find) 43 = .ok (.getfield 16, 3) := by decide +kernel
theorem dX9_find_46 : decode (z_c zX9_find) 46 = .ok (.iconst 1, 1) := by decide +kernel
theorem dX9_find_47 : decode (z_c zX9_find) 47 = .ok (.isub, 1) := by decide +kernel
theorem dX9_find_48 : decode (z_c zX9_find) 48 = .ok (.istore_n 2, 1) := by decide +kernel
theorem dX9_find_49 : decode (z_c zX9_find) 49 = .ok (.iload_n 2, 1) := by decide +kernel
theorem dX9_find_50 : decode (z_c zX9_find) 50 = .ok (.ifCond .lt 49, 3) := by decide +kernel
theorem dX9_find_53 : decode (z_c zX9_find) 53 = .ok (.aload_n 0, 1) := by decide +kernel
theorem dX9_find_54 : decode (z_c zX9_find) 54 = .ok (.aload_n 0, 1) := by decide +kernel
theorem dX9_find_55 : decode (z_c zX9_find) 55 = .ok (.getfield 60, 3) := by decide +kernel
theorem dX9_find_58 : decode (z_c zX9_find) 58 = .ok (.iload_n 2, 1) := by decide +kernel
theorem dX9_find_59 : decode (z_c zX9_find) 59 = .ok (.iaload, 1) := by decide +kernel
theorem dX9_find_60 : decode (z_c zX9_find) 60 = .ok (.ifCond .eq 22, 3) := by decide +kernel
theorem dX9_find_63 : decode (z_c zX9_find) 63 = .ok (.aload_n 0, 1) := by decide +kernel
theorem dX9_find_64 : decode (z_c zX9_find) 64 = .ok (.getfield 60, 3) := by decide +kernel
theorem dX9_find_67 : decode (z_c zX9_find) 67 = .ok (.iload_n 2, 1) := by decide +kernel
theorem dX9_find_68 : decode (z_c zX9_find) 68 = .ok (.iaload, 1) := by decide +kernel
theorem dX9_find_69 : decode (z_c zX9_find) 69 = .ok (.iconst 1, 1) := by decide +kernel
theorem dX9_find_70 : decode (z_c zX9_find) 70 = .ok (.if_icmp .ne 16, 3) := by decide +kernel
theorem dX9_find_73 : decode (z_c zX9_find) 73 = .ok (.aload_n 0, 1) := by decide +kernel
theorem dX9_find_74 : decode (z_c zX9_find) 74 = .ok (.getfield 30, 3) := by decide +kernel
theorem dX9_find_77 : decode (z_c zX9_find) 77 = .ok (.iload_n 2, 1) := by decide +kernel
theorem dX9_find_78 : decode (z_c zX9_find) 78 = .ok (.baload, 1) := by decide +kernel
theorem dX9_find_79 : decode (z_c zX9_find) 79 = .ok (.ifCond .ne 7, 3) := by decide +kernel
theorem dX9_find_82 : decode (z_c zX9_find) 82 = .ok (.iload_n 2, 1) := by decide +kernel
theorem dX9_find_83 : decode (z_c zX9_find) 83 = .ok (.goto 7, 3) := by decide +kernel
theorem dX9_find_86 : decode (z_c zX9_find) 86 = .ok (.aload_n 0, 1) := by decide +kernel
theorem dX9_find_87 : decode (z_c zX9_find) 87 = .ok (.getfield 162, 3) := by decide +kernel
theorem dX9_find_90 : decode (z_c zX9_find) 90 = .ok (.putfield 162, 3) := by decide +kernel
theorem dX9_find_93 : decode (z_c zX9_find) 93 = .ok (.iinc 2 (-1), 3) := by decide +kernel
theorem dX9_find_96 : decode (z_c zX9_find) 96 = .ok (.goto (-47), 3) := by decide +kernel
theorem dX9_find_99 : decode (z_c zX9_find) 99 = .ok (.aload_n 0, 1) := by decide +kernel
theorem dX9_find_100 : decode (z_c zX9_find) 100 = .ok (.getfield 162, 3) := by decide +kernel
theorem dX9_find_103 : decode (z_c zX9_find) 103 = .ok (.ifCond .lt 4, 3) := by decide +kernel
theorem dX9_find_106 : decode (z_c zX9_find) 106 = .ok (.return_, 1) := by decide +kernel
theorem dX9_find_107 : decode (z_c zX9_find) 107 = .ok (.iconst 0, 1) := by decide +kernel
theorem dX9_find_108 : decode (z_c zX9_find) 108 = .ok (.istore_n 2, 1) := by decide +kernel
theorem dX9_find_109 : decode (z_c zX9_find) 109 = .ok (.iload_n 2, 1) := by decide +kernel
theorem dX9_find_110 : decode (z_c zX9_find) 110 = .ok (.aload_n 0, 1) := by decide +kernel
theorem dX9_find_111 : decode (z_c zX9_find) 111 = .ok (.getfield 16, 3) := by decide +kernel
theorem dX9_find_114 : decode (z_c zX9_find) 114 = .ok (.if_icmp .ge 61, 3) := by decide +kernel
theorem dX9_find_117 : decode (z_c zX9_find) 117 = .ok (.aload_n 0, 1) := by decide +kernel
theorem dX9_find_118 : decode (z_c zX9_find) 118 = .ok (.getfield 60, 3) := by decide +kernel
theorem dX9_find_121 : decode (z_c zX9_find) 121 = .ok (.iload_n 2, 1) := by decide +kernel
theorem dX9_find_122 : decode (z_c zX9_find) 122 = .ok (.iaload, 1) := by decide +kernel
theorem dX9_find_123 : decode (z_c zX9_find) 123 = .ok (.ifCond .lt 46, 3) := by decide +kernel
theorem dX9_find_126 : decode (z_c zX9_find) 126 = .ok (.aload_n 0, 1) := by decide +kernel
theorem dX9_find_127 : decode (z_c zX9_find) 127 = .ok (.getfield 54, 3) := by decide +kernel
theorem dX9_find_130 : decode (z_c zX9_find) 130 = .ok (.iload_n 2, 1) := by decide +kernel
theorem dX9_find_131 : decode (z_c zX9_find) 131 = .ok (.aload_n 0, 1) := by decide +kernel
theorem dX9_find_132 : decode (z_c zX9_find) 132 = .ok (.getfield 60, 3) := by decide +kernel
theorem dX9_find_135 : decode (z_c zX9_find) 135 = .ok (.iload_n 2, 1) := by decide +kernel
theorem dX9_find_136 : decode (z_c zX9_find) 136 = .ok (.iaload, 1) := by decide +kernel
theorem dX9_find_137 : decode (z_c zX9_find) 137 = .ok (.iastore, 1) := by decide +kernel
theorem dX9_find_138 : decode (z_c zX9_find) 138 = .ok (.iconst 0, 1) := by decide +kernel
theorem dX9_find_139 : decode (z_c zX9_find) 139 = .ok (.istore_n 3, 1) := by decide +kernel
theorem dX9_find_140 : decode (z_c zX9_find) 140 = .ok (.iload_n 3, 1) := by decide +kernel
theorem dX9_find_141 : decode (z_c zX9_find) 141 = .ok (.bipush 101, 2) := by decide +kernel
theorem dX9_find_143 : decode (z_c zX9_find) 143 = .ok (.if_icmp .ge 26, 3) := by decide +kernel
theorem dX9_find_146 : decode (z_c zX9_find) 146 = .ok (.aload_n 0, 1) := by decide +kernel
theorem dX9_find_147 : decode (z_c zX9_find) 147 = .ok (.getfield 57, 3) := by decide +kernel
theorem dX9_find_150 : decode (z_c zX9_find) 150 = .ok (.bipush 101, 2) := by decide +kernel
theorem dX9_find_152 : decode (z_c zX9_find) 152 = .ok (.iload_n 2, 1) := by decide +kernel
theorem dX9_find_153 : decode (z_c zX9_find) 153 = .ok (.imul, 1) := by decide +kernel
theorem dX9_find_154 : decode (z_c zX9_find) 154 = .ok (.iload_n 3, 1) := by decide +kernel
theorem dX9_find_155 : decode (z_c zX9_find) 155 = .ok (.iadd, 1) := by decide +kernel
theorem dX9_find_156 : decode (z_c zX9_find) 156 = .ok (.aload_n 0, 1) := by decide +kernel
theorem dX9_find_157 : decode (z_c zX9_find) 157 = .ok (.getfield 63, 3) := by decide +kernel
theorem dX9_find_160 : decode (z_c zX9_find) 160 = .ok (.iload_n 3, 1) := by decide +kernel
theorem dX9_find_161 : decode (z_c zX9_find) 161 = .ok (.baload, 1) := by decide +kernel
theorem dX9_find_162 : decode (z_c zX9_find) 162 = .ok (.bastore, 1) := by decide +kernel
theorem dX9_find_163 : decode (z_c zX9_find) 163 = .ok (.iinc 3 1, 3) := by decide +kernel
theorem dX9_find_166 : decode (z_c zX9_find) 166 = .ok (.goto (-26), 3) := by decide +kernel
theorem dX9_find_169 : decode (z_c zX9_find) 169 = .ok (.iinc 2 1, 3) := by decide +kernel
theorem dX9_find_172 : decode (z_c zX9_find) 172 = .ok (.goto (-63), 3) := by decide +kernel
theorem dX9_find_175 : decode (z_c zX9_find) 175 = .ok (.aload_n 0, 1) := by decide +kernel
theorem dX9_find_176 : decode (z_c zX9_find) 176 = .ok (.aload_n 0, 1) := by decide +kernel
theorem dX9_find_177 : decode (z_c zX9_find) 177 = .ok (.iload_n 1, 1) := by decide +kernel
theorem dX9_find_178 : decode (z_c zX9_find) 178 = .ok (.invokevirtual 231, 3) := by decide +kernel
theorem dX9_find_181 : decode (z_c zX9_find) 181 = .ok (.putfield 234, 3) := by decide +kernel
theorem dX9_find_184 : decode (z_c zX9_find) 184 = .ok (.goto (-149), 3) := by decide +kernel
theorem dX9_find_187 : decode (z_c zX9_find) 187 = .ok (.return_, 1) := by decide +kernel
theorem dX9_hint_0 : decode (z_c zX9_hint) 0 = .ok (.iload_n 1, 1) := by decide +kernel
theorem dX9_hint_1 : decode (z_c zX9_hint) 1 = .ok (.iconst 1, 1) := by decide +kernel
theorem dX9_hint_2 : decode (z_c zX9_hint) 2 = .ok (.if_icmp .lt 8, 3) := by decide +kernel
theorem dX9_hint_5 : decode (z_c zX9_hint) 5 = .ok (.iload_n 1, 1) := by decide +kernel
theorem dX9_hint_6 : decode (z_c zX9_hint) 6 = .ok (.iconst 3, 1) := by decide +kernel
theorem dX9_hint_7 : decode (z_c zX9_hint) 7 = .ok (.if_icmp .le 5, 3) := by decide +kernel
theorem dX9_hint_10 : decode (z_c zX9_hint) 10 = .ok (.iconst (-1), 1) := by decide +kernel
theorem dX9_hint_11 : decode (z_c zX9_hint) 11 = .ok (.ireturn, 1) := by decide +kernel
theorem dX9_hint_12 : decode (z_c zX9_hint) 12 = .ok (.aload_n 0, 1) := by decide +kernel
theorem dX9_hint_13 : decode (z_c zX9_hint) 13 = .ok (.iload_n 1, 1) := by decide +kernel
theorem dX9_hint_14 : decode (z_c zX9_hint) 14 = .ok (.invokevirtual 159, 3) := by decide +kernel
theorem dX9_hint_17 : decode (z_c zX9_hint) 17 = .ok (.aload_n 0, 1) := by decide +kernel
theorem dX9_hint_18 : decode (z_c zX9_hint) 18 = .ok (.aload_n 0, 1) := by decide +kernel
theorem dX9_hint_19 : decode (z_c zX9_hint) 19 = .ok (.getfield 162, 3) := by decide +kernel
theorem dX9_hint_22 : decode (z_c zX9_hint) 22 = .ok (.putfield 45, 3) := by decide +kernel
theorem dX9_hint_25 : decode (z_c zX9_hint) 25 = .ok (.aload_n 0, 1) := by decide +kernel
theorem dX9_hint_26 : decode (z_c zX9_hint) 26 = .ok (.aload_n 0, 1) := by decide +kernel
theorem dX9_hint_27 : decode (z_c zX9_hint) 27 = .ok (.getfield 234, 3) := by decide +kernel
theorem dX9_hint_30 : decode (z_c zX9_hint) 30 = .ok (.putfield 113, 3) := by decide +kernel
theorem dX9_hint_33 : decode (z_c zX9_hint) 33 = .ok (.aload_n 0, 1) := by decide +kernel
theorem dX9_hint_34 : decode (z_c zX9_hint) 34 = .ok (.aload_n 0, 1) := by decide +kernel
theorem dX9_hint_35 : decode (z_c zX9_hint) 35 = .ok (.getfield 162, 3) := by decide +kernel
theorem dX9_hint_38 : decode (z_c zX9_hint) 38 = .ok (.ifCond .ge 7, 3) := by decide +kernel
theorem dX9_hint_41 : decode (z_c zX9_hint) 41 = .ok (.iconst 0, 1) := by decide +kernel
theorem dX9_hint_42 : decode (z_c zX9_hint) 42 = .ok (.goto 12, 3) := by decide +kernel
theorem dX9_hint_45 : decode (z_c zX9_hint) 45 = .ok (.aload_n 0, 1) := by decide +kernel
theorem dX9_hint_46 : decode (z_c zX9_hint) 46 = .ok (.getfield 60, 3) := by decide +kernel
theorem dX9_hint_49 : decode (z_c zX9_hint) 49 = .ok (.aload_n 0, 1) := by decide +kernel
theorem dX9_hint_50 : decode (z_c zX9_hint) 50 = .ok (.getfield 162, 3) := by decide +kernel
theorem dX9_hint_53 : decode (z_c zX9_hint) 53 = .ok (.iaload, 1) := by decide +kernel
theorem dX9_hint_54 : decode (z_c zX9_hint) 54 = .ok (.putfield 237, 3) := by decide +kernel
theorem dX9_hint_57 : decode (z_c zX9_hint) 57 = .ok (.iconst 0, 1) := by decide +kernel
theorem dX9_hint_58 : decode (z_c zX9_hint) 58 = .ok (.istore_n 2, 1) := by decide +kernel
theorem dX9_hint_59 : decode (z_c zX9_hint) 59 = .ok (.iload_n 2, 1) := by decide +kernel
theorem dX9_hint_60 : decode (z_c zX9_hint) 60 = .ok (.bipush 101, 2) := by decide +kernel
theorem dX9_hint_62 : decode (z_c zX9_hint) 62 = .ok (.if_icmp .ge 36, 3) := by decide +kernel
theorem dX9_hint_65 : decode (z_c zX9_hint) 65 = .ok (.aload_n 0, 1) := by decide +kernel
theorem dX9_hint_66 : decode (z_c zX9_hint) 66 = .ok (.getfield 48, 3) := by decide +kernel
theorem dX9_hint_69 : decode (z_c zX9_hint) 69 = .ok (.iload_n 2, 1) := by decide +kernel
theorem dX9_hint_70 : decode (z_c zX9_hint) 70 = .ok (.aload_n 0, 1) := by decide +kernel
theorem dX9_hint_71 : decode (z_c zX9_hint) 71 = .ok (.getfield 162, 3) := by decide +kernel
theorem dX9_hint_74 : decode (z_c zX9_hint) 74 = .ok (.ifCond .lt 16, 3) := by decide +kernel
theorem dX9_hint_77 : decode (z_c zX9_hint) 77 = .ok (.aload_n 0, 1) := by decide +kernel
theorem dX9_hint_78 : decode (z_c zX9_hint) 78 = .ok (.getfield 63, 3) := by decide +kernel
theorem dX9_hint_81 : decode (z_c zX9_hint) 81 = .ok (.iload_n 2, 1) := by decide +kernel
theorem dX9_hint_82 : decode (z_c zX9_hint) 82 = .ok (.baload, 1) := by decide +kernel
theorem dX9_hint_83 : decode (z_c zX9_hint) 83 = .ok (.ifCond .eq 7, 3) := by decide +kernel
theorem dX9_hint_86 : decode (z_c zX9_hint) 86 = .ok (.iconst 1, 1) := by decide +kernel
theorem dX9_hint_87 : decode (z_c zX9_hint) 87 = .ok (.goto 4, 3) := by decide +kernel
theorem dX9_hint_90 : decode (z_c zX9_hint) 90 = .ok (.iconst 0, 1) := by decide +kernel
theorem dX9_hint_91 : decode (z_c zX9_hint) 91 = .ok (.bastore, 1) := by decide +kernel
theorem dX9_hint_92 : decode (z_c zX9_hint) 92 = .ok (.iinc 2 1, 3) := by decide +kernel
theorem dX9_hint_95 : decode (z_c zX9_hint) 95 = .ok (.goto (-36), 3) := by decide +kernel
theorem dX9_hint_98 : decode (z_c zX9_hint) 98 = .ok (.aload_n 0, 1) := by decide +kernel
theorem dX9_hint_99 : decode (z_c zX9_hint) 99 = .ok (.getfield 162, 3) := by decide +kernel
theorem dX9_hint_102 : decode (z_c zX9_hint) 102 = .ok (.ifCond .ge 7, 3) := by decide +kernel
theorem dX9_hint_105 : decode (z_c zX9_hint) 105 = .ok (.iconst 0, 1) := by decide +kernel
theorem dX9_hint_106 : decode (z_c zX9_hint) 106 = .ok (.goto 16, 3) := by decide +kernel
theorem dX9_hint_109 : decode (z_c zX9_hint) 109 = .ok (.iconst 2, 1) := by decide +kernel
theorem dX9_hint_110 : decode (z_c zX9_hint) 110 = .ok (.aload_n 0, 1) := by decide +kernel
theorem dX9_hint_111 : decode (z_c zX9_hint) 111 = .ok (.getfield 45, 3) := by decide +kernel
theorem dX9_hint_114 : decode (z_c zX9_hint) 114 = .ok (.imul, 1) := by decide +kernel
theorem dX9_hint_115 : decode (z_c zX9_hint) 115 = .ok (.aload_n 0, 1) := by decide +kernel
theorem dX9_hint_116 : decode (z_c zX9_hint) 116 = .ok (.getfield 237, 3) := by decide +kernel
theorem dX9_hint_119 : decode (z_c zX9_hint) 119 = .ok (.iadd, 1) := by decide +kernel
theorem dX9_hint_120 : decode (z_c zX9_hint) 120 = .ok (.iconst 1, 1) := by decide +kernel
theorem dX9_hint_121 : decode (z_c zX9_hint) 121 = .ok (.iadd, 1) := by decide +kernel
theorem dX9_hint_122 : decode (z_c zX9_hint) 122 = .ok (.ireturn, 1) := by decide +kernel
theorem dX9_kind_0 : decode (z_c zX9_kind) 0 = .ok (.aload_n 0, 1) := by decide +kernel
theorem dX9_kind_1 : decode (z_c zX9_kind) 1 = .ok (.getfield 113, 3) := by decide +kernel
theorem dX9_kind_4 : decode (z_c zX9_kind) 4 = .ok (.ireturn, 1) := by decide +kernel
theorem dX9_reason_0 : decode (z_c zX9_reason) 0 = .ok (.iconst 0, 1) := by decide +kernel
theorem dX9_reason_1 : decode (z_c zX9_reason) 1 = .ok (.istore_n 2, 1) := by decide +kernel
theorem dX9_reason_2 : decode (z_c zX9_reason) 2 = .ok (.iconst (-1), 1) := by decide +kernel
theorem dX9_reason_3 : decode (z_c zX9_reason) 3 = .ok (.istore_n 3, 1) := by decide +kernel
theorem dX9_reason_4 : decode (z_c zX9_reason) 4 = .ok (.iconst 0, 1) := by decide +kernel
theorem dX9_reason_5 : decode (z_c zX9_reason) 5 = .ok (.istore 4, 2) := by decide +kernel
theorem dX9_reason_7 : decode (z_c zX9_reason) 7 = .ok (.iload 4, 2) := by decide +kernel
theorem dX9_reason_9 : decode (z_c zX9_reason) 9 = .ok (.bipush 100, 2) := by decide +kernel
theorem dX9_reason_11 : decode (z_c zX9_reason) 11 = .ok (.if_icmp .ge 34, 3) := by decide +kernel
theorem dX9_reason_14 : decode (z_c zX9_reason) 14 = .ok (.aload_n 0, 1) := by decide +kernel
theorem dX9_reason_15 : decode (z_c zX9_reason) 15 = .ok (.getfield 48, 3) := by decide +kernel
theorem dX9_reason_18 : decode (z_c zX9_reason) 18 = .ok (.iload 4, 2) := by decide +kernel
theorem dX9_reason_20 : decode (z_c zX9_reason) 20 = .ok (.baload, 1) := by decide +kernel
theorem dX9_reason_21 : decode (z_c zX9_reason) 21 = .ok (.ifCond .eq 18, 3) := by decide +kernel
theorem dX9_reason_24 : decode (z_c zX9_reason) 24 = .ok (.iload_n 2, 1) := by decide +kernel
theorem dX9_reason_25 : decode (z_c zX9_reason) 25 = .ok (.iload_n 1, 1) := by decide +kernel
theorem dX9_reason_26 : decode (z_c zX9_reason) 26 = .ok (.if_icmp .ne 8, 3) := by decide +kernel
theorem dX9_reason_29 : decode (z_c zX9_reason) 29 = .ok (.iload 4, 2) := by decide +kernel
theorem dX9_reason_31 : decode (z_c zX9_reason) 31 = .ok (.goto 4, 3) := by decide +kernel
theorem dX9_reason_34 : decode (z_c zX9_reason) 34 = .ok (.iload_n 3, 1) := by decide +kernel
theorem dX9_reason_35 : decode (z_c zX9_reason) 35 = .ok (.istore_n 3, 1) := by decide +kernel
theorem dX9_reason_36 : decode (z_c zX9_reason) 36 = .ok (.iinc 2 1, 3) := by decide +kernel
theorem dX9_reason_39 : decode (z_c zX9_reason) 39 = .ok (.iinc 4 1, 3) := by decide +kernel
theorem dX9_reason_42 : decode (z_c zX9_reason) 42 = .ok (.goto (-35), 3) := by decide +kernel
theorem dX9_reason_45 : decode (z_c zX9_reason) 45 = .ok (.iload_n 3, 1) := by decide +kernel
theorem dX9_reason_46 : decode (z_c zX9_reason) 46 = .ok (.ireturn, 1) := by decide +kernel
theorem dX9_total_0 : decode (z_c zX9_total) 0 = .ok (.aload_n 0, 1) := by decide +kernel
theorem dX9_total_1 : decode (z_c zX9_total) 1 = .ok (.getfield 48, 3) := by decide +kernel
theorem dX9_total_4 : decode (z_c zX9_total) 4 = .ok (.bipush 100, 2) := by decide +kernel
theorem dX9_total_6 : decode (z_c zX9_total) 6 = .ok (.baload, 1) := by decide +kernel
theorem dX9_total_7 : decode (z_c zX9_total) 7 = .ok (.ireturn, 1) := by decide +kernel
theorem dX9_take_0 : decode (z_c zX9_take) 0 = .ok (.iconst 0, 1) := by decide +kernel
theorem dX9_take_1 : decode (z_c zX9_take) 1 = .ok (.istore_n 1, 1) := by decide +kernel
theorem dX9_take_2 : decode (z_c zX9_take) 2 = .ok (.iconst 0, 1) := by decide +kernel
theorem dX9_take_3 : decode (z_c zX9_take) 3 = .ok (.istore_n 2, 1) := by decide +kernel
theorem dX9_take_4 : decode (z_c zX9_take) 4 = .ok (.iload_n 2, 1) := by decide +kernel
theorem dX9_take_5 : decode (z_c zX9_take) 5 = .ok (.bipush 101, 2) := by decide +kernel
theorem dX9_take_7 : decode (z_c zX9_take) 7 = .ok (.if_icmp .ge 44, 3) := by decide +kernel
theorem dX9_take_10 : decode (z_c zX9_take) 10 = .ok (.aload_n 0, 1) := by decide +kernel
theorem dX9_take_11 : decode (z_c zX9_take) 11 = .ok (.getfield 51, 3) := by decide +kernel
theorem dX9_take_14 : decode (z_c zX9_take) 14 = .ok (.iload_n 2, 1) := by decide +kernel
theorem dX9_take_15 : decode (z_c zX9_take) 15 = .ok (.aload_n 0, 1) := by decide +kernel
theorem dX9_take_16 : decode (z_c zX9_take) 16 = .ok (.getfield 48, 3) := by decide +kernel
theorem dX9_take_19 : decode (z_c zX9_take) 19 = .ok (.iload_n 2, 1) := by decide +kernel
theorem dX9_take_20 : decode (z_c zX9_take) 20 = .ok (.baload, 1) := by decide +kernel
theorem dX9_take_21 : decode (z_c zX9_take) 21 = .ok (.bastore, 1) := by decide +kernel
theorem dX9_take_22 : decode (z_c zX9_take) 22 = .ok (.iload_n 1, 1) := by decide +kernel
theorem dX9_take_23 : decode (z_c zX9_take) 23 = .ok (.iload_n 2, 1) := by decide +kernel
theorem dX9_take_24 : decode (z_c zX9_take) 24 = .ok (.bipush 100, 2) := by decide +kernel
theorem dX9_take_26 : decode (z_c zX9_take) 26 = .ok (.if_icmp .ge 16, 3) := by decide +kernel
theorem dX9_take_29 : decode (z_c zX9_take) 29 = .ok (.aload_n 0, 1) := by decide +kernel
theorem dX9_take_30 : decode (z_c zX9_take) 30 = .ok (.getfield 51, 3) := by decide +kernel
theorem dX9_take_33 : decode (z_c zX9_take) 33 = .ok (.iload_n 2, 1) := by decide +kernel
theorem dX9_take_34 : decode (z_c zX9_take) 34 = .ok (.baload, 1) := by decide +kernel
theorem dX9_take_35 : decode (z_c zX9_take) 35 = .ok (.ifCond .eq 7, 3) := by decide +kernel
theorem dX9_take_38 : decode (z_c zX9_take) 38 = .ok (.iconst 1, 1) := by decide +kernel
theorem dX9_take_39 : decode (z_c zX9_take) 39 = .ok (.goto 4, 3) := by decide +kernel
theorem dX9_take_42 : decode (z_c zX9_take) 42 = .ok (.iconst 0, 1) := by decide +kernel
theorem dX9_take_43 : decode (z_c zX9_take) 43 = .ok (.iadd, 1) := by decide +kernel
theorem dX9_take_44 : decode (z_c zX9_take) 44 = .ok (.istore_n 1, 1) := by decide +kernel
theorem dX9_take_45 : decode (z_c zX9_take) 45 = .ok (.iinc 2 1, 3) := by decide +kernel
theorem dX9_take_48 : decode (z_c zX9_take) 48 = .ok (.goto (-44), 3) := by decide +kernel
theorem dX9_take_51 : decode (z_c zX9_take) 51 = .ok (.iload_n 1, 1) := by decide +kernel
theorem dX9_take_52 : decode (z_c zX9_take) 52 = .ok (.ireturn, 1) := by decide +kernel
theorem dX9_change_0 : decode (z_c zX9_change) 0 = .ok (.aload_n 0, 1) := by decide +kernel
theorem dX9_change_1 : decode (z_c zX9_change) 1 = .ok (.getfield 51, 3) := by decide +kernel
theorem dX9_change_4 : decode (z_c zX9_change) 4 = .ok (.iload_n 1, 1) := by decide +kernel
theorem dX9_change_5 : decode (z_c zX9_change) 5 = .ok (.baload, 1) := by decide +kernel
theorem dX9_change_6 : decode (z_c zX9_change) 6 = .ok (.iload_n 2, 1) := by decide +kernel
theorem dX9_change_7 : decode (z_c zX9_change) 7 = .ok (.if_icmp .ne 7, 3) := by decide +kernel
theorem dX9_change_10 : decode (z_c zX9_change) 10 = .ok (.iconst 0, 1) := by decide +kernel
theorem dX9_change_11 : decode (z_c zX9_change) 11 = .ok (.goto 4, 3) := by decide +kernel
theorem dX9_change_14 : decode (z_c zX9_change) 14 = .ok (.iconst 1, 1) := by decide +kernel
theorem dX9_change_15 : decode (z_c zX9_change) 15 = .ok (.istore_n 3, 1) := by decide +kernel
theorem dX9_change_16 : decode (z_c zX9_change) 16 = .ok (.aload_n 0, 1) := by decide +kernel
theorem dX9_change_17 : decode (z_c zX9_change) 17 = .ok (.getfield 51, 3) := by decide +kernel
theorem dX9_change_20 : decode (z_c zX9_change) 20 = .ok (.iload_n 1, 1) := by decide +kernel
theorem dX9_change_21 : decode (z_c zX9_change) 21 = .ok (.iload_n 2, 1) := by decide +kernel
theorem dX9_change_22 : decode (z_c zX9_change) 22 = .ok (.bastore, 1) := by decide +kernel
theorem dX9_change_23 : decode (z_c zX9_change) 23 = .ok (.iload_n 3, 1) := by decide +kernel
theorem dX9_change_24 : decode (z_c zX9_change) 24 = .ok (.ireturn, 1) := by decide +kernel
theorem dX9_tell_0 : decode (z_c zX9_tell) 0 = .ok (.aload_n 0, 1) := by decide +kernel
theorem dX9_tell_1 : decode (z_c zX9_tell) 1 = .ok (.iload_n 1, 1) := by decide +kernel
theorem dX9_tell_2 : decode (z_c zX9_tell) 2 = .ok (.invokevirtual 126, 3) := by decide +kernel
theorem dX9_tell_5 : decode (z_c zX9_tell) 5 = .ok (.ifCond .eq 12, 3) := by decide +kernel
theorem dX9_tell_8 : decode (z_c zX9_tell) 8 = .ok (.aload_n 0, 1) := by decide +kernel
theorem dX9_tell_9 : decode (z_c zX9_tell) 9 = .ok (.iload_n 1, 1) := by decide +kernel
theorem dX9_tell_10 : decode (z_c zX9_tell) 10 = .ok (.iload_n 2, 1) := by decide +kernel
theorem dX9_tell_11 : decode (z_c zX9_tell) 11 = .ok (.invokevirtual 240, 3) := by decide +kernel
theorem dX9_tell_14 : decode (z_c zX9_tell) 14 = .ok (.goto 4, 3) := by decide +kernel
theorem dX9_tell_17 : decode (z_c zX9_tell) 17 = .ok (.iconst (-1), 1) := by decide +kernel
theorem dX9_tell_18 : decode (z_c zX9_tell) 18 = .ok (.ireturn, 1) := by decide +kernel
theorem dX9_name_0 : decode (z_c zX9_name) 0 = .ok (.aload_n 0, 1) := by decide +kernel
theorem dX9_name_1 : decode (z_c zX9_name) 1 = .ok (.bipush 100, 2) := by decide +kernel
theorem dX9_name_3 : decode (z_c zX9_name) 3 = .ok (.iload_n 1, 1) := by decide +kernel
theorem dX9_name_4 : decode (z_c zX9_name) 4 = .ok (.invokevirtual 240, 3) := by decide +kernel
theorem dX9_name_7 : decode (z_c zX9_name) 7 = .ok (.ireturn, 1) := by decide +kernel
theorem dX9_bits_0 : decode (z_c zX9_bits) 0 = .ok (.iconst 0, 1) := by decide +kernel
theorem dX9_bits_1 : decode (z_c zX9_bits) 1 = .ok (.istore_n 1, 1) := by decide +kernel
theorem dX9_bits_2 : decode (z_c zX9_bits) 2 = .ok (.iconst 0, 1) := by decide +kernel
theorem dX9_bits_3 : decode (z_c zX9_bits) 3 = .ok (.istore_n 2, 1) := by decide +kernel
theorem dX9_bits_4 : decode (z_c zX9_bits) 4 = .ok (.iload_n 2, 1) := by decide +kernel
theorem dX9_bits_5 : decode (z_c zX9_bits) 5 = .ok (.bipush 31, 2) := by decide +kernel
theorem dX9_bits_7 : decode (z_c zX9_bits) 7 = .ok (.if_icmp .ge 17, 3) := by decide +kernel
theorem dX9_bits_10 : decode (z_c zX9_bits) 10 = .ok (.iload_n 1, 1) := by decide +kernel
theorem dX9_bits_11 : decode (z_c zX9_bits) 11 = .ok (.iload_n 0, 1) := by decide +kernel
theorem dX9_bits_12 : decode (z_c zX9_bits) 12 = .ok (.iload_n 2, 1) := by decide +kernel
theorem dX9_bits_13 : decode (z_c zX9_bits) 13 = .ok (.ishr, 1) := by decide +kernel
theorem dX9_bits_14 : decode (z_c zX9_bits) 14 = .ok (.iconst 1, 1) := by decide +kernel
theorem dX9_bits_15 : decode (z_c zX9_bits) 15 = .ok (.iand, 1) := by decide +kernel
theorem dX9_bits_16 : decode (z_c zX9_bits) 16 = .ok (.iadd, 1) := by decide +kernel
theorem dX9_bits_17 : decode (z_c zX9_bits) 17 = .ok (.istore_n 1, 1) := by decide +kernel
theorem dX9_bits_18 : decode (z_c zX9_bits) 18 = .ok (.iinc 2 1, 3) := by decide +kernel
theorem dX9_bits_21 : decode (z_c zX9_bits) 21 = .ok (.goto (-17), 3) := by decide +kernel
theorem dX9_bits_24 : decode (z_c zX9_bits) 24 = .ok (.iload_n 1, 1) := by decide +kernel
theorem dX9_bits_25 : decode (z_c zX9_bits) 25 = .ok (.ireturn, 1) := by decide +kernel
theorem dX9_spokenOf_0 : decode (z_c zX9_spokenOf) 0 = .ok (.iconst 1, 1) := by decide +kernel
theorem dX9_spokenOf_1 : decode (z_c zX9_spokenOf) 1 = .ok (.istore_n 2, 1) := by decide +kernel
theorem dX9_spokenOf_2 : decode (z_c zX9_spokenOf) 2 = .ok (.aload_n 0, 1) := by decide +kernel
theorem dX9_spokenOf_3 : decode (z_c zX9_spokenOf) 3 = .ok (.getfield 69, 3) := by decide +kernel
theorem dX9_spokenOf_6 : decode (z_c zX9_spokenOf) 6 = .ok (.iconst 0, 1) := by decide +kernel
theorem dX9_spokenOf_7 : decode (z_c zX9_spokenOf) 7 = .ok (.iload_n 1, 1) := by decide +kernel
theorem dX9_spokenOf_8 : decode (z_c zX9_spokenOf) 8 = .ok (.iastore, 1) := by decide +kernel
theorem dX9_spokenOf_9 : decode (z_c zX9_spokenOf) 9 = .ok (.iconst 0, 1) := by decide +kernel
theorem dX9_spokenOf_10 : decode (z_c zX9_spokenOf) 10 = .ok (.istore_n 3, 1) := by decide +kernel
theorem dX9_spokenOf_11 : decode (z_c zX9_spokenOf) 11 = .ok (.iload_n 3, 1) := by decide +kernel
theorem dX9_spokenOf_12 : decode (z_c zX9_spokenOf) 12 = .ok (.aload_n 0, 1) := by decide +kernel
theorem dX9_spokenOf_13 : decode (z_c zX9_spokenOf) 13 = .ok (.getfield 16, 3) := by decide +kernel
theorem dX9_spokenOf_16 : decode (z_c zX9_spokenOf) 16 = .ok (.if_icmp .ge 102, 3) := by decide +kernel
theorem dX9_spokenOf_19 : decode (z_c zX9_spokenOf) 19 = .ok (.iconst 0, 1) := by decide +kernel
theorem dX9_spokenOf_20 : decode (z_c zX9_spokenOf) 20 = .ok (.istore 4, 2) := by decide +kernel
theorem dX9_spokenOf_22 : decode (z_c zX9_spokenOf) 22 = .ok (.iconst 0, 1) := by decide +kernel
theorem dX9_spokenOf_23 : decode (z_c zX9_spokenOf) 23 = .ok (.istore 5, 2) := by decide +kernel
theorem dX9_spokenOf_25 : decode (z_c zX9_spokenOf) 25 = .ok (.iload 5, 2) := by decide +kernel
theorem dX9_spokenOf_27 : decode (z_c zX9_spokenOf) 27 = .ok (.aload_n 0, 1) := by decide +kernel
theorem dX9_spokenOf_28 : decode (z_c zX9_spokenOf) 28 = .ok (.getfield 16, 3) := by decide +kernel
theorem dX9_spokenOf_31 : decode (z_c zX9_spokenOf) 31 = .ok (.if_icmp .ge 52, 3) := by decide +kernel
theorem dX9_spokenOf_34 : decode (z_c zX9_spokenOf) 34 = .ok (.iload 4, 2) := by decide +kernel
theorem dX9_spokenOf_36 : decode (z_c zX9_spokenOf) 36 = .ok (.ifCond .ne 34, 3) := by decide +kernel
theorem dX9_spokenOf_39 : decode (z_c zX9_spokenOf) 39 = .ok (.aload_n 0, 1) := by decide +kernel
theorem dX9_spokenOf_40 : decode (z_c zX9_spokenOf) 40 = .ok (.getfield 51, 3) := by decide +kernel
theorem dX9_spokenOf_43 : decode (z_c zX9_spokenOf) 43 = .ok (.iload 5, 2) := by decide +kernel
theorem dX9_spokenOf_45 : decode (z_c zX9_spokenOf) 45 = .ok (.baload, 1) := by decide +kernel
theorem dX9_spokenOf_46 : decode (z_c zX9_spokenOf) 46 = .ok (.ifCond .eq 28, 3) := by decide +kernel
theorem dX9_spokenOf_49 : decode (z_c zX9_spokenOf) 49 = .ok (.aload_n 0, 1) := by decide +kernel
theorem dX9_spokenOf_50 : decode (z_c zX9_spokenOf) 50 = .ok (.getfield 26, 3) := by decide +kernel
theorem dX9_spokenOf_53 : decode (z_c zX9_spokenOf) 53 = .ok (.iload 5, 2) := by decide +kernel
theorem dX9_spokenOf_55 : decode (z_c zX9_spokenOf) 55 = .ok (.iaload, 1) := by decide +kernel
theorem dX9_spokenOf_56 : decode (z_c zX9_spokenOf) 56 = .ok (.iconst 1, 1) := by decide +kernel
theorem dX9_spokenOf_57 : decode (z_c zX9_spokenOf) 57 = .ok (.if_icmp .ne 17, 3) := by decide +kernel
theorem dX9_spokenOf_60 : decode (z_c zX9_spokenOf) 60 = .ok (.aload_n 0, 1) := by decide +kernel
theorem dX9_spokenOf_61 : decode (z_c zX9_spokenOf) 61 = .ok (.iload 5, 2) := by decide +kernel
theorem dX9_spokenOf_63 : decode (z_c zX9_spokenOf) 63 = .ok (.iload_n 3, 1) := by decide +kernel
theorem dX9_spokenOf_64 : decode (z_c zX9_spokenOf) 64 = .ok (.invokevirtual 138, 3) := by decide +kernel
theorem dX9_spokenOf_67 : decode (z_c zX9_spokenOf) 67 = .ok (.ifCond .eq 7, 3) := by decide +kernel
theorem dX9_spokenOf_70 : decode (z_c zX9_spokenOf) 70 = .ok (.iconst 1, 1) := by decide +kernel
theorem dX9_spokenOf_71 : decode (z_c zX9_spokenOf) 71 = .ok (.goto 4, 3) := by decide +kernel
theorem dX9_spokenOf_74 : decode (z_c zX9_spokenOf) 74 = .ok (.iconst 0, 1) := by decide +kernel
theorem dX9_spokenOf_75 : decode (z_c zX9_spokenOf) 75 = .ok (.istore 4, 2) := by decide +kernel
theorem dX9_spokenOf_77 : decode (z_c zX9_spokenOf) 77 = .ok (.iinc 5 1, 3) := by decide +kernel
theorem dX9_spokenOf_80 : decode (z_c zX9_spokenOf) 80 = .ok (.goto (-55), 3) := by decide +kernel
theorem dX9_spokenOf_83 : decode (z_c zX9_spokenOf) 83 = .ok (.iload 4, 2) := by decide +kernel
theorem dX9_spokenOf_85 : decode (z_c zX9_spokenOf) 85 = .ok (.ifCond .eq 27, 3) := by decide +kernel
theorem dX9_spokenOf_88 : decode (z_c zX9_spokenOf) 88 = .ok (.aload_n 0, 1) := by decide +kernel
theorem dX9_spokenOf_89 : decode (z_c zX9_spokenOf) 89 = .ok (.getfield 26, 3) := by decide +kernel
theorem dX9_spokenOf_92 : decode (z_c zX9_spokenOf) 92 = .ok (.iload_n 3, 1) := by decide +kernel
theorem dX9_spokenOf_93 : decode (z_c zX9_spokenOf) 93 = .ok (.iaload, 1) := by decide +kernel
theorem dX9_spokenOf_94 : decode (z_c zX9_spokenOf) 94 = .ok (.ifCond .ne 18, 3) := by decide +kernel
theorem dX9_spokenOf_97 : decode (z_c zX9_spokenOf) 97 = .ok (.iload_n 3, 1) := by decide +kernel
theorem dX9_spokenOf_98 : decode (z_c zX9_spokenOf) 98 = .ok (.iload_n 1, 1) := by decide +kernel
theorem dX9_spokenOf_99 : decode (z_c zX9_spokenOf) 99 = .ok (.if_icmp .eq 13, 3) := by decide +kernel
theorem dX9_spokenOf_102 : decode (z_c zX9_spokenOf) 102 = .ok (.aload_n 0, 1) := by decide +kernel
theorem dX9_spokenOf_103 : decode (z_c zX9_spokenOf) 103 = .ok (.getfield 69, 3) := by decide +kernel
theorem dX9_spokenOf_106 : decode (z_c zX9_spokenOf) 106 = .ok (.iload_n 2, 1) := by decide +kernel
theorem dX9_spokenOf_107 : decode (z_c zX9_spokenOf) 107 = .ok (.iload_n 3, 1) := by decide +kernel
theorem dX9_spokenOf_108 : decode (z_c zX9_spokenOf) 108 = .ok (.iastore, 1) := by decide +kernel
theorem dX9_spokenOf_109 : decode (z_c zX9_spokenOf) 109 = .ok (.iinc 2 1, 3) := by decide +kernel
theorem dX9_spokenOf_112 : decode (z_c zX9_spokenOf) 112 = .ok (.iinc 3 1, 3) := by decide +kernel
theorem dX9_spokenOf_115 : decode (z_c zX9_spokenOf) 115 = .ok (.goto (-104), 3) := by decide +kernel
theorem dX9_spokenOf_118 : decode (z_c zX9_spokenOf) 118 = .ok (.iload_n 2, 1) := by decide +kernel
theorem dX9_spokenOf_119 : decode (z_c zX9_spokenOf) 119 = .ok (.ireturn, 1) := by decide +kernel
theorem dX9_check_0 : decode (z_c zX9_check) 0 = .ok (.aload_n 0, 1) := by decide +kernel
theorem dX9_check_1 : decode (z_c zX9_check) 1 = .ok (.iload_n 1, 1) := by decide +kernel
theorem dX9_check_2 : decode (z_c zX9_check) 2 = .ok (.invokevirtual 126, 3) := by decide +kernel
theorem dX9_check_5 : decode (z_c zX9_check) 5 = .ok (.ifCond .eq 12, 3) := by decide +kernel
theorem dX9_check_8 : decode (z_c zX9_check) 8 = .ok (.iload_n 2, 1) := by decide +kernel
theorem dX9_check_9 : decode (z_c zX9_check) 9 = .ok (.ifCond .lt 8, 3) := by decide +kernel
theorem dX9_check_12 : decode (z_c zX9_check) 12 = .ok (.iload_n 2, 1) := by decide +kernel
theorem dX9_check_13 : decode (z_c zX9_check) 13 = .ok (.iconst 1, 1) := by decide +kernel
theorem dX9_check_14 : decode (z_c zX9_check) 14 = .ok (.if_icmp .le 5, 3) := by decide +kernel
theorem dX9_check_17 : decode (z_c zX9_check) 17 = .ok (.iconst (-1), 1) := by decide +kernel
theorem dX9_check_18 : decode (z_c zX9_check) 18 = .ok (.ireturn, 1) := by decide +kernel
theorem dX9_check_19 : decode (z_c zX9_check) 19 = .ok (.aload_n 0, 1) := by decide +kernel
theorem dX9_check_20 : decode (z_c zX9_check) 20 = .ok (.getfield 26, 3) := by decide +kernel
theorem dX9_check_23 : decode (z_c zX9_check) 23 = .ok (.iload_n 1, 1) := by decide +kernel
theorem dX9_check_24 : decode (z_c zX9_check) 24 = .ok (.iaload, 1) := by decide +kernel
theorem dX9_check_25 : decode (z_c zX9_check) 25 = .ok (.ifCond .eq 6, 3) := by decide +kernel
theorem dX9_check_28 : decode (z_c zX9_check) 28 = .ok (.bipush (-2), 2) := by decide +kernel
theorem dX9_check_30 : decode (z_c zX9_check) 30 = .ok (.ireturn, 1) := by decide +kernel
theorem dX9_check_31 : decode (z_c zX9_check) 31 = .ok (.aload_n 0, 1) := by decide +kernel
theorem dX9_check_32 : decode (z_c zX9_check) 32 = .ok (.iload_n 1, 1) := by decide +kernel
theorem dX9_check_33 : decode (z_c zX9_check) 33 = .ok (.invokevirtual 244, 3) := by decide +kernel
theorem dX9_check_36 : decode (z_c zX9_check) 36 = .ok (.istore_n 3, 1) := by decide +kernel
theorem dX9_check_37 : decode (z_c zX9_check) 37 = .ok (.iload_n 3, 1) := by decide +kernel
theorem dX9_check_38 : decode (z_c zX9_check) 38 = .ok (.bipush 14, 2) := by decide +kernel
theorem dX9_check_40 : decode (z_c zX9_check) 40 = .ok (.if_icmp .le 6, 3) := by decide +kernel
theorem dX9_check_43 : decode (z_c zX9_check) 43 = .ok (.bipush (-3), 2) := by decide +kernel
theorem dX9_check_45 : decode (z_c zX9_check) 45 = .ok (.ireturn, 1) := by decide +kernel
theorem dX9_check_46 : decode (z_c zX9_check) 46 = .ok (.iconst 0, 1) := by decide +kernel
theorem dX9_check_47 : decode (z_c zX9_check) 47 = .ok (.istore 4, 2) := by decide +kernel
theorem dX9_check_49 : decode (z_c zX9_check) 49 = .ok (.iconst 0, 1) := by decide +kernel
theorem dX9_check_50 : decode (z_c zX9_check) 50 = .ok (.istore 5, 2) := by decide +kernel
theorem dX9_check_52 : decode (z_c zX9_check) 52 = .ok (.iload 5, 2) := by decide +kernel
theorem dX9_check_54 : decode (z_c zX9_check) 54 = .ok (.aload_n 0, 1) := by decide +kernel
theorem dX9_check_55 : decode (z_c zX9_check) 55 = .ok (.getfield 16, 3) := by decide +kernel
theorem dX9_check_58 : decode (z_c zX9_check) 58 = .ok (.if_icmp .ge 110, 3) := by decide +kernel
theorem dX9_check_61 : decode (z_c zX9_check) 61 = .ok (.aload_n 0, 1) := by decide +kernel
theorem dX9_check_62 : decode (z_c zX9_check) 62 = .ok (.getfield 51, 3) := by decide +kernel
theorem dX9_check_65 : decode (z_c zX9_check) 65 = .ok (.iload 5, 2) := by decide +kernel
theorem dX9_check_67 : decode (z_c zX9_check) 67 = .ok (.baload, 1) := by decide +kernel
theorem dX9_check_68 : decode (z_c zX9_check) 68 = .ok (.ifCond .eq 94, 3) := by decide +kernel
theorem dX9_check_71 : decode (z_c zX9_check) 71 = .ok (.aload_n 0, 1) := by decide +kernel
theorem dX9_check_72 : decode (z_c zX9_check) 72 = .ok (.getfield 26, 3) := by decide +kernel
theorem dX9_check_75 : decode (z_c zX9_check) 75 = .ok (.iload 5, 2) := by decide +kernel
theorem dX9_check_77 : decode (z_c zX9_check) 77 = .ok (.iaload, 1) := by decide +kernel
theorem dX9_check_78 : decode (z_c zX9_check) 78 = .ok (.iconst 1, 1) := by decide +kernel
theorem dX9_check_79 : decode (z_c zX9_check) 79 = .ok (.if_icmp .ne 83, 3) := by decide +kernel
theorem dX9_check_82 : decode (z_c zX9_check) 82 = .ok (.iconst 0, 1) := by decide +kernel
theorem dX9_check_83 : decode (z_c zX9_check) 83 = .ok (.istore 6, 2) := by decide +kernel
theorem dX9_check_85 : decode (z_c zX9_check) 85 = .ok (.iconst 0, 1) := by decide +kernel
theorem dX9_check_86 : decode (z_c zX9_check) 86 = .ok (.istore 7, 2) := by decide +kernel
theorem dX9_check_88 : decode (z_c zX9_check) 88 = .ok (.iload 7, 2) := by decide +kernel
theorem dX9_check_90 : decode (z_c zX9_check) 90 = .ok (.iload_n 3, 1) := by decide +kernel
theorem dX9_check_91 : decode (z_c zX9_check) 91 = .ok (.if_icmp .ge 38, 3) := by decide +kernel
theorem dX9_check_94 : decode (z_c zX9_check) 94 = .ok (.iload 6, 2) := by decide +kernel
theorem dX9_check_96 : decode (z_c zX9_check) 96 = .ok (.aload_n 0, 1) := by decide +kernel
theorem dX9_check_97 : decode (z_c zX9_check) 97 = .ok (.iload 5, 2) := by decide +kernel
theorem dX9_check_99 : decode (z_c zX9_check) 99 = .ok (.aload_n 0, 1) := by decide +kernel
theorem dX9_check_100 : decode (z_c zX9_check) 100 = .ok (.getfield 69, 3) := by decide +kernel
theorem dX9_check_103 : decode (z_c zX9_check) 103 = .ok (.iload 7, 2) := by decide +kernel
theorem dX9_check_105 : decode (z_c zX9_check) 105 = .ok (.iaload, 1) := by decide +kernel
theorem dX9_check_106 : decode (z_c zX9_check) 106 = .ok (.invokevirtual 138, 3) := by decide +kernel
theorem dX9_check_109 : decode (z_c zX9_check) 109 = .ok (.ifCond .eq 10, 3) := by decide +kernel
theorem dX9_check_112 : decode (z_c zX9_check) 112 = .ok (.iconst 1, 1) := by decide +kernel
theorem dX9_check_113 : decode (z_c zX9_check) 113 = .ok (.iload 7, 2) := by decide +kernel
theorem dX9_check_115 : decode (z_c zX9_check) 115 = .ok (.ishl, 1) := by decide +kernel
theorem dX9_check_116 : decode (z_c zX9_check) 116 = .ok (.goto 4, 3) := by decide +kernel
theorem dX9_check_119 : decode (z_c zX9_check) 119 = .ok (.iconst 0, 1) := by decide +kernel
theorem dX9_check_120 : decode (z_c zX9_check) 120 = .ok (.iadd, 1) := by decide +kernel
theorem dX9_check_121 : decode (z_c zX9_check) 121 = .ok (.istore 6, 2) := by decide +kernel
theorem dX9_check_123 : decode (z_c zX9_check) 123 = .ok (.iinc 7 1, 3) := by decide +kernel
theorem dX9_check_126 : decode (z_c zX9_check) 126 = .ok (.goto (-38), 3) := by decide +kernel
theorem dX9_check_129 : decode (z_c zX9_check) 129 = .ok (.aload_n 0, 1) := by decide +kernel
theorem dX9_check_130 : decode (z_c zX9_check) 130 = .ok (.getfield 94, 3) := by decide +kernel
theorem dX9_check_133 : decode (z_c zX9_check) 133 = .ok (.iload 4, 2) := by decide +kernel
theorem dX9_check_135 : decode (z_c zX9_check) 135 = .ok (.iload 6, 2) := by decide +kernel
theorem dX9_check_137 : decode (z_c zX9_check) 137 = .ok (.iastore, 1) := by decide +kernel
theorem dX9_check_138 : decode (z_c zX9_check) 138 = .ok (.aload_n 0, 1) := by decide +kernel
theorem dX9_check_139 : decode (z_c zX9_check) 139 = .ok (.getfield 97, 3) := by decide +kernel
theorem dX9_check_142 : decode (z_c zX9_check) 142 = .ok (.iload 4, 2) := by decide +kernel
theorem dX9_check_144 : decode (z_c zX9_check) 144 = .ok (.aload_n 0, 1) := by decide +kernel
theorem dX9_check_145 : decode (z_c zX9_check) 145 = .ok (.iload 5, 2) := by decide +kernel
theorem dX9_check_147 : decode (z_c zX9_check) 147 = .ok (.invokevirtual 142, 3) := by decide +kernel
theorem dX9_check_150 : decode (z_c zX9_check) 150 = .ok (.aload_n 0, 1) := by decide +kernel
theorem dX9_check_151 : decode (z_c zX9_check) 151 = .ok (.iload 5, 2) := by decide +kernel
theorem dX9_check_153 : decode (z_c zX9_check) 153 = .ok (.iconst 2, 1) := by decide +kernel
theorem dX9_check_154 : decode (z_c zX9_check) 154 = .ok (.invokevirtual 165, 3) := by decide +kernel
theorem dX9_check_157 : decode (z_c zX9_check) 157 = .ok (.isub, 1) := by decide +kernel
theorem dX9_check_158 : decode (z_c zX9_check) 158 = .ok (.iastore, 1) := by decide +kernel
theorem dX9_check_159 : decode (z_c zX9_check) 159 = .ok (.iinc 4 1, 3) := by decide +kernel
theorem dX9_check_162 : decode (z_c zX9_check) 162 = .ok (.iinc 5 1, 3) := by decide +kernel
theorem dX9_check_165 : decode (z_c zX9_check) 165 = .ok (.goto (-113), 3) := by decide +kernel
theorem dX9_check_168 : decode (z_c zX9_check) 168 = .ok (.aload_n 0, 1) := by decide +kernel
theorem dX9_check_169 : decode (z_c zX9_check) 169 = .ok (.iconst 0, 1) := by decide +kernel
theorem dX9_check_170 : decode (z_c zX9_check) 170 = .ok (.invokevirtual 130, 3) := by decide +kernel
theorem dX9_check_173 : decode (z_c zX9_check) 173 = .ok (.iload_n 3, 1) := by decide +kernel
theorem dX9_check_174 : decode (z_c zX9_check) 174 = .ok (.isub, 1) := by decide +kernel
theorem dX9_check_175 : decode (z_c zX9_check) 175 = .ok (.istore 5, 2) := by decide +kernel
theorem dX9_check_177 : decode (z_c zX9_check) 177 = .ok (.aload_n 0, 1) := by decide +kernel
theorem dX9_check_178 : decode (z_c zX9_check) 178 = .ok (.invokevirtual 134, 3) := by decide +kernel
theorem dX9_check_181 : decode (z_c zX9_check) 181 = .ok (.aload_n 0, 1) := by decide +kernel
theorem dX9_check_182 : decode (z_c zX9_check) 182 = .ok (.iconst 2, 1) := by decide +kernel
theorem dX9_check_183 : decode (z_c zX9_check) 183 = .ok (.invokevirtual 130, 3) := by decide +kernel
theorem dX9_check_186 : decode (z_c zX9_check) 186 = .ok (.isub, 1) := by decide +kernel
theorem dX9_check_187 : decode (z_c zX9_check) 187 = .ok (.istore 6, 2) := by decide +kernel
theorem dX9_check_189 : decode (z_c zX9_check) 189 = .ok (.iconst 0, 1) := by decide +kernel
theorem dX9_check_190 : decode (z_c zX9_check) 190 = .ok (.istore 7, 2) := by decide +kernel
theorem dX9_check_192 : decode (z_c zX9_check) 192 = .ok (.iload 7, 2) := by decide +kernel
theorem dX9_check_194 : decode (z_c zX9_check) 194 = .ok (.iconst 1, 1) := by decide +kernel
theorem dX9_check_195 : decode (z_c zX9_check) 195 = .ok (.iload_n 3, 1) := by decide +kernel
theorem dX9_check_196 : decode (z_c zX9_check) 196 = .ok (.ishl, 1) := by decide +kernel
theorem dX9_check_197 : decode (z_c zX9_check) 197 = .ok (.if_icmp .ge 123, 3) := by decide +kernel
theorem dX9_check_200 : decode (z_c zX9_check) 200 = .ok (.iload 7, 2) := by decide +kernel
theorem dX9_check_202 : decode (z_c zX9_check) 202 = .ok (.iconst 1, 1) := by decide +kernel
theorem dX9_check_203 : decode (z_c zX9_check) 203 = .ok (.iand, 1) := by decide +kernel
theorem dX9_check_204 : decode (z_c zX9_check) 204 = .ok (.iload_n 2, 1) := by decide +kernel
theorem dX9_check_205 : decode (z_c zX9_check) 205 = .ok (.if_icmp .eq 7, 3) := by decide +kernel
theorem dX9_check_208 : decode (z_c zX9_check) 208 = .ok (.iconst 1, 1) := by decide +kernel
theorem dX9_check_209 : decode (z_c zX9_check) 209 = .ok (.goto 4, 3) := by decide +kernel
theorem dX9_check_212 : decode (z_c zX9_check) 212 = .ok (.iconst 0, 1) := by decide +kernel
theorem dX9_check_213 : decode (z_c zX9_check) 213 = .ok (.istore 8, 2) := by decide +kernel
theorem dX9_check_215 : decode (z_c zX9_check) 215 = .ok (.iconst 0, 1) := by decide +kernel
theorem dX9_check_216 : decode (z_c zX9_check) 216 = .ok (.istore 9, 2) := by decide +kernel
theorem dX9_check_218 : decode (z_c zX9_check) 218 = .ok (.iload 9, 2) := by decide +kernel
theorem dX9_check_220 : decode (z_c zX9_check) 220 = .ok (.iload 4, 2) := by decide +kernel
theorem dX9_check_222 : decode (z_c zX9_check) 222 = .ok (.if_icmp .ge 44, 3) := by decide +kernel
theorem dX9_check_225 : decode (z_c zX9_check) 225 = .ok (.iload 8, 2) := by decide +kernel
theorem dX9_check_227 : decode (z_c zX9_check) 227 = .ok (.ifCond .eq 39, 3) := by decide +kernel
theorem dX9_check_230 : decode (z_c zX9_check) 230 = .ok (.iload 7, 2) := by decide +kernel
theorem dX9_check_232 : decode (z_c zX9_check) 232 = .ok (.aload_n 0, 1) := by decide +kernel
theorem dX9_check_233 : decode (z_c zX9_check) 233 = .ok (.getfield 94, 3) := by decide +kernel
theorem dX9_check_236 : decode (z_c zX9_check) 236 = .ok (.iload 9, 2) := by decide +kernel
theorem dX9_check_238 : decode (z_c zX9_check) 238 = .ok (.iaload, 1) := by decide +kernel
theorem dX9_check_239 : decode (z_c zX9_check) 239 = .ok (.iand, 1) := by decide +kernel
theorem dX9_check_240 : decode (z_c zX9_check) 240 = .ok (.invokestatic 247, 3) := by decide +kernel
theorem dX9_check_243 : decode (z_c zX9_check) 243 = .ok (.aload_n 0, 1) := by decide +kernel
theorem dX9_check_244 : decode (z_c zX9_check) 244 = .ok (.getfield 97, 3) := by decide +kernel
theorem dX9_check_247 : decode (z_c zX9_check) 247 = .ok (.iload 9, 2) := by decide +kernel
theorem dX9_check_249 : decode (z_c zX9_check) 249 = .ok (.iaload, 1) := by decide +kernel
theorem dX9_check_250 : decode (z_c zX9_check) 250 = .ok (.if_icmp .ne 7, 3) := by decide +kernel
theorem dX9_check_253 : decode (z_c zX9_check) 253 = .ok (.iconst 1, 1) := by decide +kernel
theorem dX9_check_254 : decode (z_c zX9_check) 254 = .ok (.goto 4, 3) := by decide +kernel
theorem dX9_check_257 : decode (z_c zX9_check) 257 = .ok (.iconst 0, 1) := by decide +kernel
theorem dX9_check_258 : decode (z_c zX9_check) 258 = .ok (.istore 8, 2) := by decide +kernel
theorem dX9_check_260 : decode (z_c zX9_check) 260 = .ok (.iinc 9 1, 3) := by decide +kernel
theorem dX9_check_263 : decode (z_c zX9_check) 263 = .ok (.goto (-45), 3) := by decide +kernel
theorem dX9_check_266 : decode (z_c zX9_check) 266 = .ok (.iload 8, 2) := by decide +kernel
theorem dX9_check_268 : decode (z_c zX9_check) 268 = .ok (.ifCond .eq 14, 3) := by decide +kernel
theorem dX9_check_271 : decode (z_c zX9_check) 271 = .ok (.iload 6, 2) := by decide +kernel
theorem dX9_check_273 : decode (z_c zX9_check) 273 = .ok (.iload 7, 2) := by decide +kernel
theorem dX9_check_275 : decode (z_c zX9_check) 275 = .ok (.invokestatic 247, 3) := by decide +kernel
theorem dX9_check_278 : decode (z_c zX9_check) 278 = .ok (.isub, 1) := by decide +kernel
theorem dX9_check_279 : decode (z_c zX9_check) 279 = .ok (.goto 4, 3) := by decide +kernel
theorem dX9_check_282 : decode (z_c zX9_check) 282 = .ok (.iconst 0, 1) := by decide +kernel
theorem dX9_check_283 : decode (z_c zX9_check) 283 = .ok (.istore 9, 2) := by decide +kernel
theorem dX9_check_285 : decode (z_c zX9_check) 285 = .ok (.iload 8, 2) := by decide +kernel
theorem dX9_check_287 : decode (z_c zX9_check) 287 = .ok (.ifCond .eq 27, 3) := by decide +kernel
theorem dX9_check_290 : decode (z_c zX9_check) 290 = .ok (.aload_n 0, 1) := by decide +kernel
theorem dX9_check_291 : decode (z_c zX9_check) 291 = .ok (.getfield 51, 3) := by decide +kernel
theorem dX9_check_294 : decode (z_c zX9_check) 294 = .ok (.bipush 100, 2) := by decide +kernel
theorem dX9_check_296 : decode (z_c zX9_check) 296 = .ok (.baload, 1) := by decide +kernel
theorem dX9_check_297 : decode (z_c zX9_check) 297 = .ok (.ifCond .eq 15, 3) := by decide +kernel
theorem dX9_check_300 : decode (z_c zX9_check) 300 = .ok (.iload 9, 2) := by decide +kernel
theorem dX9_check_302 : decode (z_c zX9_check) 302 = .ok (.ifCond .lt 12, 3) := by decide +kernel
theorem dX9_check_305 : decode (z_c zX9_check) 305 = .ok (.iload 9, 2) := by decide +kernel
theorem dX9_check_307 : decode (z_c zX9_check) 307 = .ok (.iload 5, 2) := by decide +kernel
theorem dX9_check_309 : decode (z_c zX9_check) 309 = .ok (.if_icmp .gt 5, 3) := by decide +kernel
theorem dX9_check_312 : decode (z_c zX9_check) 312 = .ok (.iconst 0, 1) := by decide +kernel
theorem dX9_check_313 : decode (z_c zX9_check) 313 = .ok (.ireturn, 1) := by decide +kernel
theorem dX9_check_314 : decode (z_c zX9_check) 314 = .ok (.iinc 7 1, 3) := by decide +kernel
theorem dX9_check_317 : decode (z_c zX9_check) 317 = .ok (.goto (-125), 3) := by decide +kernel
theorem dX9_check_320 : decode (z_c zX9_check) 320 = .ok (.iconst 1, 1) := by decide +kernel
theorem dX9_check_321 : decode (z_c zX9_check) 321 = .ok (.ireturn, 1) := by decide +kernel
theorem dX9_findParts_0 : decode (z_c zX9_findParts) 0 = .ok (.iconst 0, 1) := by decide +kernel
theorem dX9_findParts_1 : decode (z_c zX9_findParts) 1 = .ok (.istore_n 1, 1) := by decide +kernel
theorem dX9_findParts_2 : decode (z_c zX9_findParts) 2 = .ok (.iload_n 1, 1) := by decide +kernel
theorem dX9_findParts_3 : decode (z_c zX9_findParts) 3 = .ok (.aload_n 0, 1) := by decide +kernel
theorem dX9_findParts_4 : decode (z_c zX9_findParts) 4 = .ok (.getfield 16, 3) := by decide +kernel
theorem dX9_findParts_7 : decode (z_c zX9_findParts) 7 = .ok (.if_icmp .ge 38, 3) := by decide +kernel
theorem dX9_findParts_10 : decode (z_c zX9_findParts) 10 = .ok (.aload_n 0, 1) := by decide +kernel
theorem dX9_findParts_11 : decode (z_c zX9_findParts) 11 = .ok (.getfield 66, 3) := by decide +kernel
theorem dX9_findParts_14 : decode (z_c zX9_findParts) 14 = .ok (.iload_n 1, 1) := by decide +kernel
theorem dX9_findParts_15 : decode (z_c zX9_findParts) 15 = .ok (.aload_n 0, 1) := by decide +kernel
theorem dX9_findParts_16 : decode (z_c zX9_findParts) 16 = .ok (.getfield 26, 3) := by decide +kernel
theorem dX9_findParts_19 : decode (z_c zX9_findParts) 19 = .ok (.iload_n 1, 1) := by decide +kernel
theorem dX9_findParts_20 : decode (z_c zX9_findParts) 20 = .ok (.iaload, 1) := by decide +kernel
theorem dX9_findParts_21 : decode (z_c zX9_findParts) 21 = .ok (.ifCond .ne 16, 3) := by decide +kernel
theorem dX9_findParts_24 : decode (z_c zX9_findParts) 24 = .ok (.aload_n 0, 1) := by decide +kernel
theorem dX9_findParts_25 : decode (z_c zX9_findParts) 25 = .ok (.iload_n 1, 1) := by decide +kernel
theorem dX9_findParts_26 : decode (z_c zX9_findParts) 26 = .ok (.iconst 1, 1) := by decide +kernel
theorem dX9_findParts_27 : decode (z_c zX9_findParts) 27 = .ok (.invokevirtual 165, 3) := by decide +kernel
theorem dX9_findParts_30 : decode (z_c zX9_findParts) 30 = .ok (.ifCond .le 7, 3) := by decide +kernel
theorem dX9_findParts_33 : decode (z_c zX9_findParts) 33 = .ok (.iload_n 1, 1) := by decide +kernel
theorem dX9_findParts_34 : decode (z_c zX9_findParts) 34 = .ok (.goto 4, 3) := by decide +kernel
theorem dX9_findParts_37 : decode (z_c zX9_findParts) 37 = .ok (.iconst (-1), 1) := by decide +kernel
theorem dX9_findParts_38 : decode (z_c zX9_findParts) 38 = .ok (.iastore, 1) := by decide +kernel
theorem dX9_findParts_39 : decode (z_c zX9_findParts) 39 = .ok (.iinc 1 1, 3) := by decide +kernel
theorem dX9_findParts_42 : decode (z_c zX9_findParts) 42 = .ok (.goto (-40), 3) := by decide +kernel
theorem dX9_findParts_45 : decode (z_c zX9_findParts) 45 = .ok (.iconst 1, 1) := by decide +kernel
theorem dX9_findParts_46 : decode (z_c zX9_findParts) 46 = .ok (.istore_n 1, 1) := by decide +kernel
theorem dX9_findParts_47 : decode (z_c zX9_findParts) 47 = .ok (.iload_n 1, 1) := by decide +kernel
theorem dX9_findParts_48 : decode (z_c zX9_findParts) 48 = .ok (.ifCond .eq 147, 3) := by decide +kernel
theorem dX9_findParts_51 : decode (z_c zX9_findParts) 51 = .ok (.iconst 0, 1) := by decide +kernel
theorem dX9_findParts_52 : decode (z_c zX9_findParts) 52 = .ok (.istore_n 1, 1) := by decide +kernel
theorem dX9_findParts_53 : decode (z_c zX9_findParts) 53 = .ok (.iconst 0, 1) := by decide +kernel
theorem dX9_findParts_54 : decode (z_c zX9_findParts) 54 = .ok (.istore_n 2, 1) := by decide +kernel
theorem dX9_findParts_55 : decode (z_c zX9_findParts) 55 = .ok (.iload_n 2, 1) := by decide +kernel
theorem dX9_findParts_56 : decode (z_c zX9_findParts) 56 = .ok (.aload_n 0, 1) := by decide +kernel
theorem dX9_findParts_57 : decode (z_c zX9_findParts) 57 = .ok (.getfield 16, 3) := by decide +kernel
theorem dX9_findParts_60 : decode (z_c zX9_findParts) 60 = .ok (.if_icmp .ge 132, 3) := by decide +kernel
theorem dX9_findParts_63 : decode (z_c zX9_findParts) 63 = .ok (.aload_n 0, 1) := by decide +kernel
theorem dX9_findParts_64 : decode (z_c zX9_findParts) 64 = .ok (.getfield 26, 3) := by decide +kernel
theorem dX9_findParts_67 : decode (z_c zX9_findParts) 67 = .ok (.iload_n 2, 1) := by decide +kernel
theorem dX9_findParts_68 : decode (z_c zX9_findParts) 68 = .ok (.iaload, 1) := by decide +kernel
theorem dX9_findParts_69 : decode (z_c zX9_findParts) 69 = .ok (.iconst 1, 1) := by decide +kernel
theorem dX9_findParts_70 : decode (z_c zX9_findParts) 70 = .ok (.if_icmp .ne 116, 3) := by decide +kernel
theorem dX9_findParts_73 : decode (z_c zX9_findParts) 73 = .ok (.bipush 100, 2) := by decide +kernel
theorem dX9_findParts_75 : decode (z_c zX9_findParts) 75 = .ok (.istore_n 3, 1) := by decide +kernel
theorem dX9_findParts_76 : decode (z_c zX9_findParts) 76 = .ok (.iconst 0, 1) := by decide +kernel
theorem dX9_findParts_77 : decode (z_c zX9_findParts) 77 = .ok (.istore 4, 2) := by decide +kernel
theorem dX9_findParts_79 : decode (z_c zX9_findParts) 79 = .ok (.iload 4, 2) := by decide +kernel
theorem dX9_findParts_81 : decode (z_c zX9_findParts) 81 = .ok (.aload_n 0, 1) := by decide +kernel
theorem dX9_findParts_82 : decode (z_c zX9_findParts) 82 = .ok (.getfield 16, 3) := by decide +kernel
theorem dX9_findParts_85 : decode (z_c zX9_findParts) 85 = .ok (.if_icmp .ge 52, 3) := by decide +kernel
theorem dX9_findParts_88 : decode (z_c zX9_findParts) 88 = .ok (.aload_n 0, 1) := by decide +kernel
theorem dX9_findParts_89 : decode (z_c zX9_findParts) 89 = .ok (.iload_n 2, 1) := by decide +kernel
theorem dX9_findParts_90 : decode (z_c zX9_findParts) 90 = .ok (.iload 4, 2) := by decide +kernel
theorem dX9_findParts_92 : decode (z_c zX9_findParts) 92 = .ok (.invokevirtual 138, 3) := by decide +kernel
theorem dX9_findParts_95 : decode (z_c zX9_findParts) 95 = .ok (.ifCond .eq 34, 3) := by decide +kernel
theorem dX9_findParts_98 : decode (z_c zX9_findParts) 98 = .ok (.aload_n 0, 1) := by decide +kernel
theorem dX9_findParts_99 : decode (z_c zX9_findParts) 99 = .ok (.getfield 66, 3) := by decide +kernel
theorem dX9_findParts_102 : decode (z_c zX9_findParts) 102 = .ok (.iload 4, 2) := by decide +kernel
theorem dX9_findParts_104 : decode (z_c zX9_findParts) 104 = .ok (.iaload, 1) := by decide +kernel
theorem dX9_findParts_105 : decode (z_c zX9_findParts) 105 = .ok (.ifCond .lt 24, 3) := by decide +kernel
theorem dX9_findParts_108 : decode (z_c zX9_findParts) 108 = .ok (.aload_n 0, 1) := by decide +kernel
theorem dX9_findParts_109 : decode (z_c zX9_findParts) 109 = .ok (.getfield 66, 3) := by decide +kernel
theorem dX9_findParts_112 : decode (z_c zX9_findParts) 112 = .ok (.iload 4, 2) := by decide +kernel
theorem dX9_findParts_114 : decode (z_c zX9_findParts) 114 = .ok (.iaload, 1) := by decide +kernel
theorem dX9_findParts_115 : decode (z_c zX9_findParts) 115 = .ok (.iload_n 3, 1) := by decide +kernel
theorem dX9_findParts_116 : decode (z_c zX9_findParts) 116 = .ok (.if_icmp .ge 13, 3) := by decide +kernel
theorem dX9_findParts_119 : decode (z_c zX9_findParts) 119 = .ok (.aload_n 0, 1) := by decide +kernel
theorem dX9_findParts_120 : decode (z_c zX9_findParts) 120 = .ok (.getfield 66, 3) := by decide +kernel
theorem dX9_findParts_123 : decode (z_c zX9_findParts) 123 = .ok (.iload 4, 2) := by decide +kernel
theorem dX9_findParts_125 : decode (z_c zX9_findParts) 125 = .ok (.iaload, 1) := by decide +kernel
theorem dX9_findParts_126 : decode (z_c zX9_findParts) 126 = .ok (.goto 4, 3) := by decide +kernel
theorem dX9_findParts_129 : decode (z_c zX9_findParts) 129 = .ok (.iload_n 3, 1) := by decide +kernel
theorem dX9_findParts_130 : decode (z_c zX9_findParts) 130 = .ok (.istore_n 3, 1) := by decide +kernel
theorem dX9_findParts_131 : decode (z_c zX9_findParts) 131 = .ok (.iinc 4 1, 3) := by decide +kernel
theorem dX9_findParts_134 : decode (z_c zX9_findParts) 134 = .ok (.goto (-55), 3) := by decide +kernel
theorem dX9_findParts_137 : decode (z_c zX9_findParts) 137 = .ok (.iconst 0, 1) := by decide +kernel
theorem dX9_findParts_138 : decode (z_c zX9_findParts) 138 = .ok (.istore 4, 2) := by decide +kernel
theorem dX9_findParts_140 : decode (z_c zX9_findParts) 140 = .ok (.iload 4, 2) := by decide +kernel
theorem dX9_findParts_142 : decode (z_c zX9_findParts) 142 = .ok (.aload_n 0, 1) := by decide +kernel
theorem dX9_findParts_143 : decode (z_c zX9_findParts) 143 = .ok (.getfield 16, 3) := by decide +kernel
theorem dX9_findParts_146 : decode (z_c zX9_findParts) 146 = .ok (.if_icmp .ge 40, 3) := by decide +kernel
theorem dX9_findParts_149 : decode (z_c zX9_findParts) 149 = .ok (.aload_n 0, 1) := by decide +kernel
theorem dX9_findParts_150 : decode (z_c zX9_findParts) 150 = .ok (.iload_n 2, 1) := by decide +kernel
theorem dX9_findParts_151 : decode (z_c zX9_findParts) 151 = .ok (.iload 4, 2) := by decide +kernel
theorem dX9_findParts_153 : decode (z_c zX9_findParts) 153 = .ok (.invokevirtual 138, 3) := by decide +kernel
theorem dX9_findParts_156 : decode (z_c zX9_findParts) 156 = .ok (.ifCond .eq 24, 3) := by decide +kernel
theorem dX9_findParts_159 : decode (z_c zX9_findParts) 159 = .ok (.aload_n 0, 1) := by decide +kernel
theorem dX9_findParts_160 : decode (z_c zX9_findParts) 160 = .ok (.getfield 66, 3) := by decide +kernel
theorem dX9_findParts_163 : decode (z_c zX9_findParts) 163 = .ok (.iload 4, 2) := by decide +kernel
theorem dX9_findParts_165 : decode (z_c zX9_findParts) 165 = .ok (.iaload, 1) := by decide +kernel
theorem dX9_findParts_166 : decode (z_c zX9_findParts) 166 = .ok (.iload_n 3, 1) := by decide +kernel
theorem dX9_findParts_167 : decode (z_c zX9_findParts) 167 = .ok (.if_icmp .le 13, 3) := by decide +kernel
theorem dX9_findParts_170 : decode (z_c zX9_findParts) 170 = .ok (.aload_n 0, 1) := by decide +kernel
theorem dX9_findParts_171 : decode (z_c zX9_findParts) 171 = .ok (.getfield 66, 3) := by decide +kernel
theorem dX9_findParts_174 : decode (z_c zX9_findParts) 174 = .ok (.iload 4, 2) := by decide +kernel
theorem dX9_findParts_176 : decode (z_c zX9_findParts) 176 = .ok (.iload_n 3, 1) := by decide +kernel
theorem dX9_findParts_177 : decode (z_c zX9_findParts) 177 = .ok (.iastore, 1) := by decide +kernel
theorem dX9_findParts_178 : decode (z_c zX9_findParts) 178 = .ok (.iconst 1, 1) := by decide +kernel
theorem dX9_findParts_179 : decode (z_c zX9_findParts) 179 = .ok (.istore_n 1, 1) := by decide +kernel
theorem dX9_findParts_180 : decode (z_c zX9_findParts) 180 = .ok (.iinc 4 1, 3) := by decide +kernel
theorem dX9_findParts_183 : decode (z_c zX9_findParts) 183 = .ok (.goto (-43), 3) := by decide +kernel
theorem dX9_findParts_186 : decode (z_c zX9_findParts) 186 = .ok (.iinc 2 1, 3) := by decide +kernel
theorem dX9_findParts_189 : decode (z_c zX9_findParts) 189 = .ok (.goto (-134), 3) := by decide +kernel
theorem dX9_findParts_192 : decode (z_c zX9_findParts) 192 = .ok (.goto (-145), 3) := by decide +kernel
theorem dX9_findParts_195 : decode (z_c zX9_findParts) 195 = .ok (.aload_n 0, 1) := by decide +kernel
theorem dX9_findParts_196 : decode (z_c zX9_findParts) 196 = .ok (.iconst 0, 1) := by decide +kernel
theorem dX9_findParts_197 : decode (z_c zX9_findParts) 197 = .ok (.putfield 250, 3) := by decide +kernel
theorem dX9_findParts_200 : decode (z_c zX9_findParts) 200 = .ok (.aload_n 0, 1) := by decide +kernel
theorem dX9_findParts_201 : decode (z_c zX9_findParts) 201 = .ok (.iconst 0, 1) := by decide +kernel
theorem dX9_findParts_202 : decode (z_c zX9_findParts) 202 = .ok (.putfield 253, 3) := by decide +kernel
theorem dX9_findParts_205 : decode (z_c zX9_findParts) 205 = .ok (.iconst 1, 1) := by decide +kernel
theorem dX9_findParts_206 : decode (z_c zX9_findParts) 206 = .ok (.istore_n 2, 1) := by decide +kernel
theorem dX9_findParts_207 : decode (z_c zX9_findParts) 207 = .ok (.iconst 0, 1) := by decide +kernel
theorem dX9_findParts_208 : decode (z_c zX9_findParts) 208 = .ok (.istore_n 3, 1) := by decide +kernel
theorem dX9_findParts_209 : decode (z_c zX9_findParts) 209 = .ok (.iload_n 3, 1) := by decide +kernel
theorem dX9_findParts_210 : decode (z_c zX9_findParts) 210 = .ok (.aload_n 0, 1) := by decide +kernel
theorem dX9_findParts_211 : decode (z_c zX9_findParts) 211 = .ok (.getfield 16, 3) := by decide +kernel
theorem dX9_findParts_214 : decode (z_c zX9_findParts) 214 = .ok (.if_icmp .ge 175, 3) := by decide +kernel
theorem dX9_findParts_217 : decode (z_c zX9_findParts) 217 = .ok (.aload_n 0, 1) := by decide +kernel
theorem dX9_findParts_218 : decode (z_c zX9_findParts) 218 = .ok (.dup, 1) := by decide +kernel
theorem dX9_findParts_219 : decode (z_c zX9_findParts) 219 = .ok (.getfield 253, 3) := by decide +kernel
theorem dX9_findParts_222 : decode (z_c zX9_findParts) 222 = .ok (.aload_n 0, 1) := by decide +kernel
theorem dX9_findParts_223 : decode (z_c zX9_findParts) 223 = .ok (.getfield 26, 3) := by decide +kernel
theorem dX9_findParts_226 : decode (z_c zX9_findParts) 226 = .ok (.iload_n 3, 1) := by decide +kernel
theorem dX9_findParts_227 : decode (z_c zX9_findParts) 227 = .ok (.iaload, 1) := by decide +kernel
theorem dX9_findParts_228 : decode (z_c zX9_findParts) 228 = .ok (.ifCond .ne 16, 3) := by decide +kernel
theorem dX9_findParts_231 : decode (z_c zX9_findParts) 231 = .ok (.aload_n 0, 1) := by decide +kernel
theorem dX9_findParts_232 : decode (z_c zX9_findParts) 232 = .ok (.getfield 66, 3) := by decide +kernel
theorem dX9_findParts_235 : decode (z_c zX9_findParts) 235 = .ok (.iload_n 3, 1) := by decide +kernel
theorem dX9_findParts_236 : decode (z_c zX9_findParts) 236 = .ok (.iaload, 1) := by decide +kernel
theorem dX9_findParts_237 : decode (z_c zX9_findParts) 237 = .ok (.ifCond .ge 7, 3) := by decide +kernel
theorem dX9_findParts_240 : decode (z_c zX9_findParts) 240 = .ok (.iconst 1, 1) := by decide +kernel
theorem dX9_findParts_241 : decode (z_c zX9_findParts) 241 = .ok (.goto 4, 3) := by decide +kernel
theorem dX9_findParts_244 : decode (z_c zX9_findParts) 244 = .ok (.iconst 0, 1) := by decide +kernel
theorem dX9_findParts_245 : decode (z_c zX9_findParts) 245 = .ok (.iadd, 1) := by decide +kernel
theorem dX9_findParts_246 : decode (z_c zX9_findParts) 246 = .ok (.putfield 253, 3) := by decide +kernel
theorem dX9_findParts_249 : decode (z_c zX9_findParts) 249 = .ok (.aload_n 0, 1) := by decide +kernel
theorem dX9_findParts_250 : decode (z_c zX9_findParts) 250 = .ok (.getfield 66, 3) := by decide +kernel
theorem dX9_findParts_253 : decode (z_c zX9_findParts) 253 = .ok (.iload_n 3, 1) := by decide +kernel
theorem dX9_findParts_254 : decode (z_c zX9_findParts) 254 = .ok (.iaload, 1) := by decide +kernel
theorem dX9_findParts_255 : decode (z_c zX9_findParts) 255 = .ok (.iload_n 3, 1) := by decide +kernel
theorem dX9_findParts_256 : decode (z_c zX9_findParts) 256 = .ok (.if_icmp .ne 127, 3) := by decide +kernel
theorem dX9_findParts_259 : decode (z_c zX9_findParts) 259 = .ok (.iconst 0, 1) := by decide +kernel
theorem dX9_findParts_260 : decode (z_c zX9_findParts) 260 = .ok (.istore 4, 2) := by decide +kernel
theorem dX9_findParts_262 : decode (z_c zX9_findParts) 262 = .ok (.iconst 0, 1) := by decide +kernel
theorem dX9_findParts_263 : decode (z_c zX9_findParts) 263 = .ok (.istore 5, 2) := by decide +kernel
theorem dX9_findParts_265 : decode (z_c zX9_findParts) 265 = .ok (.iload 5, 2) := by decide +kernel
theorem dX9_findParts_267 : decode (z_c zX9_findParts) 267 = .ok (.aload_n 0, 1) := by decide +kernel
theorem dX9_findParts_268 : decode (z_c zX9_findParts) 268 = .ok (.getfield 16, 3) := by decide +kernel
theorem dX9_findParts_271 : decode (z_c zX9_findParts) 271 = .ok (.if_icmp .ge 30, 3) := by decide +kernel
theorem dX9_findParts_274 : decode (z_c zX9_findParts) 274 = .ok (.iload 4, 2) := by decide +kernel
theorem dX9_findParts_276 : decode (z_c zX9_findParts) 276 = .ok (.aload_n 0, 1) := by decide +kernel
theorem dX9_findParts_277 : decode (z_c zX9_findParts) 277 = .ok (.getfield 66, 3) := by decide +kernel
theorem dX9_findParts_280 : decode (z_c zX9_findParts) 280 = .ok (.iload 5, 2) := by decide +kernel
theorem dX9_findParts_282 : decode (z_c zX9_findParts) 282 = .ok (.iaload, 1) := by decide +kernel
theorem dX9_findParts_283 : decode (z_c zX9_findParts) 283 = .ok (.iload_n 3, 1) := by decide +kernel
theorem dX9_findParts_284 : decode (z_c zX9_findParts) 284 = .ok (.if_icmp .ne 7, 3) := by decide +kernel
theorem dX9_findParts_287 : decode (z_c zX9_findParts) 287 = .ok (.iconst 1, 1) := by decide +kernel
theorem dX9_findParts_288 : decode (z_c zX9_findParts) 288 = .ok (.goto 4, 3) := by decide +kernel
theorem dX9_findParts_291 : decode (z_c zX9_findParts) 291 = .ok (.iconst 0, 1) := by decide +kernel
theorem dX9_findParts_292 : decode (z_c zX9_findParts) 292 = .ok (.iadd, 1) := by decide +kernel
theorem dX9_findParts_293 : decode (z_c zX9_findParts) 293 = .ok (.istore 4, 2) := by decide +kernel
theorem dX9_findParts_295 : decode (z_c zX9_findParts) 295 = .ok (.iinc 5 1, 3) := by decide +kernel
theorem dX9_findParts_298 : decode (z_c zX9_findParts) 298 = .ok (.goto (-33), 3) := by decide +kernel
theorem dX9_findParts_301 : decode (z_c zX9_findParts) 301 = .ok (.iload_n 2, 1) := by decide +kernel
theorem dX9_findParts_302 : decode (z_c zX9_findParts) 302 = .ok (.ifCond .eq 14, 3) := by decide +kernel
theorem dX9_findParts_305 : decode (z_c zX9_findParts) 305 = .ok (.iload 4, 2) := by decide +kernel
theorem dX9_findParts_307 : decode (z_c zX9_findParts) 307 = .ok (.bipush 12, 2) := by decide +kernel
theorem dX9_findParts_309 : decode (z_c zX9_findParts) 309 = .ok (.if_icmp .gt 7, 3) := by decide +kernel
theorem dX9_findParts_312 : decode (z_c zX9_findParts) 312 = .ok (.iconst 1, 1) := by decide +kernel
theorem dX9_findParts_313 : decode (z_c zX9_findParts) 313 = .ok (.goto 4, 3) := by decide +kernel
theorem dX9_findParts_316 : decode (z_c zX9_findParts) 316 = .ok (.iconst 0, 1) := by decide +kernel
theorem dX9_findParts_317 : decode (z_c zX9_findParts) 317 = .ok (.istore_n 2, 1) := by decide +kernel
theorem dX9_findParts_318 : decode (z_c zX9_findParts) 318 = .ok (.aload_n 0, 1) := by decide +kernel
theorem dX9_findParts_319 : decode (z_c zX9_findParts) 319 = .ok (.getfield 16, 3) := by decide +kernel
theorem dX9_findParts_322 : decode (z_c zX9_findParts) 322 = .ok (.iconst 1, 1) := by decide +kernel
theorem dX9_findParts_323 : decode (z_c zX9_findParts) 323 = .ok (.isub, 1) := by decide +kernel
theorem dX9_findParts_324 : decode (z_c zX9_findParts) 324 = .ok (.istore 5, 2) := by decide +kernel
theorem dX9_findParts_326 : decode (z_c zX9_findParts) 326 = .ok (.iload 5, 2) := by decide +kernel
theorem dX9_findParts_328 : decode (z_c zX9_findParts) 328 = .ok (.ifCond .lt 45, 3) := by decide +kernel
theorem dX9_findParts_331 : decode (z_c zX9_findParts) 331 = .ok (.aload_n 0, 1) := by decide +kernel
theorem dX9_findParts_332 : decode (z_c zX9_findParts) 332 = .ok (.getfield 66, 3) := by decide +kernel
theorem dX9_findParts_335 : decode (z_c zX9_findParts) 335 = .ok (.iload 5, 2) := by decide +kernel
theorem dX9_findParts_337 : decode (z_c zX9_findParts) 337 = .ok (.aload_n 0, 1) := by decide +kernel
theorem dX9_findParts_338 : decode (z_c zX9_findParts) 338 = .ok (.getfield 66, 3) := by decide +kernel
theorem dX9_findParts_341 : decode (z_c zX9_findParts) 341 = .ok (.iload 5, 2) := by decide +kernel
theorem dX9_findParts_343 : decode (z_c zX9_findParts) 343 = .ok (.iaload, 1) := by decide +kernel
theorem dX9_findParts_344 : decode (z_c zX9_findParts) 344 = .ok (.iload_n 3, 1) := by decide +kernel
theorem dX9_findParts_345 : decode (z_c zX9_findParts) 345 = .ok (.if_icmp .ne 14, 3) := by decide +kernel
theorem dX9_findParts_348 : decode (z_c zX9_findParts) 348 = .ok (.sipush 1000, 3) := by decide +kernel
theorem dX9_findParts_351 : decode (z_c zX9_findParts) 351 = .ok (.aload_n 0, 1) := by decide +kernel
theorem dX9_findParts_352 : decode (z_c zX9_findParts) 352 = .ok (.getfield 250, 3) := by decide +kernel
theorem dX9_findParts_355 : decode (z_c zX9_findParts) 355 = .ok (.iadd, 1) := by decide +kernel
theorem dX9_findParts_356 : decode (z_c zX9_findParts) 356 = .ok (.goto 10, 3) := by decide +kernel
theorem dX9_findParts_359 : decode (z_c zX9_findParts) 359 = .ok (.aload_n 0, 1) := by decide +kernel
theorem dX9_findParts_360 : decode (z_c zX9_findParts) 360 = .ok (.getfield 66, 3) := by decide +kernel
theorem dX9_findParts_363 : decode (z_c zX9_findParts) 363 = .ok (.iload 5, 2) := by decide +kernel
theorem dX9_findParts_365 : decode (z_c zX9_findParts) 365 = .ok (.iaload, 1) := by decide +kernel
theorem dX9_findParts_366 : decode (z_c zX9_findParts) 366 = .ok (.iastore, 1) := by decide +kernel
theorem dX9_findParts_367 : decode (z_c zX9_findParts) 367 = .ok (.iinc 5 (-1), 3) := by decide +kernel
theorem dX9_findParts_370 : decode (z_c zX9_findParts) 370 = .ok (.goto (-44), 3) := by decide +kernel
theorem dX9_findParts_373 : decode (z_c zX9_findParts) 373 = .ok (.aload_n 0, 1) := by decide +kernel
theorem dX9_findParts_374 : decode (z_c zX9_findParts) 374 = .ok (.dup, 1) := by decide +kernel
theorem dX9_findParts_375 : decode (z_c zX9_findParts) 375 = .ok (.getfield 250, 3) := by decide +kernel
theorem dX9_findParts_378 : decode (z_c zX9_findParts) 378 = .ok (.iconst 1, 1) := by decide +kernel
theorem dX9_findParts_379 : decode (z_c zX9_findParts) 379 = .ok (.iadd, 1) := by decide +kernel
theorem dX9_findParts_380 : decode (z_c zX9_findParts) 380 = .ok (.putfield 250, 3) := by decide +kernel
theorem dX9_findParts_383 : decode (z_c zX9_findParts) 383 = .ok (.iinc 3 1, 3) := by decide +kernel
theorem dX9_findParts_386 : decode (z_c zX9_findParts) 386 = .ok (.goto (-177), 3) := by decide +kernel
theorem dX9_findParts_389 : decode (z_c zX9_findParts) 389 = .ok (.iconst 0, 1) := by decide +kernel
theorem dX9_findParts_390 : decode (z_c zX9_findParts) 390 = .ok (.istore_n 3, 1) := by decide +kernel
theorem dX9_findParts_391 : decode (z_c zX9_findParts) 391 = .ok (.iload_n 3, 1) := by decide +kernel
theorem dX9_findParts_392 : decode (z_c zX9_findParts) 392 = .ok (.aload_n 0, 1) := by decide +kernel
theorem dX9_findParts_393 : decode (z_c zX9_findParts) 393 = .ok (.getfield 16, 3) := by decide +kernel
theorem dX9_findParts_396 : decode (z_c zX9_findParts) 396 = .ok (.if_icmp .ge 38, 3) := by decide +kernel
theorem dX9_findParts_399 : decode (z_c zX9_findParts) 399 = .ok (.aload_n 0, 1) := by decide +kernel
theorem dX9_findParts_400 : decode (z_c zX9_findParts) 400 = .ok (.getfield 66, 3) := by decide +kernel
theorem dX9_findParts_403 : decode (z_c zX9_findParts) 403 = .ok (.iload_n 3, 1) := by decide +kernel
theorem dX9_findParts_404 : decode (z_c zX9_findParts) 404 = .ok (.aload_n 0, 1) := by decide +kernel
theorem dX9_findParts_405 : decode (z_c zX9_findParts) 405 = .ok (.getfield 66, 3) := by decide +kernel
theorem dX9_findParts_408 : decode (z_c zX9_findParts) 408 = .ok (.iload_n 3, 1) := by decide +kernel
theorem dX9_findParts_409 : decode (z_c zX9_findParts) 409 = .ok (.iaload, 1) := by decide +kernel
theorem dX9_findParts_410 : decode (z_c zX9_findParts) 410 = .ok (.ifCond .lt 16, 3) := by decide +kernel
theorem dX9_findParts_413 : decode (z_c zX9_findParts) 413 = .ok (.aload_n 0, 1) := by decide +kernel
theorem dX9_findParts_414 : decode (z_c zX9_findParts) 414 = .ok (.getfield 66, 3) := by decide +kernel
theorem dX9_findParts_417 : decode (z_c zX9_findParts) 417 = .ok (.iload_n 3, 1) := by decide +kernel
theorem dX9_findParts_418 : decode (z_c zX9_findParts) 418 = .ok (.iaload, 1) := by decide +kernel
theorem dX9_findParts_419 : decode (z_c zX9_findParts) 419 = .ok (.sipush 1000, 3) := by decide +kernel
theorem dX9_findParts_422 : decode (z_c zX9_findParts) 422 = .ok (.isub, 1) := by decide +kernel
theorem dX9_findParts_423 : decode (z_c zX9_findParts) 423 = .ok (.goto 4, 3) := by decide +kernel
theorem dX9_findParts_426 : decode (z_c zX9_findParts) 426 = .ok (.iconst (-1), 1) := by decide +kernel
theorem dX9_findParts_427 : decode (z_c zX9_findParts) 427 = .ok (.iastore, 1) := by decide +kernel
theorem dX9_findParts_428 : decode (z_c zX9_findParts) 428 = .ok (.iinc 3 1, 3) := by decide +kernel
theorem dX9_findParts_431 : decode (z_c zX9_findParts) 431 = .ok (.goto (-40), 3) := by decide +kernel
theorem dX9_findParts_434 : decode (z_c zX9_findParts) 434 = .ok (.iload_n 2, 1) := by decide +kernel
theorem dX9_findParts_435 : decode (z_c zX9_findParts) 435 = .ok (.ireturn, 1) := by decide +kernel
theorem dX9_fits_0 : decode (z_c zX9_fits) 0 = .ok (.iconst 0, 1) := by decide +kernel
theorem dX9_fits_1 : decode (z_c zX9_fits) 1 = .ok (.istore_n 2, 1) := by decide +kernel
theorem dX9_fits_2 : decode (z_c zX9_fits) 2 = .ok (.iload_n 2, 1) := by decide +kernel
theorem dX9_fits_3 : decode (z_c zX9_fits) 3 = .ok (.aload_n 0, 1) := by decide +kernel
theorem dX9_fits_4 : decode (z_c zX9_fits) 4 = .ok (.getfield 16, 3) := by decide +kernel
theorem dX9_fits_7 : decode (z_c zX9_fits) 7 = .ok (.if_icmp .ge 133, 3) := by decide +kernel
theorem dX9_fits_10 : decode (z_c zX9_fits) 10 = .ok (.aload_n 0, 1) := by decide +kernel
theorem dX9_fits_11 : decode (z_c zX9_fits) 11 = .ok (.iload_n 1, 1) := by decide +kernel
theorem dX9_fits_12 : decode (z_c zX9_fits) 12 = .ok (.iload_n 2, 1) := by decide +kernel
theorem dX9_fits_13 : decode (z_c zX9_fits) 13 = .ok (.invokevirtual 138, 3) := by decide +kernel
theorem dX9_fits_16 : decode (z_c zX9_fits) 16 = .ok (.ifCond .eq 118, 3) := by decide +kernel
theorem dX9_fits_19 : decode (z_c zX9_fits) 19 = .ok (.aload_n 0, 1) := by decide +kernel
theorem dX9_fits_20 : decode (z_c zX9_fits) 20 = .ok (.getfield 26, 3) := by decide +kernel
theorem dX9_fits_23 : decode (z_c zX9_fits) 23 = .ok (.iload_n 2, 1) := by decide +kernel
theorem dX9_fits_24 : decode (z_c zX9_fits) 24 = .ok (.iaload, 1) := by decide +kernel
theorem dX9_fits_25 : decode (z_c zX9_fits) 25 = .ok (.iconst 1, 1) := by decide +kernel
theorem dX9_fits_26 : decode (z_c zX9_fits) 26 = .ok (.if_icmp .ne 108, 3) := by decide +kernel
theorem dX9_fits_29 : decode (z_c zX9_fits) 29 = .ok (.aload_n 0, 1) := by decide +kernel
theorem dX9_fits_30 : decode (z_c zX9_fits) 30 = .ok (.iload_n 2, 1) := by decide +kernel
theorem dX9_fits_31 : decode (z_c zX9_fits) 31 = .ok (.invokevirtual 142, 3) := by decide +kernel
theorem dX9_fits_34 : decode (z_c zX9_fits) 34 = .ok (.aload_n 0, 1) := by decide +kernel
theorem dX9_fits_35 : decode (z_c zX9_fits) 35 = .ok (.iload_n 2, 1) := by decide +kernel
theorem dX9_fits_36 : decode (z_c zX9_fits) 36 = .ok (.iconst 2, 1) := by decide +kernel
theorem dX9_fits_37 : decode (z_c zX9_fits) 37 = .ok (.invokevirtual 165, 3) := by decide +kernel
theorem dX9_fits_40 : decode (z_c zX9_fits) 40 = .ok (.isub, 1) := by decide +kernel
theorem dX9_fits_41 : decode (z_c zX9_fits) 41 = .ok (.istore_n 3, 1) := by decide +kernel
theorem dX9_fits_42 : decode (z_c zX9_fits) 42 = .ok (.iconst 0, 1) := by decide +kernel
theorem dX9_fits_43 : decode (z_c zX9_fits) 43 = .ok (.istore 4, 2) := by decide +kernel
theorem dX9_fits_45 : decode (z_c zX9_fits) 45 = .ok (.iconst 0, 1) := by decide +kernel
theorem dX9_fits_46 : decode (z_c zX9_fits) 46 = .ok (.istore 5, 2) := by decide +kernel
theorem dX9_fits_48 : decode (z_c zX9_fits) 48 = .ok (.iload 5, 2) := by decide +kernel
theorem dX9_fits_50 : decode (z_c zX9_fits) 50 = .ok (.aload_n 0, 1) := by decide +kernel
theorem dX9_fits_51 : decode (z_c zX9_fits) 51 = .ok (.getfield 16, 3) := by decide +kernel
theorem dX9_fits_54 : decode (z_c zX9_fits) 54 = .ok (.if_icmp .ge 68, 3) := by decide +kernel
theorem dX9_fits_57 : decode (z_c zX9_fits) 57 = .ok (.aload_n 0, 1) := by decide +kernel
theorem dX9_fits_58 : decode (z_c zX9_fits) 58 = .ok (.iload_n 2, 1) := by decide +kernel
theorem dX9_fits_59 : decode (z_c zX9_fits) 59 = .ok (.iload 5, 2) := by decide +kernel
theorem dX9_fits_61 : decode (z_c zX9_fits) 61 = .ok (.invokevirtual 138, 3) := by decide +kernel
theorem dX9_fits_64 : decode (z_c zX9_fits) 64 = .ok (.ifCond .eq 52, 3) := by decide +kernel
theorem dX9_fits_67 : decode (z_c zX9_fits) 67 = .ok (.aload_n 0, 1) := by decide +kernel
theorem dX9_fits_68 : decode (z_c zX9_fits) 68 = .ok (.getfield 26, 3) := by decide +kernel
theorem dX9_fits_71 : decode (z_c zX9_fits) 71 = .ok (.iload 5, 2) := by decide +kernel
theorem dX9_fits_73 : decode (z_c zX9_fits) 73 = .ok (.iaload, 1) := by decide +kernel
theorem dX9_fits_74 : decode (z_c zX9_fits) 74 = .ok (.ifCond .ne 42, 3) := by decide +kernel
theorem dX9_fits_77 : decode (z_c zX9_fits) 77 = .ok (.iload_n 3, 1) := by decide +kernel
theorem dX9_fits_78 : decode (z_c zX9_fits) 78 = .ok (.aload_n 0, 1) := by decide +kernel
theorem dX9_fits_79 : decode (z_c zX9_fits) 79 = .ok (.getfield 72, 3) := by decide +kernel
theorem dX9_fits_82 : decode (z_c zX9_fits) 82 = .ok (.iload 5, 2) := by decide +kernel
theorem dX9_fits_84 : decode (z_c zX9_fits) 84 = .ok (.iaload, 1) := by decide +kernel
theorem dX9_fits_85 : decode (z_c zX9_fits) 85 = .ok (.iconst 1, 1) := by decide +kernel
theorem dX9_fits_86 : decode (z_c zX9_fits) 86 = .ok (.if_icmp .ne 7, 3) := by decide +kernel
theorem dX9_fits_89 : decode (z_c zX9_fits) 89 = .ok (.iconst 1, 1) := by decide +kernel
theorem dX9_fits_90 : decode (z_c zX9_fits) 90 = .ok (.goto 4, 3) := by decide +kernel
theorem dX9_fits_93 : decode (z_c zX9_fits) 93 = .ok (.iconst 0, 1) := by decide +kernel
theorem dX9_fits_94 : decode (z_c zX9_fits) 94 = .ok (.isub, 1) := by decide +kernel
theorem dX9_fits_95 : decode (z_c zX9_fits) 95 = .ok (.istore_n 3, 1) := by decide +kernel
theorem dX9_fits_96 : decode (z_c zX9_fits) 96 = .ok (.iload 4, 2) := by decide +kernel
theorem dX9_fits_98 : decode (z_c zX9_fits) 98 = .ok (.aload_n 0, 1) := by decide +kernel
theorem dX9_fits_99 : decode (z_c zX9_fits) 99 = .ok (.getfield 72, 3) := by decide +kernel
theorem dX9_fits_102 : decode (z_c zX9_fits) 102 = .ok (.iload 5, 2) := by decide +kernel
theorem dX9_fits_104 : decode (z_c zX9_fits) 104 = .ok (.iaload, 1) := by decide +kernel
theorem dX9_fits_105 : decode (z_c zX9_fits) 105 = .ok (.ifCond .ge 7, 3) := by decide +kernel
theorem dX9_fits_108 : decode (z_c zX9_fits) 108 = .ok (.iconst 1, 1) := by decide +kernel
theorem dX9_fits_109 : decode (z_c zX9_fits) 109 = .ok (.goto 4, 3) := by decide +kernel
theorem dX9_fits_112 : decode (z_c zX9_fits) 112 = .ok (.iconst 0, 1) := by decide +kernel
theorem dX9_fits_113 : decode (z_c zX9_fits) 113 = .ok (.iadd, 1) := by decide +kernel
theorem dX9_fits_114 : decode (z_c zX9_fits) 114 = .ok (.istore 4, 2) := by decide +kernel
theorem dX9_fits_116 : decode (z_c zX9_fits) 116 = .ok (.iinc 5 1, 3) := by decide +kernel
theorem dX9_fits_119 : decode (z_c zX9_fits) 119 = .ok (.goto (-71), 3) := by decide +kernel
theorem dX9_fits_122 : decode (z_c zX9_fits) 122 = .ok (.iload_n 3, 1) := by decide +kernel
theorem dX9_fits_123 : decode (z_c zX9_fits) 123 = .ok (.ifCond .lt 9, 3) := by decide +kernel
theorem dX9_fits_126 : decode (z_c zX9_fits) 126 = .ok (.iload_n 3, 1) := by decide +kernel
theorem dX9_fits_127 : decode (z_c zX9_fits) 127 = .ok (.iload 4, 2) := by decide +kernel
theorem dX9_fits_129 : decode (z_c zX9_fits) 129 = .ok (.if_icmp .le 5, 3) := by decide +kernel
theorem dX9_fits_132 : decode (z_c zX9_fits) 132 = .ok (.iconst 0, 1) := by decide +kernel
theorem dX9_fits_133 : decode (z_c zX9_fits) 133 = .ok (.ireturn, 1) := by decide +kernel
theorem dX9_fits_134 : decode (z_c zX9_fits) 134 = .ok (.iinc 2 1, 3) := by decide +kernel
theorem dX9_fits_137 : decode (z_c zX9_fits) 137 = .ok (.goto (-135), 3) := by decide +kernel
theorem dX9_fits_140 : decode (z_c zX9_fits) 140 = .ok (.iconst 1, 1) := by decide +kernel
theorem dX9_fits_141 : decode (z_c zX9_fits) 141 = .ok (.ireturn, 1) := by decide +kernel
theorem dX9_countOne_0 : decode (z_c zX9_countOne) 0 = .ok (.iconst 0, 1) := by decide +kernel
theorem dX9_countOne_1 : decode (z_c zX9_countOne) 1 = .ok (.istore_n 3, 1) := by decide +kernel
theorem dX9_countOne_2 : decode (z_c zX9_countOne) 2 = .ok (.iconst 0, 1) := by decide +kernel
theorem dX9_countOne_3 : decode (z_c zX9_countOne) 3 = .ok (.istore 4, 2) := by decide +kernel
theorem dX9_countOne_5 : decode (z_c zX9_countOne) 5 = .ok (.iload 4, 2) := by decide +kernel
theorem dX9_countOne_7 : decode (z_c zX9_countOne) 7 = .ok (.iload_n 2, 1) := by decide +kernel
theorem dX9_countOne_8 : decode (z_c zX9_countOne) 8 = .ok (.if_icmp .ge 24, 3) := by decide +kernel
theorem dX9_countOne_11 : decode (z_c zX9_countOne) 11 = .ok (.iload_n 3, 1) := by decide +kernel
theorem dX9_countOne_12 : decode (z_c zX9_countOne) 12 = .ok (.aload_n 0, 1) := by decide +kernel
theorem dX9_countOne_13 : decode (z_c zX9_countOne) 13 = .ok (.getfield 72, 3) := by decide +kernel
theorem dX9_countOne_16 : decode (z_c zX9_countOne) 16 = .ok (.aload_n 0, 1) := by decide +kernel
theorem dX9_countOne_17 : decode (z_c zX9_countOne) 17 = .ok (.getfield 69, 3) := by decide +kernel
theorem dX9_countOne_20 : decode (z_c zX9_countOne) 20 = .ok (.iload 4, 2) := by decide +kernel
theorem dX9_countOne_22 : decode (z_c zX9_countOne) 22 = .ok (.iaload, 1) := by decide +kernel
theorem dX9_countOne_23 : decode (z_c zX9_countOne) 23 = .ok (.iaload, 1) := by decide +kernel
theorem dX9_countOne_24 : decode (z_c zX9_countOne) 24 = .ok (.iadd, 1) := by decide +kernel
theorem dX9_countOne_25 : decode (z_c zX9_countOne) 25 = .ok (.istore_n 3, 1) := by decide +kernel
theorem dX9_countOne_26 : decode (z_c zX9_countOne) 26 = .ok (.iinc 4 1, 3) := by decide +kernel
theorem dX9_countOne_29 : decode (z_c zX9_countOne) 29 = .ok (.goto (-24), 3) := by decide +kernel
theorem dX9_countOne_32 : decode (z_c zX9_countOne) 32 = .ok (.aload_n 0, 1) := by decide +kernel
theorem dX9_countOne_33 : decode (z_c zX9_countOne) 33 = .ok (.getfield 75, 3) := by decide +kernel
theorem dX9_countOne_36 : decode (z_c zX9_countOne) 36 = .ok (.bipush 13, 2) := by decide +kernel
theorem dX9_countOne_38 : decode (z_c zX9_countOne) 38 = .ok (.iload_n 1, 1) := by decide +kernel
theorem dX9_countOne_39 : decode (z_c zX9_countOne) 39 = .ok (.imul, 1) := by decide +kernel
theorem dX9_countOne_40 : decode (z_c zX9_countOne) 40 = .ok (.iload_n 3, 1) := by decide +kernel
theorem dX9_countOne_41 : decode (z_c zX9_countOne) 41 = .ok (.iadd, 1) := by decide +kernel
theorem dX9_countOne_42 : decode (z_c zX9_countOne) 42 = .ok (.dup2, 1) := by decide +kernel
theorem dX9_countOne_43 : decode (z_c zX9_countOne) 43 = .ok (.laload, 1) := by decide +kernel
theorem dX9_countOne_44 : decode (z_c zX9_countOne) 44 = .ok (.lconst 1, 1) := by decide +kernel
theorem dX9_countOne_45 : decode (z_c zX9_countOne) 45 = .ok (.ladd, 1) := by decide +kernel
theorem dX9_countOne_46 : decode (z_c zX9_countOne) 46 = .ok (.lastore, 1) := by decide +kernel
theorem dX9_countOne_47 : decode (z_c zX9_countOne) 47 = .ok (.iconst 0, 1) := by decide +kernel
theorem dX9_countOne_48 : decode (z_c zX9_countOne) 48 = .ok (.istore 4, 2) := by decide +kernel
theorem dX9_countOne_50 : decode (z_c zX9_countOne) 50 = .ok (.iload 4, 2) := by decide +kernel
theorem dX9_countOne_52 : decode (z_c zX9_countOne) 52 = .ok (.iload_n 2, 1) := by decide +kernel
theorem dX9_countOne_53 : decode (z_c zX9_countOne) 53 = .ok (.if_icmp .ge 42, 3) := by decide +kernel
theorem dX9_countOne_56 : decode (z_c zX9_countOne) 56 = .ok (.aload_n 0, 1) := by decide +kernel
theorem dX9_countOne_57 : decode (z_c zX9_countOne) 57 = .ok (.getfield 79, 3) := by decide +kernel
theorem dX9_countOne_60 : decode (z_c zX9_countOne) 60 = .ok (.bipush 13, 2) := by decide +kernel
theorem dX9_countOne_62 : decode (z_c zX9_countOne) 62 = .ok (.aload_n 0, 1) := by decide +kernel
theorem dX9_countOne_63 : decode (z_c zX9_countOne) 63 = .ok (.getfield 69, 3) := by decide +kernel
theorem dX9_countOne_66 : decode (z_c zX9_countOne) 66 = .ok (.iload 4, 2) := by decide +kernel
theorem dX9_countOne_68 : decode (z_c zX9_countOne) 68 = .ok (.iaload, 1) := by decide +kernel
theorem dX9_countOne_69 : decode (z_c zX9_countOne) 69 = .ok (.imul, 1) := by decide +kernel
theorem dX9_countOne_70 : decode (z_c zX9_countOne) 70 = .ok (.iload_n 3, 1) := by decide +kernel
theorem dX9_countOne_71 : decode (z_c zX9_countOne) 71 = .ok (.iadd, 1) := by decide +kernel
theorem dX9_countOne_72 : decode (z_c zX9_countOne) 72 = .ok (.dup2, 1) := by decide +kernel
theorem dX9_countOne_73 : decode (z_c zX9_countOne) 73 = .ok (.laload, 1) := by decide +kernel
theorem dX9_countOne_74 : decode (z_c zX9_countOne) 74 = .ok (.aload_n 0, 1) := by decide +kernel
theorem dX9_countOne_75 : decode (z_c zX9_countOne) 75 = .ok (.getfield 72, 3) := by decide +kernel
theorem dX9_countOne_78 : decode (z_c zX9_countOne) 78 = .ok (.aload_n 0, 1) := by decide +kernel
theorem dX9_countOne_79 : decode (z_c zX9_countOne) 79 = .ok (.getfield 69, 3) := by decide +kernel
theorem dX9_countOne_82 : decode (z_c zX9_countOne) 82 = .ok (.iload 4, 2) := by decide +kernel
theorem dX9_countOne_84 : decode (z_c zX9_countOne) 84 = .ok (.iaload, 1) := by decide +kernel
theorem dX9_countOne_85 : decode (z_c zX9_countOne) 85 = .ok (.iaload, 1) := by decide +kernel
theorem dX9_countOne_86 : decode (z_c zX9_countOne) 86 = .ok (.i2l, 1) := by decide +kernel
theorem dX9_countOne_87 : decode (z_c zX9_countOne) 87 = .ok (.ladd, 1) := by decide +kernel
theorem dX9_countOne_88 : decode (z_c zX9_countOne) 88 = .ok (.lastore, 1) := by decide +kernel
theorem dX9_countOne_89 : decode (z_c zX9_countOne) 89 = .ok (.iinc 4 1, 3) := by decide +kernel
theorem dX9_countOne_92 : decode (z_c zX9_countOne) 92 = .ok (.goto (-42), 3) := by decide +kernel
theorem dX9_countOne_95 : decode (z_c zX9_countOne) 95 = .ok (.return_, 1) := by decide +kernel
theorem dX9_tryPart_0 : decode (z_c zX9_tryPart) 0 = .ok (.iconst 0, 1) := by decide +kernel
theorem dX9_tryPart_1 : decode (z_c zX9_tryPart) 1 = .ok (.istore_n 2, 1) := by decide +kernel
theorem dX9_tryPart_2 : decode (z_c zX9_tryPart) 2 = .ok (.iconst 0, 1) := by decide +kernel
theorem dX9_tryPart_3 : decode (z_c zX9_tryPart) 3 = .ok (.istore_n 3, 1) := by decide +kernel
theorem dX9_tryPart_4 : decode (z_c zX9_tryPart) 4 = .ok (.iload_n 3, 1) := by decide +kernel
theorem dX9_tryPart_5 : decode (z_c zX9_tryPart) 5 = .ok (.aload_n 0, 1) := by decide +kernel
theorem dX9_tryPart_6 : decode (z_c zX9_tryPart) 6 = .ok (.getfield 16, 3) := by decide +kernel
theorem dX9_tryPart_9 : decode (z_c zX9_tryPart) 9 = .ok (.if_icmp .ge 36, 3) := by decide +kernel
theorem dX9_tryPart_12 : decode (z_c zX9_tryPart) 12 = .ok (.aload_n 0, 1) := by decide +kernel
theorem dX9_tryPart_13 : decode (z_c zX9_tryPart) 13 = .ok (.getfield 66, 3) := by decide +kernel
theorem dX9_tryPart_16 : decode (z_c zX9_tryPart) 16 = .ok (.iload_n 3, 1) := by decide +kernel
theorem dX9_tryPart_17 : decode (z_c zX9_tryPart) 17 = .ok (.iaload, 1) := by decide +kernel
theorem dX9_tryPart_18 : decode (z_c zX9_tryPart) 18 = .ok (.iload_n 1, 1) := by decide +kernel
theorem dX9_tryPart_19 : decode (z_c zX9_tryPart) 19 = .ok (.if_icmp .ne 20, 3) := by decide +kernel
theorem dX9_tryPart_22 : decode (z_c zX9_tryPart) 22 = .ok (.aload_n 0, 1) := by decide +kernel
theorem dX9_tryPart_23 : decode (z_c zX9_tryPart) 23 = .ok (.getfield 69, 3) := by decide +kernel
theorem dX9_tryPart_26 : decode (z_c zX9_tryPart) 26 = .ok (.iload_n 2, 1) := by decide +kernel
theorem dX9_tryPart_27 : decode (z_c zX9_tryPart) 27 = .ok (.iload_n 3, 1) := by decide +kernel
theorem dX9_tryPart_28 : decode (z_c zX9_tryPart) 28 = .ok (.iastore, 1) := by decide +kernel
theorem dX9_tryPart_29 : decode (z_c zX9_tryPart) 29 = .ok (.aload_n 0, 1) := by decide +kernel
theorem dX9_tryPart_30 : decode (z_c zX9_tryPart) 30 = .ok (.getfield 72, 3) := by decide +kernel
theorem dX9_tryPart_33 : decode (z_c zX9_tryPart) 33 = .ok (.iload_n 3, 1) := by decide +kernel
theorem dX9_tryPart_34 : decode (z_c zX9_tryPart) 34 = .ok (.iconst (-1), 1) := by decide +kernel
theorem dX9_tryPart_35 : decode (z_c zX9_tryPart) 35 = .ok (.iastore, 1) := by decide +kernel
theorem dX9_tryPart_36 : decode (z_c zX9_tryPart) 36 = .ok (.iinc 2 1, 3) := by decide +kernel
theorem dX9_tryPart_39 : decode (z_c zX9_tryPart) 39 = .ok (.iinc 3 1, 3) := by decide +kernel
theorem dX9_tryPart_42 : decode (z_c zX9_tryPart) 42 = .ok (.goto (-38), 3) := by decide +kernel
theorem dX9_tryPart_45 : decode (z_c zX9_tryPart) 45 = .ok (.iconst 0, 1) := by decide +kernel
theorem dX9_tryPart_46 : decode (z_c zX9_tryPart) 46 = .ok (.istore_n 3, 1) := by decide +kernel
theorem dX9_tryPart_47 : decode (z_c zX9_tryPart) 47 = .ok (.iload_n 3, 1) := by decide +kernel
theorem dX9_tryPart_48 : decode (z_c zX9_tryPart) 48 = .ok (.ifCond .lt 78, 3) := by decide +kernel
theorem dX9_tryPart_51 : decode (z_c zX9_tryPart) 51 = .ok (.aload_n 0, 1) := by decide +kernel
theorem dX9_tryPart_52 : decode (z_c zX9_tryPart) 52 = .ok (.getfield 69, 3) := by decide +kernel
theorem dX9_tryPart_55 : decode (z_c zX9_tryPart) 55 = .ok (.iload_n 3, 1) := by decide +kernel
theorem dX9_tryPart_56 : decode (z_c zX9_tryPart) 56 = .ok (.iaload, 1) := by decide +kernel
theorem dX9_tryPart_57 : decode (z_c zX9_tryPart) 57 = .ok (.istore 4, 2) := by decide +kernel
theorem dX9_tryPart_59 : decode (z_c zX9_tryPart) 59 = .ok (.aload_n 0, 1) := by decide +kernel
theorem dX9_tryPart_60 : decode (z_c zX9_tryPart) 60 = .ok (.getfield 72, 3) := by decide +kernel
theorem dX9_tryPart_63 : decode (z_c zX9_tryPart) 63 = .ok (.iload 4, 2) := by decide +kernel
theorem dX9_tryPart_65 : decode (z_c zX9_tryPart) 65 = .ok (.dup2, 1) := by decide +kernel
theorem dX9_tryPart_66 : decode (z_c zX9_tryPart) 66 = .ok (.iaload, 1) := by decide +kernel
theorem dX9_tryPart_67 : decode (z_c zX9_tryPart) 67 = .ok (.iconst 1, 1) := by decide +kernel
theorem dX9_tryPart_68 : decode (z_c zX9_tryPart) 68 = .ok (.iadd, 1) := by decide +kernel
theorem dX9_tryPart_69 : decode (z_c zX9_tryPart) 69 = .ok (.iastore, 1) := by decide +kernel
theorem dX9_tryPart_70 : decode (z_c zX9_tryPart) 70 = .ok (.aload_n 0, 1) := by decide +kernel
theorem dX9_tryPart_71 : decode (z_c zX9_tryPart) 71 = .ok (.getfield 72, 3) := by decide +kernel
theorem dX9_tryPart_74 : decode (z_c zX9_tryPart) 74 = .ok (.iload 4, 2) := by decide +kernel
theorem dX9_tryPart_76 : decode (z_c zX9_tryPart) 76 = .ok (.iaload, 1) := by decide +kernel
theorem dX9_tryPart_77 : decode (z_c zX9_tryPart) 77 = .ok (.iconst 1, 1) := by decide +kernel
theorem dX9_tryPart_78 : decode (z_c zX9_tryPart) 78 = .ok (.if_icmp .le 17, 3) := by decide +kernel
theorem dX9_tryPart_81 : decode (z_c zX9_tryPart) 81 = .ok (.aload_n 0, 1) := by decide +kernel
theorem dX9_tryPart_82 : decode (z_c zX9_tryPart) 82 = .ok (.getfield 72, 3) := by decide +kernel
theorem dX9_tryPart_85 : decode (z_c zX9_tryPart) 85 = .ok (.iload 4, 2) := by decide +kernel
theorem dX9_tryPart_87 : decode (z_c zX9_tryPart) 87 = .ok (.iconst (-1), 1) := by decide +kernel
theorem dX9_tryPart_88 : decode (z_c zX9_tryPart) 88 = .ok (.iastore, 1) := by decide +kernel
theorem dX9_tryPart_89 : decode (z_c zX9_tryPart) 89 = .ok (.iinc 3 (-1), 3) := by decide +kernel
theorem dX9_tryPart_92 : decode (z_c zX9_tryPart) 92 = .ok (.goto 31, 3) := by decide +kernel
theorem dX9_tryPart_95 : decode (z_c zX9_tryPart) 95 = .ok (.aload_n 0, 1) := by decide +kernel
theorem dX9_tryPart_96 : decode (z_c zX9_tryPart) 96 = .ok (.iload 4, 2) := by decide +kernel
theorem dX9_tryPart_98 : decode (z_c zX9_tryPart) 98 = .ok (.invokevirtual 256, 3) := by decide +kernel
theorem dX9_tryPart_101 : decode (z_c zX9_tryPart) 101 = .ok (.ifCond .eq 22, 3) := by decide +kernel
theorem dX9_tryPart_104 : decode (z_c zX9_tryPart) 104 = .ok (.iload_n 3, 1) := by decide +kernel
theorem dX9_tryPart_105 : decode (z_c zX9_tryPart) 105 = .ok (.iload_n 2, 1) := by decide +kernel
theorem dX9_tryPart_106 : decode (z_c zX9_tryPart) 106 = .ok (.iconst 1, 1) := by decide +kernel
theorem dX9_tryPart_107 : decode (z_c zX9_tryPart) 107 = .ok (.isub, 1) := by decide +kernel
theorem dX9_tryPart_108 : decode (z_c zX9_tryPart) 108 = .ok (.if_icmp .ne 12, 3) := by decide +kernel
theorem dX9_tryPart_111 : decode (z_c zX9_tryPart) 111 = .ok (.aload_n 0, 1) := by decide +kernel
theorem dX9_tryPart_112 : decode (z_c zX9_tryPart) 112 = .ok (.iload_n 1, 1) := by decide +kernel
theorem dX9_tryPart_113 : decode (z_c zX9_tryPart) 113 = .ok (.iload_n 2, 1) := by decide +kernel
theorem dX9_tryPart_114 : decode (z_c zX9_tryPart) 114 = .ok (.invokevirtual 259, 3) := by decide +kernel
theorem dX9_tryPart_117 : decode (z_c zX9_tryPart) 117 = .ok (.goto 6, 3) := by decide +kernel
theorem dX9_tryPart_120 : decode (z_c zX9_tryPart) 120 = .ok (.iinc 3 1, 3) := by decide +kernel
theorem dX9_tryPart_123 : decode (z_c zX9_tryPart) 123 = .ok (.goto (-76), 3) := by decide +kernel
theorem dX9_tryPart_126 : decode (z_c zX9_tryPart) 126 = .ok (.return_, 1) := by decide +kernel
theorem dX9_findWays_0 : decode (z_c zX9_findWays) 0 = .ok (.iconst 0, 1) := by decide +kernel
theorem dX9_findWays_1 : decode (z_c zX9_findWays) 1 = .ok (.istore_n 1, 1) := by decide +kernel
theorem dX9_findWays_2 : decode (z_c zX9_findWays) 2 = .ok (.iload_n 1, 1) := by decide +kernel
theorem dX9_findWays_3 : decode (z_c zX9_findWays) 3 = .ok (.sipush 1300, 3) := by decide +kernel
theorem dX9_findWays_6 : decode (z_c zX9_findWays) 6 = .ok (.if_icmp .ge 23, 3) := by decide +kernel
theorem dX9_findWays_9 : decode (z_c zX9_findWays) 9 = .ok (.aload_n 0, 1) := by decide +kernel
theorem dX9_findWays_10 : decode (z_c zX9_findWays) 10 = .ok (.getfield 75, 3) := by decide +kernel
theorem dX9_findWays_13 : decode (z_c zX9_findWays) 13 = .ok (.iload_n 1, 1) := by decide +kernel
theorem dX9_findWays_14 : decode (z_c zX9_findWays) 14 = .ok (.lconst 0, 1) := by decide +kernel
theorem dX9_findWays_15 : decode (z_c zX9_findWays) 15 = .ok (.lastore, 1) := by decide +kernel
theorem dX9_findWays_16 : decode (z_c zX9_findWays) 16 = .ok (.aload_n 0, 1) := by decide +kernel
theorem dX9_findWays_17 : decode (z_c zX9_findWays) 17 = .ok (.getfield 79, 3) := by decide +kernel
theorem dX9_findWays_20 : decode (z_c zX9_findWays) 20 = .ok (.iload_n 1, 1) := by decide +kernel
theorem dX9_findWays_21 : decode (z_c zX9_findWays) 21 = .ok (.lconst 0, 1) := by decide +kernel
theorem dX9_findWays_22 : decode (z_c zX9_findWays) 22 = .ok (.lastore, 1) := by decide +kernel
theorem dX9_findWays_23 : decode (z_c zX9_findWays) 23 = .ok (.iinc 1 1, 3) := by decide +kernel
theorem dX9_findWays_26 : decode (z_c zX9_findWays) 26 = .ok (.goto (-24), 3) := by decide +kernel
theorem dX9_findWays_29 : decode (z_c zX9_findWays) 29 = .ok (.iconst 0, 1) := by decide +kernel
theorem dX9_findWays_30 : decode (z_c zX9_findWays) 30 = .ok (.istore_n 1, 1) := by decide +kernel
theorem dX9_findWays_31 : decode (z_c zX9_findWays) 31 = .ok (.iload_n 1, 1) := by decide +kernel
theorem dX9_findWays_32 : decode (z_c zX9_findWays) 32 = .ok (.aload_n 0, 1) := by decide +kernel
theorem dX9_findWays_33 : decode (z_c zX9_findWays) 33 = .ok (.getfield 250, 3) := by decide +kernel
theorem dX9_findWays_36 : decode (z_c zX9_findWays) 36 = .ok (.if_icmp .ge 14, 3) := by decide +kernel
theorem dX9_findWays_39 : decode (z_c zX9_findWays) 39 = .ok (.aload_n 0, 1) := by decide +kernel
theorem dX9_findWays_40 : decode (z_c zX9_findWays) 40 = .ok (.iload_n 1, 1) := by decide +kernel
theorem dX9_findWays_41 : decode (z_c zX9_findWays) 41 = .ok (.invokevirtual 263, 3) := by decide +kernel
theorem dX9_findWays_44 : decode (z_c zX9_findWays) 44 = .ok (.iinc 1 1, 3) := by decide +kernel
theorem dX9_findWays_47 : decode (z_c zX9_findWays) 47 = .ok (.goto (-16), 3) := by decide +kernel
theorem dX9_findWays_50 : decode (z_c zX9_findWays) 50 = .ok (.return_, 1) := by decide +kernel
theorem dX9_sumParts_0 : decode (z_c zX9_sumParts) 0 = .ok (.iconst 0, 1) := by decide +kernel
theorem dX9_sumParts_1 : decode (z_c zX9_sumParts) 1 = .ok (.istore_n 3, 1) := by decide +kernel
theorem dX9_sumParts_2 : decode (z_c zX9_sumParts) 2 = .ok (.iload_n 3, 1) := by decide +kernel
theorem dX9_sumParts_3 : decode (z_c zX9_sumParts) 3 = .ok (.sipush 201, 3) := by decide +kernel
theorem dX9_sumParts_6 : decode (z_c zX9_sumParts) 6 = .ok (.if_icmp .ge 24, 3) := by decide +kernel
theorem dX9_sumParts_9 : decode (z_c zX9_sumParts) 9 = .ok (.aload_n 0, 1) := by decide +kernel
theorem dX9_sumParts_10 : decode (z_c zX9_sumParts) 10 = .ok (.getfield 82, 3) := by decide +kernel
theorem dX9_sumParts_13 : decode (z_c zX9_sumParts) 13 = .ok (.iload_n 3, 1) := by decide +kernel
theorem dX9_sumParts_14 : decode (z_c zX9_sumParts) 14 = .ok (.iload_n 3, 1) := by decide +kernel
theorem dX9_sumParts_15 : decode (z_c zX9_sumParts) 15 = .ok (.ifCond .ne 7, 3) := by decide +kernel
theorem dX9_sumParts_18 : decode (z_c zX9_sumParts) 18 = .ok (.lconst 1, 1) := by decide +kernel
theorem dX9_sumParts_19 : decode (z_c zX9_sumParts) 19 = .ok (.goto 4, 3) := by decide +kernel
theorem dX9_sumParts_22 : decode (z_c zX9_sumParts) 22 = .ok (.lconst 0, 1) := by decide +kernel
theorem dX9_sumParts_23 : decode (z_c zX9_sumParts) 23 = .ok (.lastore, 1) := by decide +kernel
theorem dX9_sumParts_24 : decode (z_c zX9_sumParts) 24 = .ok (.iinc 3 1, 3) := by decide +kernel
theorem dX9_sumParts_27 : decode (z_c zX9_sumParts) 27 = .ok (.goto (-25), 3) := by decide +kernel
theorem dX9_sumParts_30 : decode (z_c zX9_sumParts) 30 = .ok (.iconst 0, 1) := by decide +kernel
theorem dX9_sumParts_31 : decode (z_c zX9_sumParts) 31 = .ok (.istore_n 3, 1) := by decide +kernel
theorem dX9_sumParts_32 : decode (z_c zX9_sumParts) 32 = .ok (.iload_n 3, 1) := by decide +kernel
theorem dX9_sumParts_33 : decode (z_c zX9_sumParts) 33 = .ok (.aload_n 0, 1) := by decide +kernel
theorem dX9_sumParts_34 : decode (z_c zX9_sumParts) 34 = .ok (.getfield 250, 3) := by decide +kernel
theorem dX9_sumParts_37 : decode (z_c zX9_sumParts) 37 = .ok (.if_icmp .ge 24, 3) := by decide +kernel
theorem dX9_sumParts_40 : decode (z_c zX9_sumParts) 40 = .ok (.iload_n 3, 1) := by decide +kernel
theorem dX9_sumParts_41 : decode (z_c zX9_sumParts) 41 = .ok (.iload_n 1, 1) := by decide +kernel
theorem dX9_sumParts_42 : decode (z_c zX9_sumParts) 42 = .ok (.if_icmp .eq 13, 3) := by decide +kernel
theorem dX9_sumParts_45 : decode (z_c zX9_sumParts) 45 = .ok (.aload_n 0, 1) := by decide +kernel
theorem dX9_sumParts_46 : decode (z_c zX9_sumParts) 46 = .ok (.bipush 13, 2) := by decide +kernel
theorem dX9_sumParts_48 : decode (z_c zX9_sumParts) 48 = .ok (.iload_n 3, 1) := by decide +kernel
theorem dX9_sumParts_49 : decode (z_c zX9_sumParts) 49 = .ok (.imul, 1) := by decide +kernel
theorem dX9_sumParts_50 : decode (z_c zX9_sumParts) 50 = .ok (.iload_n 2, 1) := by decide +kernel
theorem dX9_sumParts_51 : decode (z_c zX9_sumParts) 51 = .ok (.iconst 0, 1) := by decide +kernel
theorem dX9_sumParts_52 : decode (z_c zX9_sumParts) 52 = .ok (.invokevirtual 266, 3) := by decide +kernel
theorem dX9_sumParts_55 : decode (z_c zX9_sumParts) 55 = .ok (.iinc 3 1, 3) := by decide +kernel
theorem dX9_sumParts_58 : decode (z_c zX9_sumParts) 58 = .ok (.goto (-26), 3) := by decide +kernel
theorem dX9_sumParts_61 : decode (z_c zX9_sumParts) 61 = .ok (.return_, 1) := by decide +kernel
theorem dX9_addPart_0 : decode (z_c zX9_addPart) 0 = .ok (.iconst 0, 1) := by decide +kernel
theorem dX9_addPart_1 : decode (z_c zX9_addPart) 1 = .ok (.istore 4, 2) := by decide +kernel
theorem dX9_addPart_3 : decode (z_c zX9_addPart) 3 = .ok (.iload 4, 2) := by decide +kernel
theorem dX9_addPart_5 : decode (z_c zX9_addPart) 5 = .ok (.sipush 201, 3) := by decide +kernel
theorem dX9_addPart_8 : decode (z_c zX9_addPart) 8 = .ok (.if_icmp .ge 17, 3) := by decide +kernel
theorem dX9_addPart_11 : decode (z_c zX9_addPart) 11 = .ok (.aload_n 0, 1) := by decide +kernel
theorem dX9_addPart_12 : decode (z_c zX9_addPart) 12 = .ok (.getfield 85, 3) := by decide +kernel
theorem dX9_addPart_15 : decode (z_c zX9_addPart) 15 = .ok (.iload 4, 2) := by decide +kernel
theorem dX9_addPart_17 : decode (z_c zX9_addPart) 17 = .ok (.lconst 0, 1) := by decide +kernel
theorem dX9_addPart_18 : decode (z_c zX9_addPart) 18 = .ok (.lastore, 1) := by decide +kernel
theorem dX9_addPart_19 : decode (z_c zX9_addPart) 19 = .ok (.iinc 4 1, 3) := by decide +kernel
theorem dX9_addPart_22 : decode (z_c zX9_addPart) 22 = .ok (.goto (-19), 3) := by decide +kernel
theorem dX9_addPart_25 : decode (z_c zX9_addPart) 25 = .ok (.iconst 0, 1) := by decide +kernel
theorem dX9_addPart_26 : decode (z_c zX9_addPart) 26 = .ok (.istore 4, 2) := by decide +kernel
theorem dX9_addPart_28 : decode (z_c zX9_addPart) 28 = .ok (.iload 4, 2) := by decide +kernel
theorem dX9_addPart_30 : decode (z_c zX9_addPart) 30 = .ok (.bipush 100, 2) := by decide +kernel
theorem dX9_addPart_32 : decode (z_c zX9_addPart) 32 = .ok (.if_icmp .gt 131, 3) := by decide +kernel
theorem dX9_addPart_35 : decode (z_c zX9_addPart) 35 = .ok (.iconst 0, 1) := by decide +kernel
theorem dX9_addPart_36 : decode (z_c zX9_addPart) 36 = .ok (.istore 5, 2) := by decide +kernel
theorem dX9_addPart_38 : decode (z_c zX9_addPart) 38 = .ok (.iload 5, 2) := by decide +kernel
theorem dX9_addPart_40 : decode (z_c zX9_addPart) 40 = .ok (.bipush 13, 2) := by decide +kernel
theorem dX9_addPart_42 : decode (z_c zX9_addPart) 42 = .ok (.if_icmp .ge 115, 3) := by decide +kernel
theorem dX9_addPart_45 : decode (z_c zX9_addPart) 45 = .ok (.aload_n 0, 1) := by decide +kernel
theorem dX9_addPart_46 : decode (z_c zX9_addPart) 46 = .ok (.getfield 82, 3) := by decide +kernel
theorem dX9_addPart_49 : decode (z_c zX9_addPart) 49 = .ok (.iload 4, 2) := by decide +kernel
theorem dX9_addPart_51 : decode (z_c zX9_addPart) 51 = .ok (.laload, 1) := by decide +kernel
theorem dX9_addPart_52 : decode (z_c zX9_addPart) 52 = .ok (.lconst 0, 1) := by decide +kernel
theorem dX9_addPart_53 : decode (z_c zX9_addPart) 53 = .ok (.lcmp, 1) := by decide +kernel
theorem dX9_addPart_54 : decode (z_c zX9_addPart) 54 = .ok (.ifCond .le 103, 3) := by decide +kernel
theorem dX9_addPart_57 : decode (z_c zX9_addPart) 57 = .ok (.iload_n 3, 1) := by decide +kernel
theorem dX9_addPart_58 : decode (z_c zX9_addPart) 58 = .ok (.ifCond .eq 15, 3) := by decide +kernel
theorem dX9_addPart_61 : decode (z_c zX9_addPart) 61 = .ok (.aload_n 0, 1) := by decide +kernel
theorem dX9_addPart_62 : decode (z_c zX9_addPart) 62 = .ok (.getfield 79, 3) := by decide +kernel
theorem dX9_addPart_65 : decode (z_c zX9_addPart) 65 = .ok (.iload_n 1, 1) := by decide +kernel
theorem dX9_addPart_66 : decode (z_c zX9_addPart) 66 = .ok (.iload 5, 2) := by decide +kernel
theorem dX9_addPart_68 : decode (z_c zX9_addPart) 68 = .ok (.iadd, 1) := by decide +kernel
theorem dX9_addPart_69 : decode (z_c zX9_addPart) 69 = .ok (.laload, 1) := by decide +kernel
theorem dX9_addPart_70 : decode (z_c zX9_addPart) 70 = .ok (.goto 12, 3) := by decide +kernel
theorem dX9_addPart_73 : decode (z_c zX9_addPart) 73 = .ok (.aload_n 0, 1) := by decide +kernel
theorem dX9_addPart_74 : decode (z_c zX9_addPart) 74 = .ok (.getfield 75, 3) := by decide +kernel
theorem dX9_addPart_77 : decode (z_c zX9_addPart) 77 = .ok (.iload_n 1, 1) := by decide +kernel
theorem dX9_addPart_78 : decode (z_c zX9_addPart) 78 = .ok (.iload 5, 2) := by decide +kernel
theorem dX9_addPart_80 : decode (z_c zX9_addPart) 80 = .ok (.iadd, 1) := by decide +kernel
theorem dX9_addPart_81 : decode (z_c zX9_addPart) 81 = .ok (.laload, 1) := by decide +kernel
theorem dX9_addPart_82 : decode (z_c zX9_addPart) 82 = .ok (.lstore 6, 2) := by decide +kernel
theorem dX9_addPart_84 : decode (z_c zX9_addPart) 84 = .ok (.aload_n 0, 1) := by decide +kernel
theorem dX9_addPart_85 : decode (z_c zX9_addPart) 85 = .ok (.getfield 85, 3) := by decide +kernel
theorem dX9_addPart_88 : decode (z_c zX9_addPart) 88 = .ok (.iload 4, 2) := by decide +kernel
theorem dX9_addPart_90 : decode (z_c zX9_addPart) 90 = .ok (.iload 5, 2) := by decide +kernel
theorem dX9_addPart_92 : decode (z_c zX9_addPart) 92 = .ok (.iadd, 1) := by decide +kernel
theorem dX9_addPart_93 : decode (z_c zX9_addPart) 93 = .ok (.laload, 1) := by decide +kernel
theorem dX9_addPart_94 : decode (z_c zX9_addPart) 94 = .ok (.aload_n 0, 1) := by decide +kernel
theorem dX9_addPart_95 : decode (z_c zX9_addPart) 95 = .ok (.getfield 82, 3) := by decide +kernel
theorem dX9_addPart_98 : decode (z_c zX9_addPart) 98 = .ok (.iload 4, 2) := by decide +kernel
theorem dX9_addPart_100 : decode (z_c zX9_addPart) 100 = .ok (.laload, 1) := by decide +kernel
theorem dX9_addPart_101 : decode (z_c zX9_addPart) 101 = .ok (.lload 6, 2) := by decide +kernel
theorem dX9_addPart_103 : decode (z_c zX9_addPart) 103 = .ok (.lmul, 1) := by decide +kernel
theorem dX9_addPart_104 : decode (z_c zX9_addPart) 104 = .ok (.ladd, 1) := by decide +kernel
theorem dX9_addPart_105 : decode (z_c zX9_addPart) 105 = .ok (.ldc2_w 270, 3) := by decide +kernel
theorem dX9_addPart_108 : decode (z_c zX9_addPart) 108 = .ok (.lrem, 1) := by decide +kernel
theorem dX9_addPart_109 : decode (z_c zX9_addPart) 109 = .ok (.lstore 8, 2) := by decide +kernel
theorem dX9_addPart_111 : decode (z_c zX9_addPart) 111 = .ok (.aload_n 0, 1) := by decide +kernel
theorem dX9_addPart_112 : decode (z_c zX9_addPart) 112 = .ok (.getfield 85, 3) := by decide +kernel
theorem dX9_addPart_115 : decode (z_c zX9_addPart) 115 = .ok (.iload 4, 2) := by decide +kernel
theorem dX9_addPart_117 : decode (z_c zX9_addPart) 117 = .ok (.iload 5, 2) := by decide +kernel
theorem dX9_addPart_119 : decode (z_c zX9_addPart) 119 = .ok (.iadd, 1) := by decide +kernel
theorem dX9_addPart_120 : decode (z_c zX9_addPart) 120 = .ok (.iload_n 2, 1) := by decide +kernel
theorem dX9_addPart_121 : decode (z_c zX9_addPart) 121 = .ok (.ifCond .eq 27, 3) := by decide +kernel
theorem dX9_addPart_124 : decode (z_c zX9_addPart) 124 = .ok (.lload 6, 2) := by decide +kernel
theorem dX9_addPart_126 : decode (z_c zX9_addPart) 126 = .ok (.lconst 0, 1) := by decide +kernel
theorem dX9_addPart_127 : decode (z_c zX9_addPart) 127 = .ok (.lcmp, 1) := by decide +kernel
theorem dX9_addPart_128 : decode (z_c zX9_addPart) 128 = .ok (.ifCond .le 7, 3) := by decide +kernel
theorem dX9_addPart_131 : decode (z_c zX9_addPart) 131 = .ok (.lconst 1, 1) := by decide +kernel
theorem dX9_addPart_132 : decode (z_c zX9_addPart) 132 = .ok (.goto 18, 3) := by decide +kernel
theorem dX9_addPart_135 : decode (z_c zX9_addPart) 135 = .ok (.aload_n 0, 1) := by decide +kernel
theorem dX9_addPart_136 : decode (z_c zX9_addPart) 136 = .ok (.getfield 85, 3) := by decide +kernel
theorem dX9_addPart_139 : decode (z_c zX9_addPart) 139 = .ok (.iload 4, 2) := by decide +kernel
theorem dX9_addPart_141 : decode (z_c zX9_addPart) 141 = .ok (.iload 5, 2) := by decide +kernel
theorem dX9_addPart_143 : decode (z_c zX9_addPart) 143 = .ok (.iadd, 1) := by decide +kernel
theorem dX9_addPart_144 : decode (z_c zX9_addPart) 144 = .ok (.laload, 1) := by decide +kernel
theorem dX9_addPart_145 : decode (z_c zX9_addPart) 145 = .ok (.goto 5, 3) := by decide +kernel
theorem dX9_addPart_148 : decode (z_c zX9_addPart) 148 = .ok (.lload 8, 2) := by decide +kernel
theorem dX9_addPart_150 : decode (z_c zX9_addPart) 150 = .ok (.lastore, 1) := by decide +kernel
theorem dX9_addPart_151 : decode (z_c zX9_addPart) 151 = .ok (.iinc 5 1, 3) := by decide +kernel
theorem dX9_addPart_154 : decode (z_c zX9_addPart) 154 = .ok (.goto (-116), 3) := by decide +kernel
theorem dX9_addPart_157 : decode (z_c zX9_addPart) 157 = .ok (.iinc 4 1, 3) := by decide +kernel
theorem dX9_addPart_160 : decode (z_c zX9_addPart) 160 = .ok (.goto (-132), 3) := by decide +kernel
theorem dX9_addPart_163 : decode (z_c zX9_addPart) 163 = .ok (.iconst 0, 1) := by decide +kernel
theorem dX9_addPart_164 : decode (z_c zX9_addPart) 164 = .ok (.istore 4, 2) := by decide +kernel
theorem dX9_addPart_166 : decode (z_c zX9_addPart) 166 = .ok (.iload 4, 2) := by decide +kernel
theorem dX9_addPart_168 : decode (z_c zX9_addPart) 168 = .ok (.sipush 201, 3) := by decide +kernel
theorem dX9_addPart_171 : decode (z_c zX9_addPart) 171 = .ok (.if_icmp .ge 23, 3) := by decide +kernel
theorem dX9_addPart_174 : decode (z_c zX9_addPart) 174 = .ok (.aload_n 0, 1) := by decide +kernel
theorem dX9_addPart_175 : decode (z_c zX9_addPart) 175 = .ok (.getfield 82, 3) := by decide +kernel
theorem dX9_addPart_178 : decode (z_c zX9_addPart) 178 = .ok (.iload 4, 2) := by decide +kernel
theorem dX9_addPart_180 : decode (z_c zX9_addPart) 180 = .ok (.aload_n 0, 1) := by decide +kernel
theorem dX9_addPart_181 : decode (z_c zX9_addPart) 181 = .ok (.getfield 85, 3) := by decide +kernel
theorem dX9_addPart_184 : decode (z_c zX9_addPart) 184 = .ok (.iload 4, 2) := by decide +kernel
theorem dX9_addPart_186 : decode (z_c zX9_addPart) 186 = .ok (.laload, 1) := by decide +kernel
theorem dX9_addPart_187 : decode (z_c zX9_addPart) 187 = .ok (.lastore, 1) := by decide +kernel
theorem dX9_addPart_188 : decode (z_c zX9_addPart) 188 = .ok (.iinc 4 1, 3) := by decide +kernel
theorem dX9_addPart_191 : decode (z_c zX9_addPart) 191 = .ok (.goto (-25), 3) := by decide +kernel
theorem dX9_addPart_194 : decode (z_c zX9_addPart) 194 = .ok (.return_, 1) := by decide +kernel
theorem dX9_mineLeft_0 : decode (z_c zX9_mineLeft) 0 = .ok (.aload_n 0, 1) := by decide +kernel
theorem dX9_mineLeft_1 : decode (z_c zX9_mineLeft) 1 = .ok (.invokevirtual 134, 3) := by decide +kernel
theorem dX9_mineLeft_4 : decode (z_c zX9_mineLeft) 4 = .ok (.aload_n 0, 1) := by decide +kernel
theorem dX9_mineLeft_5 : decode (z_c zX9_mineLeft) 5 = .ok (.iconst 2, 1) := by decide +kernel
theorem dX9_mineLeft_6 : decode (z_c zX9_mineLeft) 6 = .ok (.invokevirtual 130, 3) := by decide +kernel
theorem dX9_mineLeft_9 : decode (z_c zX9_mineLeft) 9 = .ok (.isub, 1) := by decide +kernel
theorem dX9_mineLeft_10 : decode (z_c zX9_mineLeft) 10 = .ok (.ireturn, 1) := by decide +kernel
theorem dX9_canBe_0 : decode (z_c zX9_canBe) 0 = .ok (.aload_n 0, 1) := by decide +kernel
theorem dX9_canBe_1 : decode (z_c zX9_canBe) 1 = .ok (.getfield 66, 3) := by decide +kernel
theorem dX9_canBe_4 : decode (z_c zX9_canBe) 4 = .ok (.iload_n 1, 1) := by decide +kernel
theorem dX9_canBe_5 : decode (z_c zX9_canBe) 5 = .ok (.iaload, 1) := by decide +kernel
theorem dX9_canBe_6 : decode (z_c zX9_canBe) 6 = .ok (.istore_n 3, 1) := by decide +kernel
theorem dX9_canBe_7 : decode (z_c zX9_canBe) 7 = .ok (.aload_n 0, 1) := by decide +kernel
theorem dX9_canBe_8 : decode (z_c zX9_canBe) 8 = .ok (.iload_n 3, 1) := by decide +kernel
theorem dX9_canBe_9 : decode (z_c zX9_canBe) 9 = .ok (.iconst 1, 1) := by decide +kernel
theorem dX9_canBe_10 : decode (z_c zX9_canBe) 10 = .ok (.invokevirtual 272, 3) := by decide +kernel
theorem dX9_canBe_13 : decode (z_c zX9_canBe) 13 = .ok (.aload_n 0, 1) := by decide +kernel
theorem dX9_canBe_14 : decode (z_c zX9_canBe) 14 = .ok (.invokevirtual 276, 3) := by decide +kernel
theorem dX9_canBe_17 : decode (z_c zX9_canBe) 17 = .ok (.istore 4, 2) := by decide +kernel
theorem dX9_canBe_19 : decode (z_c zX9_canBe) 19 = .ok (.iconst 0, 1) := by decide +kernel
theorem dX9_canBe_20 : decode (z_c zX9_canBe) 20 = .ok (.istore 5, 2) := by decide +kernel
theorem dX9_canBe_22 : decode (z_c zX9_canBe) 22 = .ok (.iload_n 3, 1) := by decide +kernel
theorem dX9_canBe_23 : decode (z_c zX9_canBe) 23 = .ok (.ifCond .ge 71, 3) := by decide +kernel
theorem dX9_canBe_26 : decode (z_c zX9_canBe) 26 = .ok (.iconst 0, 1) := by decide +kernel
theorem dX9_canBe_27 : decode (z_c zX9_canBe) 27 = .ok (.istore 6, 2) := by decide +kernel
theorem dX9_canBe_29 : decode (z_c zX9_canBe) 29 = .ok (.iload 6, 2) := by decide +kernel
theorem dX9_canBe_31 : decode (z_c zX9_canBe) 31 = .ok (.bipush 100, 2) := by decide +kernel
theorem dX9_canBe_33 : decode (z_c zX9_canBe) 33 = .ok (.if_icmp .gt 58, 3) := by decide +kernel
theorem dX9_canBe_36 : decode (z_c zX9_canBe) 36 = .ok (.iload 4, 2) := by decide +kernel
theorem dX9_canBe_38 : decode (z_c zX9_canBe) 38 = .ok (.iload 6, 2) := by decide +kernel
theorem dX9_canBe_40 : decode (z_c zX9_canBe) 40 = .ok (.isub, 1) := by decide +kernel
theorem dX9_canBe_41 : decode (z_c zX9_canBe) 41 = .ok (.iload_n 2, 1) := by decide +kernel
theorem dX9_canBe_42 : decode (z_c zX9_canBe) 42 = .ok (.isub, 1) := by decide +kernel
theorem dX9_canBe_43 : decode (z_c zX9_canBe) 43 = .ok (.istore 7, 2) := by decide +kernel
theorem dX9_canBe_45 : decode (z_c zX9_canBe) 45 = .ok (.iload 5, 2) := by decide +kernel
theorem dX9_canBe_47 : decode (z_c zX9_canBe) 47 = .ok (.ifCond .ne 31, 3) := by decide +kernel
theorem dX9_canBe_50 : decode (z_c zX9_canBe) 50 = .ok (.aload_n 0, 1) := by decide +kernel
theorem dX9_canBe_51 : decode (z_c zX9_canBe) 51 = .ok (.getfield 82, 3) := by decide +kernel
theorem dX9_canBe_54 : decode (z_c zX9_canBe) 54 = .ok (.iload 6, 2) := by decide +kernel
theorem dX9_canBe_56 : decode (z_c zX9_canBe) 56 = .ok (.laload, 1) := by decide +kernel
theorem dX9_canBe_57 : decode (z_c zX9_canBe) 57 = .ok (.lconst 0, 1) := by decide +kernel
theorem dX9_canBe_58 : decode (z_c zX9_canBe) 58 = .ok (.lcmp, 1) := by decide +kernel
theorem dX9_canBe_59 : decode (z_c zX9_canBe) 59 = .ok (.ifCond .le 23, 3) := by decide +kernel
theorem dX9_canBe_62 : decode (z_c zX9_canBe) 62 = .ok (.iload 7, 2) := by decide +kernel
theorem dX9_canBe_64 : decode (z_c zX9_canBe) 64 = .ok (.ifCond .lt 18, 3) := by decide +kernel
theorem dX9_canBe_67 : decode (z_c zX9_canBe) 67 = .ok (.iload 7, 2) := by decide +kernel
theorem dX9_canBe_69 : decode (z_c zX9_canBe) 69 = .ok (.aload_n 0, 1) := by decide +kernel
theorem dX9_canBe_70 : decode (z_c zX9_canBe) 70 = .ok (.getfield 253, 3) := by decide +kernel
theorem dX9_canBe_73 : decode (z_c zX9_canBe) 73 = .ok (.iconst 1, 1) := by decide +kernel
theorem dX9_canBe_74 : decode (z_c zX9_canBe) 74 = .ok (.isub, 1) := by decide +kernel
theorem dX9_canBe_75 : decode (z_c zX9_canBe) 75 = .ok (.if_icmp .gt 7, 3) := by decide +kernel
theorem dX9_canBe_78 : decode (z_c zX9_canBe) 78 = .ok (.iconst 1, 1) := by decide +kernel
theorem dX9_canBe_79 : decode (z_c zX9_canBe) 79 = .ok (.goto 4, 3) := by decide +kernel
theorem dX9_canBe_82 : decode (z_c zX9_canBe) 82 = .ok (.iconst 0, 1) := by decide +kernel
theorem dX9_canBe_83 : decode (z_c zX9_canBe) 83 = .ok (.istore 5, 2) := by decide +kernel
theorem dX9_canBe_85 : decode (z_c zX9_canBe) 85 = .ok (.iinc 6 1, 3) := by decide +kernel
theorem dX9_canBe_88 : decode (z_c zX9_canBe) 88 = .ok (.goto (-59), 3) := by decide +kernel
theorem dX9_canBe_91 : decode (z_c zX9_canBe) 91 = .ok (.iload 5, 2) := by decide +kernel
theorem dX9_canBe_93 : decode (z_c zX9_canBe) 93 = .ok (.ireturn, 1) := by decide +kernel
theorem dX9_canBe_94 : decode (z_c zX9_canBe) 94 = .ok (.iconst 0, 1) := by decide +kernel
theorem dX9_canBe_95 : decode (z_c zX9_canBe) 95 = .ok (.istore 6, 2) := by decide +kernel
theorem dX9_canBe_97 : decode (z_c zX9_canBe) 97 = .ok (.iload 6, 2) := by decide +kernel
theorem dX9_canBe_99 : decode (z_c zX9_canBe) 99 = .ok (.bipush 100, 2) := by decide +kernel
theorem dX9_canBe_101 : decode (z_c zX9_canBe) 101 = .ok (.if_icmp .gt 127, 3) := by decide +kernel
theorem dX9_canBe_104 : decode (z_c zX9_canBe) 104 = .ok (.iconst 0, 1) := by decide +kernel
theorem dX9_canBe_105 : decode (z_c zX9_canBe) 105 = .ok (.istore 7, 2) := by decide +kernel
theorem dX9_canBe_107 : decode (z_c zX9_canBe) 107 = .ok (.iload 7, 2) := by decide +kernel
theorem dX9_canBe_109 : decode (z_c zX9_canBe) 109 = .ok (.bipush 13, 2) := by decide +kernel
theorem dX9_canBe_111 : decode (z_c zX9_canBe) 111 = .ok (.if_icmp .ge 111, 3) := by decide +kernel
theorem dX9_canBe_114 : decode (z_c zX9_canBe) 114 = .ok (.iload_n 2, 1) := by decide +kernel
theorem dX9_canBe_115 : decode (z_c zX9_canBe) 115 = .ok (.iconst 1, 1) := by decide +kernel
theorem dX9_canBe_116 : decode (z_c zX9_canBe) 116 = .ok (.if_icmp .ne 18, 3) := by decide +kernel
theorem dX9_canBe_119 : decode (z_c zX9_canBe) 119 = .ok (.aload_n 0, 1) := by decide +kernel
theorem dX9_canBe_120 : decode (z_c zX9_canBe) 120 = .ok (.getfield 79, 3) := by decide +kernel
theorem dX9_canBe_123 : decode (z_c zX9_canBe) 123 = .ok (.bipush 13, 2) := by decide +kernel
theorem dX9_canBe_125 : decode (z_c zX9_canBe) 125 = .ok (.iload_n 1, 1) := by decide +kernel
theorem dX9_canBe_126 : decode (z_c zX9_canBe) 126 = .ok (.imul, 1) := by decide +kernel
theorem dX9_canBe_127 : decode (z_c zX9_canBe) 127 = .ok (.iload 7, 2) := by decide +kernel
theorem dX9_canBe_129 : decode (z_c zX9_canBe) 129 = .ok (.iadd, 1) := by decide +kernel
theorem dX9_canBe_130 : decode (z_c zX9_canBe) 130 = .ok (.laload, 1) := by decide +kernel
theorem dX9_canBe_131 : decode (z_c zX9_canBe) 131 = .ok (.goto 28, 3) := by decide +kernel
theorem dX9_canBe_134 : decode (z_c zX9_canBe) 134 = .ok (.aload_n 0, 1) := by decide +kernel
theorem dX9_canBe_135 : decode (z_c zX9_canBe) 135 = .ok (.getfield 75, 3) := by decide +kernel
theorem dX9_canBe_138 : decode (z_c zX9_canBe) 138 = .ok (.bipush 13, 2) := by decide +kernel
theorem dX9_canBe_140 : decode (z_c zX9_canBe) 140 = .ok (.iload_n 3, 1) := by decide +kernel
theorem dX9_canBe_141 : decode (z_c zX9_canBe) 141 = .ok (.imul, 1) := by decide +kernel
theorem dX9_canBe_142 : decode (z_c zX9_canBe) 142 = .ok (.iload 7, 2) := by decide +kernel
theorem dX9_canBe_144 : decode (z_c zX9_canBe) 144 = .ok (.iadd, 1) := by decide +kernel
theorem dX9_canBe_145 : decode (z_c zX9_canBe) 145 = .ok (.laload, 1) := by decide +kernel
theorem dX9_canBe_146 : decode (z_c zX9_canBe) 146 = .ok (.aload_n 0, 1) := by decide +kernel
theorem dX9_canBe_147 : decode (z_c zX9_canBe) 147 = .ok (.getfield 79, 3) := by decide +kernel
theorem dX9_canBe_150 : decode (z_c zX9_canBe) 150 = .ok (.bipush 13, 2) := by decide +kernel
theorem dX9_canBe_152 : decode (z_c zX9_canBe) 152 = .ok (.iload_n 1, 1) := by decide +kernel
theorem dX9_canBe_153 : decode (z_c zX9_canBe) 153 = .ok (.imul, 1) := by decide +kernel
theorem dX9_canBe_154 : decode (z_c zX9_canBe) 154 = .ok (.iload 7, 2) := by decide +kernel
theorem dX9_canBe_156 : decode (z_c zX9_canBe) 156 = .ok (.iadd, 1) := by decide +kernel
theorem dX9_canBe_157 : decode (z_c zX9_canBe) 157 = .ok (.laload, 1) := by decide +kernel
theorem dX9_canBe_158 : decode (z_c zX9_canBe) 158 = .ok (.lsub, 1) := by decide +kernel
theorem dX9_canBe_159 : decode (z_c zX9_canBe) 159 = .ok (.lstore 8, 2) := by decide +kernel
theorem dX9_canBe_161 : decode (z_c zX9_canBe) 161 = .ok (.iload 4, 2) := by decide +kernel
theorem dX9_canBe_163 : decode (z_c zX9_canBe) 163 = .ok (.iload 6, 2) := by decide +kernel
theorem dX9_canBe_165 : decode (z_c zX9_canBe) 165 = .ok (.isub, 1) := by decide +kernel
theorem dX9_canBe_166 : decode (z_c zX9_canBe) 166 = .ok (.iload 7, 2) := by decide +kernel
theorem dX9_canBe_168 : decode (z_c zX9_canBe) 168 = .ok (.isub, 1) := by decide +kernel
theorem dX9_canBe_169 : decode (z_c zX9_canBe) 169 = .ok (.istore 10, 2) := by decide +kernel
theorem dX9_canBe_171 : decode (z_c zX9_canBe) 171 = .ok (.iload 5, 2) := by decide +kernel
theorem dX9_canBe_173 : decode (z_c zX9_canBe) 173 = .ok (.ifCond .ne 36, 3) := by decide +kernel
theorem dX9_canBe_176 : decode (z_c zX9_canBe) 176 = .ok (.aload_n 0, 1) := by decide +kernel
theorem dX9_canBe_177 : decode (z_c zX9_canBe) 177 = .ok (.getfield 82, 3) := by decide +kernel
theorem dX9_canBe_180 : decode (z_c zX9_canBe) 180 = .ok (.iload 6, 2) := by decide +kernel
theorem dX9_canBe_182 : decode (z_c zX9_canBe) 182 = .ok (.laload, 1) := by decide +kernel
theorem dX9_canBe_183 : decode (z_c zX9_canBe) 183 = .ok (.lconst 0, 1) := by decide +kernel
theorem dX9_canBe_184 : decode (z_c zX9_canBe) 184 = .ok (.lcmp, 1) := by decide +kernel
theorem dX9_canBe_185 : decode (z_c zX9_canBe) 185 = .ok (.ifCond .le 28, 3) := by decide +kernel
theorem dX9_canBe_188 : decode (z_c zX9_canBe) 188 = .ok (.lload 8, 2) := by decide +kernel
theorem dX9_canBe_190 : decode (z_c zX9_canBe) 190 = .ok (.lconst 0, 1) := by decide +kernel
theorem dX9_canBe_191 : decode (z_c zX9_canBe) 191 = .ok (.lcmp, 1) := by decide +kernel
theorem dX9_canBe_192 : decode (z_c zX9_canBe) 192 = .ok (.ifCond .le 21, 3) := by decide +kernel
theorem dX9_canBe_195 : decode (z_c zX9_canBe) 195 = .ok (.iload 10, 2) := by decide +kernel
theorem dX9_canBe_197 : decode (z_c zX9_canBe) 197 = .ok (.ifCond .lt 16, 3) := by decide +kernel
theorem dX9_canBe_200 : decode (z_c zX9_canBe) 200 = .ok (.iload 10, 2) := by decide +kernel
theorem dX9_canBe_202 : decode (z_c zX9_canBe) 202 = .ok (.aload_n 0, 1) := by decide +kernel
theorem dX9_canBe_203 : decode (z_c zX9_canBe) 203 = .ok (.getfield 253, 3) := by decide +kernel
theorem dX9_canBe_206 : decode (z_c zX9_canBe) 206 = .ok (.if_icmp .gt 7, 3) := by decide +kernel
theorem dX9_canBe_209 : decode (z_c zX9_canBe) 209 = .ok (.iconst 1, 1) := by decide +kernel
theorem dX9_canBe_210 : decode (z_c zX9_canBe) 210 = .ok (.goto 4, 3) := by decide +kernel
theorem dX9_canBe_213 : decode (z_c zX9_canBe) 213 = .ok (.iconst 0, 1) := by decide +kernel
theorem dX9_canBe_214 : decode (z_c zX9_canBe) 214 = .ok (.istore 5, 2) := by decide +kernel
theorem dX9_canBe_216 : decode (z_c zX9_canBe) 216 = .ok (.iinc 7 1, 3) := by decide +kernel
theorem dX9_canBe_219 : decode (z_c zX9_canBe) 219 = .ok (.goto (-112), 3) := by decide +kernel
theorem dX9_canBe_222 : decode (z_c zX9_canBe) 222 = .ok (.iinc 6 1, 3) := by decide +kernel
theorem dX9_canBe_225 : decode (z_c zX9_canBe) 225 = .ok (.goto (-128), 3) := by decide +kernel
theorem dX9_canBe_228 : decode (z_c zX9_canBe) 228 = .ok (.iload 5, 2) := by decide +kernel
theorem dX9_canBe_230 : decode (z_c zX9_canBe) 230 = .ok (.ireturn, 1) := by decide +kernel
theorem dX9_findChoices_0 : decode (z_c zX9_findChoices) 0 = .ok (.iconst 0, 1) := by decide +kernel
theorem dX9_findChoices_1 : decode (z_c zX9_findChoices) 1 = .ok (.istore_n 2, 1) := by decide +kernel
theorem dX9_findChoices_2 : decode (z_c zX9_findChoices) 2 = .ok (.iload_n 2, 1) := by decide +kernel
theorem dX9_findChoices_3 : decode (z_c zX9_findChoices) 3 = .ok (.bipush 101, 2) := by decide +kernel
theorem dX9_findChoices_5 : decode (z_c zX9_findChoices) 5 = .ok (.if_icmp .ge 24, 3) := by decide +kernel
theorem dX9_findChoices_8 : decode (z_c zX9_findChoices) 8 = .ok (.aload_n 0, 1) := by decide +kernel
theorem dX9_findChoices_9 : decode (z_c zX9_findChoices) 9 = .ok (.getfield 88, 3) := by decide +kernel
theorem dX9_findChoices_12 : decode (z_c zX9_findChoices) 12 = .ok (.iload_n 2, 1) := by decide +kernel
theorem dX9_findChoices_13 : decode (z_c zX9_findChoices) 13 = .ok (.iload_n 2, 1) := by decide +kernel
theorem dX9_findChoices_14 : decode (z_c zX9_findChoices) 14 = .ok (.ifCond .ne 7, 3) := by decide +kernel
theorem dX9_findChoices_17 : decode (z_c zX9_findChoices) 17 = .ok (.lconst 1, 1) := by decide +kernel
theorem dX9_findChoices_18 : decode (z_c zX9_findChoices) 18 = .ok (.goto 4, 3) := by decide +kernel
theorem dX9_findChoices_21 : decode (z_c zX9_findChoices) 21 = .ok (.lconst 0, 1) := by decide +kernel
theorem dX9_findChoices_22 : decode (z_c zX9_findChoices) 22 = .ok (.lastore, 1) := by decide +kernel
theorem dX9_findChoices_23 : decode (z_c zX9_findChoices) 23 = .ok (.iinc 2 1, 3) := by decide +kernel
theorem dX9_findChoices_26 : decode (z_c zX9_findChoices) 26 = .ok (.goto (-24), 3) := by decide +kernel
theorem dX9_findChoices_29 : decode (z_c zX9_findChoices) 29 = .ok (.iconst 0, 1) := by decide +kernel
theorem dX9_findChoices_30 : decode (z_c zX9_findChoices) 30 = .ok (.istore_n 2, 1) := by decide +kernel
theorem dX9_findChoices_31 : decode (z_c zX9_findChoices) 31 = .ok (.iload_n 2, 1) := by decide +kernel
theorem dX9_findChoices_32 : decode (z_c zX9_findChoices) 32 = .ok (.iload_n 1, 1) := by decide +kernel
theorem dX9_findChoices_33 : decode (z_c zX9_findChoices) 33 = .ok (.if_icmp .ge 47, 3) := by decide +kernel
theorem dX9_findChoices_36 : decode (z_c zX9_findChoices) 36 = .ok (.bipush 100, 2) := by decide +kernel
theorem dX9_findChoices_38 : decode (z_c zX9_findChoices) 38 = .ok (.istore_n 3, 1) := by decide +kernel
theorem dX9_findChoices_39 : decode (z_c zX9_findChoices) 39 = .ok (.iload_n 3, 1) := by decide +kernel
theorem dX9_findChoices_40 : decode (z_c zX9_findChoices) 40 = .ok (.ifCond .le 34, 3) := by decide +kernel
theorem dX9_findChoices_43 : decode (z_c zX9_findChoices) 43 = .ok (.aload_n 0, 1) := by decide +kernel
theorem dX9_findChoices_44 : decode (z_c zX9_findChoices) 44 = .ok (.getfield 88, 3) := by decide +kernel
theorem dX9_findChoices_47 : decode (z_c zX9_findChoices) 47 = .ok (.iload_n 3, 1) := by decide +kernel
theorem dX9_findChoices_48 : decode (z_c zX9_findChoices) 48 = .ok (.aload_n 0, 1) := by decide +kernel
theorem dX9_findChoices_49 : decode (z_c zX9_findChoices) 49 = .ok (.getfield 88, 3) := by decide +kernel
theorem dX9_findChoices_52 : decode (z_c zX9_findChoices) 52 = .ok (.iload_n 3, 1) := by decide +kernel
theorem dX9_findChoices_53 : decode (z_c zX9_findChoices) 53 = .ok (.laload, 1) := by decide +kernel
theorem dX9_findChoices_54 : decode (z_c zX9_findChoices) 54 = .ok (.aload_n 0, 1) := by decide +kernel
theorem dX9_findChoices_55 : decode (z_c zX9_findChoices) 55 = .ok (.getfield 88, 3) := by decide +kernel
theorem dX9_findChoices_58 : decode (z_c zX9_findChoices) 58 = .ok (.iload_n 3, 1) := by decide +kernel
theorem dX9_findChoices_59 : decode (z_c zX9_findChoices) 59 = .ok (.iconst 1, 1) := by decide +kernel
theorem dX9_findChoices_60 : decode (z_c zX9_findChoices) 60 = .ok (.isub, 1) := by decide +kernel
theorem dX9_findChoices_61 : decode (z_c zX9_findChoices) 61 = .ok (.laload, 1) := by decide +kernel
theorem dX9_findChoices_62 : decode (z_c zX9_findChoices) 62 = .ok (.ladd, 1) := by decide +kernel
theorem dX9_findChoices_63 : decode (z_c zX9_findChoices) 63 = .ok (.ldc2_w 270, 3) := by decide +kernel
theorem dX9_findChoices_66 : decode (z_c zX9_findChoices) 66 = .ok (.lrem, 1) := by decide +kernel
theorem dX9_findChoices_67 : decode (z_c zX9_findChoices) 67 = .ok (.lastore, 1) := by decide +kernel
theorem dX9_findChoices_68 : decode (z_c zX9_findChoices) 68 = .ok (.iinc 3 (-1), 3) := by decide +kernel
theorem dX9_findChoices_71 : decode (z_c zX9_findChoices) 71 = .ok (.goto (-32), 3) := by decide +kernel
theorem dX9_findChoices_74 : decode (z_c zX9_findChoices) 74 = .ok (.iinc 2 1, 3) := by decide +kernel
theorem dX9_findChoices_77 : decode (z_c zX9_findChoices) 77 = .ok (.goto (-46), 3) := by decide +kernel
theorem dX9_findChoices_80 : decode (z_c zX9_findChoices) 80 = .ok (.return_, 1) := by decide +kernel
theorem dX9_together_0 : decode (z_c zX9_together) 0 = .ok (.aload_n 0, 1) := by decide +kernel
theorem dX9_together_1 : decode (z_c zX9_together) 1 = .ok (.iload_n 1, 1) := by decide +kernel
theorem dX9_together_2 : decode (z_c zX9_together) 2 = .ok (.invokevirtual 279, 3) := by decide +kernel
theorem dX9_together_5 : decode (z_c zX9_together) 5 = .ok (.lconst 0, 1) := by decide +kernel
theorem dX9_together_6 : decode (z_c zX9_together) 6 = .ok (.lstore_n 3, 1) := by decide +kernel
theorem dX9_together_7 : decode (z_c zX9_together) 7 = .ok (.iconst 0, 1) := by decide +kernel
theorem dX9_together_8 : decode (z_c zX9_together) 8 = .ok (.istore 5, 2) := by decide +kernel
theorem dX9_together_10 : decode (z_c zX9_together) 10 = .ok (.iload 5, 2) := by decide +kernel
theorem dX9_together_12 : decode (z_c zX9_together) 12 = .ok (.bipush 100, 2) := by decide +kernel
theorem dX9_together_14 : decode (z_c zX9_together) 14 = .ok (.if_icmp .gt 48, 3) := by decide +kernel
theorem dX9_together_17 : decode (z_c zX9_together) 17 = .ok (.iload_n 2, 1) := by decide +kernel
theorem dX9_together_18 : decode (z_c zX9_together) 18 = .ok (.iload 5, 2) := by decide +kernel
theorem dX9_together_20 : decode (z_c zX9_together) 20 = .ok (.isub, 1) := by decide +kernel
theorem dX9_together_21 : decode (z_c zX9_together) 21 = .ok (.istore 6, 2) := by decide +kernel
theorem dX9_together_23 : decode (z_c zX9_together) 23 = .ok (.iload 6, 2) := by decide +kernel
theorem dX9_together_25 : decode (z_c zX9_together) 25 = .ok (.ifCond .lt 31, 3) := by decide +kernel
theorem dX9_together_28 : decode (z_c zX9_together) 28 = .ok (.iload 6, 2) := by decide +kernel
theorem dX9_together_30 : decode (z_c zX9_together) 30 = .ok (.iload_n 1, 1) := by decide +kernel
theorem dX9_together_31 : decode (z_c zX9_together) 31 = .ok (.if_icmp .gt 25, 3) := by decide +kernel
theorem dX9_together_34 : decode (z_c zX9_together) 34 = .ok (.lload_n 3, 1) := by decide +kernel
theorem dX9_together_35 : decode (z_c zX9_together) 35 = .ok (.aload_n 0, 1) := by decide +kernel
theorem dX9_together_36 : decode (z_c zX9_together) 36 = .ok (.getfield 82, 3) := by decide +kernel
theorem dX9_together_39 : decode (z_c zX9_together) 39 = .ok (.iload 5, 2) := by decide +kernel
theorem dX9_together_41 : decode (z_c zX9_together) 41 = .ok (.laload, 1) := by decide +kernel
theorem dX9_together_42 : decode (z_c zX9_together) 42 = .ok (.aload_n 0, 1) := by decide +kernel
theorem dX9_together_43 : decode (z_c zX9_together) 43 = .ok (.getfield 88, 3) := by decide +kernel
theorem dX9_together_46 : decode (z_c zX9_together) 46 = .ok (.iload 6, 2) := by decide +kernel
theorem dX9_together_48 : decode (z_c zX9_together) 48 = .ok (.laload, 1) := by decide +kernel
theorem dX9_together_49 : decode (z_c zX9_together) 49 = .ok (.lmul, 1) := by decide +kernel
theorem dX9_together_50 : decode (z_c zX9_together) 50 = .ok (.ladd, 1) := by decide +kernel
theorem dX9_together_51 : decode (z_c zX9_together) 51 = .ok (.ldc2_w 270, 3) := by decide +kernel
theorem dX9_together_54 : decode (z_c zX9_together) 54 = .ok (.lrem, 1) := by decide +kernel
theorem dX9_together_55 : decode (z_c zX9_together) 55 = .ok (.lstore_n 3, 1) := by decide +kernel
theorem dX9_together_56 : decode (z_c zX9_together) 56 = .ok (.iinc 5 1, 3) := by decide +kernel
theorem dX9_together_59 : decode (z_c zX9_together) 59 = .ok (.goto (-49), 3) := by decide +kernel
theorem dX9_together_62 : decode (z_c zX9_together) 62 = .ok (.lload_n 3, 1) := by decide +kernel
theorem dX9_together_63 : decode (z_c zX9_together) 63 = .ok (.l2i, 1) := by decide +kernel
theorem dX9_together_64 : decode (z_c zX9_together) 64 = .ok (.ireturn, 1) := by decide +kernel
theorem dX9_ways_0 : decode (z_c zX9_ways) 0 = .ok (.aload_n 0, 1) := by decide +kernel
theorem dX9_ways_1 : decode (z_c zX9_ways) 1 = .ok (.invokevirtual 210, 3) := by decide +kernel
theorem dX9_ways_4 : decode (z_c zX9_ways) 4 = .ok (.ifCond .ne 6, 3) := by decide +kernel
theorem dX9_ways_7 : decode (z_c zX9_ways) 7 = .ok (.bipush (-3), 2) := by decide +kernel
theorem dX9_ways_9 : decode (z_c zX9_ways) 9 = .ok (.ireturn, 1) := by decide +kernel
theorem dX9_ways_10 : decode (z_c zX9_ways) 10 = .ok (.aload_n 0, 1) := by decide +kernel
theorem dX9_ways_11 : decode (z_c zX9_ways) 11 = .ok (.invokevirtual 213, 3) := by decide +kernel
theorem dX9_ways_14 : decode (z_c zX9_ways) 14 = .ok (.aload_n 0, 1) := by decide +kernel
theorem dX9_ways_15 : decode (z_c zX9_ways) 15 = .ok (.iconst (-1), 1) := by decide +kernel
theorem dX9_ways_16 : decode (z_c zX9_ways) 16 = .ok (.iconst 0, 1) := by decide +kernel
theorem dX9_ways_17 : decode (z_c zX9_ways) 17 = .ok (.invokevirtual 272, 3) := by decide +kernel
theorem dX9_ways_20 : decode (z_c zX9_ways) 20 = .ok (.aload_n 0, 1) := by decide +kernel
theorem dX9_ways_21 : decode (z_c zX9_ways) 21 = .ok (.aload_n 0, 1) := by decide +kernel
theorem dX9_ways_22 : decode (z_c zX9_ways) 22 = .ok (.getfield 253, 3) := by decide +kernel
theorem dX9_ways_25 : decode (z_c zX9_ways) 25 = .ok (.aload_n 0, 1) := by decide +kernel
theorem dX9_ways_26 : decode (z_c zX9_ways) 26 = .ok (.invokevirtual 276, 3) := by decide +kernel
theorem dX9_ways_29 : decode (z_c zX9_ways) 29 = .ok (.invokevirtual 282, 3) := by decide +kernel
theorem dX9_ways_32 : decode (z_c zX9_ways) 32 = .ok (.ireturn, 1) := by decide +kernel
theorem dX9_with_0 : decode (z_c zX9_with) 0 = .ok (.aload_n 0, 1) := by decide +kernel
theorem dX9_with_1 : decode (z_c zX9_with) 1 = .ok (.iload_n 1, 1) := by decide +kernel
theorem dX9_with_2 : decode (z_c zX9_with) 2 = .ok (.invokevirtual 126, 3) := by decide +kernel
theorem dX9_with_5 : decode (z_c zX9_with) 5 = .ok (.ifCond .ne 5, 3) := by decide +kernel
theorem dX9_with_8 : decode (z_c zX9_with) 8 = .ok (.iconst (-1), 1) := by decide +kernel
theorem dX9_with_9 : decode (z_c zX9_with) 9 = .ok (.ireturn, 1) := by decide +kernel
theorem dX9_with_10 : decode (z_c zX9_with) 10 = .ok (.aload_n 0, 1) := by decide +kernel
theorem dX9_with_11 : decode (z_c zX9_with) 11 = .ok (.getfield 26, 3) := by decide +kernel
theorem dX9_with_14 : decode (z_c zX9_with) 14 = .ok (.iload_n 1, 1) := by decide +kernel
theorem dX9_with_15 : decode (z_c zX9_with) 15 = .ok (.iaload, 1) := by decide +kernel
theorem dX9_with_16 : decode (z_c zX9_with) 16 = .ok (.ifCond .eq 6, 3) := by decide +kernel
theorem dX9_with_19 : decode (z_c zX9_with) 19 = .ok (.bipush (-2), 2) := by decide +kernel
theorem dX9_with_21 : decode (z_c zX9_with) 21 = .ok (.ireturn, 1) := by decide +kernel
theorem dX9_with_22 : decode (z_c zX9_with) 22 = .ok (.aload_n 0, 1) := by decide +kernel
theorem dX9_with_23 : decode (z_c zX9_with) 23 = .ok (.invokevirtual 210, 3) := by decide +kernel
theorem dX9_with_26 : decode (z_c zX9_with) 26 = .ok (.ifCond .ne 6, 3) := by decide +kernel
theorem dX9_with_29 : decode (z_c zX9_with) 29 = .ok (.bipush (-3), 2) := by decide +kernel
theorem dX9_with_31 : decode (z_c zX9_with) 31 = .ok (.ireturn, 1) := by decide +kernel
theorem dX9_with_32 : decode (z_c zX9_with) 32 = .ok (.aload_n 0, 1) := by decide +kernel
theorem dX9_with_33 : decode (z_c zX9_with) 33 = .ok (.invokevirtual 213, 3) := by decide +kernel
theorem dX9_with_36 : decode (z_c zX9_with) 36 = .ok (.aload_n 0, 1) := by decide +kernel
theorem dX9_with_37 : decode (z_c zX9_with) 37 = .ok (.getfield 66, 3) := by decide +kernel
theorem dX9_with_40 : decode (z_c zX9_with) 40 = .ok (.iload_n 1, 1) := by decide +kernel
theorem dX9_with_41 : decode (z_c zX9_with) 41 = .ok (.iaload, 1) := by decide +kernel
theorem dX9_with_42 : decode (z_c zX9_with) 42 = .ok (.istore_n 2, 1) := by decide +kernel
theorem dX9_with_43 : decode (z_c zX9_with) 43 = .ok (.aload_n 0, 1) := by decide +kernel
theorem dX9_with_44 : decode (z_c zX9_with) 44 = .ok (.iload_n 2, 1) := by decide +kernel
theorem dX9_with_45 : decode (z_c zX9_with) 45 = .ok (.iconst 0, 1) := by decide +kernel
theorem dX9_with_46 : decode (z_c zX9_with) 46 = .ok (.invokevirtual 272, 3) := by decide +kernel
theorem dX9_with_49 : decode (z_c zX9_with) 49 = .ok (.iload_n 2, 1) := by decide +kernel
theorem dX9_with_50 : decode (z_c zX9_with) 50 = .ok (.ifCond .ge 20, 3) := by decide +kernel
theorem dX9_with_53 : decode (z_c zX9_with) 53 = .ok (.aload_n 0, 1) := by decide +kernel
theorem dX9_with_54 : decode (z_c zX9_with) 54 = .ok (.aload_n 0, 1) := by decide +kernel
theorem dX9_with_55 : decode (z_c zX9_with) 55 = .ok (.getfield 253, 3) := by decide +kernel
theorem dX9_with_58 : decode (z_c zX9_with) 58 = .ok (.iconst 1, 1) := by decide +kernel
theorem dX9_with_59 : decode (z_c zX9_with) 59 = .ok (.isub, 1) := by decide +kernel
theorem dX9_with_60 : decode (z_c zX9_with) 60 = .ok (.aload_n 0, 1) := by decide +kernel
theorem dX9_with_61 : decode (z_c zX9_with) 61 = .ok (.invokevirtual 276, 3) := by decide +kernel
theorem dX9_with_64 : decode (z_c zX9_with) 64 = .ok (.iconst 1, 1) := by decide +kernel
theorem dX9_with_65 : decode (z_c zX9_with) 65 = .ok (.isub, 1) := by decide +kernel
theorem dX9_with_66 : decode (z_c zX9_with) 66 = .ok (.invokevirtual 282, 3) := by decide +kernel
theorem dX9_with_69 : decode (z_c zX9_with) 69 = .ok (.ireturn, 1) := by decide +kernel
theorem dX9_with_70 : decode (z_c zX9_with) 70 = .ok (.aload_n 0, 1) := by decide +kernel
theorem dX9_with_71 : decode (z_c zX9_with) 71 = .ok (.bipush 13, 2) := by decide +kernel
theorem dX9_with_73 : decode (z_c zX9_with) 73 = .ok (.iload_n 1, 1) := by decide +kernel
theorem dX9_with_74 : decode (z_c zX9_with) 74 = .ok (.imul, 1) := by decide +kernel
theorem dX9_with_75 : decode (z_c zX9_with) 75 = .ok (.iconst 0, 1) := by decide +kernel
theorem dX9_with_76 : decode (z_c zX9_with) 76 = .ok (.iconst 1, 1) := by decide +kernel
theorem dX9_with_77 : decode (z_c zX9_with) 77 = .ok (.invokevirtual 266, 3) := by decide +kernel
theorem dX9_with_80 : decode (z_c zX9_with) 80 = .ok (.aload_n 0, 1) := by decide +kernel
theorem dX9_with_81 : decode (z_c zX9_with) 81 = .ok (.aload_n 0, 1) := by decide +kernel
theorem dX9_with_82 : decode (z_c zX9_with) 82 = .ok (.getfield 253, 3) := by decide +kernel
theorem dX9_with_85 : decode (z_c zX9_with) 85 = .ok (.aload_n 0, 1) := by decide +kernel
theorem dX9_with_86 : decode (z_c zX9_with) 86 = .ok (.invokevirtual 276, 3) := by decide +kernel
theorem dX9_with_89 : decode (z_c zX9_with) 89 = .ok (.invokevirtual 282, 3) := by decide +kernel
theorem dX9_with_92 : decode (z_c zX9_with) 92 = .ok (.ireturn, 1) := by decide +kernel
