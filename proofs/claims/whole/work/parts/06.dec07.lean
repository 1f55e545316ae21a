theorem d_MD_putRow_0 : decode b_MD_putRow 0 = .ok (.aload_n 0, 1) := by decide +kernel
theorem d_MD_putRow_1 : decode b_MD_putRow 1 = .ok (.getfield 80, 3) := by decide +kernel
theorem d_MD_putRow_4 : decode b_MD_putRow 4 = .ok (.iload_n 2, 1) := by decide +kernel
theorem d_MD_putRow_5 : decode b_MD_putRow 5 = .ok (.baload, 1) := by decide +kernel
theorem d_MD_putRow_6 : decode b_MD_putRow 6 = .ok (.istore_n 3, 1) := by decide +kernel
theorem d_MD_putRow_7 : decode b_MD_putRow 7 = .ok (.aload_n 0, 1) := by decide +kernel
theorem d_MD_putRow_8 : decode b_MD_putRow 8 = .ok (.iload_n 1, 1) := by decide +kernel
theorem d_MD_putRow_9 : decode b_MD_putRow 9 = .ok (.iload_n 2, 1) := by decide +kernel
theorem d_MD_putRow_10 : decode b_MD_putRow 10 = .ok (.invokevirtual 378, 3) := by decide +kernel
theorem d_MD_putRow_13 : decode b_MD_putRow 13 = .ok (.ifCond .eq 35, 3) := by decide +kernel
theorem d_MD_putRow_16 : decode b_MD_putRow 16 = .ok (.iload_n 3, 1) := by decide +kernel
theorem d_MD_putRow_17 : decode b_MD_putRow 17 = .ok (.bipush 8, 2) := by decide +kernel
theorem d_MD_putRow_19 : decode b_MD_putRow 19 = .ok (.if_icmp .ne 9, 3) := by decide +kernel
theorem d_MD_putRow_22 : decode b_MD_putRow 22 = .ok (.aload_n 0, 1) := by decide +kernel
theorem d_MD_putRow_23 : decode b_MD_putRow 23 = .ok (.bipush 32, 2) := by decide +kernel
theorem d_MD_putRow_25 : decode b_MD_putRow 25 = .ok (.invokevirtual 349, 3) := by decide +kernel
theorem d_MD_putRow_28 : decode b_MD_putRow 28 = .ok (.aload_n 0, 1) := by decide +kernel
theorem d_MD_putRow_29 : decode b_MD_putRow 29 = .ok (.iload_n 3, 1) := by decide +kernel
theorem d_MD_putRow_30 : decode b_MD_putRow 30 = .ok (.bipush 8, 2) := by decide +kernel
theorem d_MD_putRow_32 : decode b_MD_putRow 32 = .ok (.if_icmp .ne 8, 3) := by decide +kernel
theorem d_MD_putRow_35 : decode b_MD_putRow 35 = .ok (.bipush 124, 2) := by decide +kernel
theorem d_MD_putRow_37 : decode b_MD_putRow 37 = .ok (.goto 5, 3) := by decide +kernel
theorem d_MD_putRow_40 : decode b_MD_putRow 40 = .ok (.bipush 44, 2) := by decide +kernel
theorem d_MD_putRow_42 : decode b_MD_putRow 42 = .ok (.invokevirtual 349, 3) := by decide +kernel
theorem d_MD_putRow_45 : decode b_MD_putRow 45 = .ok (.goto 23, 3) := by decide +kernel
theorem d_MD_putRow_48 : decode b_MD_putRow 48 = .ok (.iload_n 2, 1) := by decide +kernel
theorem d_MD_putRow_49 : decode b_MD_putRow 49 = .ok (.sipush 200, 3) := by decide +kernel
theorem d_MD_putRow_52 : decode b_MD_putRow 52 = .ok (.iload_n 1, 1) := by decide +kernel
theorem d_MD_putRow_53 : decode b_MD_putRow 53 = .ok (.imul, 1) := by decide +kernel
theorem d_MD_putRow_54 : decode b_MD_putRow 54 = .ok (.if_icmp .le 9, 3) := by decide +kernel
theorem d_MD_putRow_57 : decode b_MD_putRow 57 = .ok (.aload_n 0, 1) := by decide +kernel
theorem d_MD_putRow_58 : decode b_MD_putRow 58 = .ok (.bipush 59, 2) := by decide +kernel
theorem d_MD_putRow_60 : decode b_MD_putRow 60 = .ok (.invokevirtual 349, 3) := by decide +kernel
theorem d_MD_putRow_63 : decode b_MD_putRow 63 = .ok (.aload_n 0, 1) := by decide +kernel
theorem d_MD_putRow_64 : decode b_MD_putRow 64 = .ok (.iload_n 2, 1) := by decide +kernel
theorem d_MD_putRow_65 : decode b_MD_putRow 65 = .ok (.invokevirtual 381, 3) := by decide +kernel
theorem d_MD_putRow_68 : decode b_MD_putRow 68 = .ok (.aload_n 0, 1) := by decide +kernel
theorem d_MD_putRow_69 : decode b_MD_putRow 69 = .ok (.bipush 32, 2) := by decide +kernel
theorem d_MD_putRow_71 : decode b_MD_putRow 71 = .ok (.invokevirtual 349, 3) := by decide +kernel
theorem d_MD_putRow_74 : decode b_MD_putRow 74 = .ok (.aload_n 0, 1) := by decide +kernel
theorem d_MD_putRow_75 : decode b_MD_putRow 75 = .ok (.aload_n 0, 1) := by decide +kernel
theorem d_MD_putRow_76 : decode b_MD_putRow 76 = .ok (.getfield 93, 3) := by decide +kernel
theorem d_MD_putRow_79 : decode b_MD_putRow 79 = .ok (.bipush 20, 2) := by decide +kernel
theorem d_MD_putRow_81 : decode b_MD_putRow 81 = .ok (.iload_n 2, 1) := by decide +kernel
theorem d_MD_putRow_82 : decode b_MD_putRow 82 = .ok (.imul, 1) := by decide +kernel
theorem d_MD_putRow_83 : decode b_MD_putRow 83 = .ok (.aload_n 0, 1) := by decide +kernel
theorem d_MD_putRow_84 : decode b_MD_putRow 84 = .ok (.getfield 86, 3) := by decide +kernel
theorem d_MD_putRow_87 : decode b_MD_putRow 87 = .ok (.iload_n 2, 1) := by decide +kernel
theorem d_MD_putRow_88 : decode b_MD_putRow 88 = .ok (.iaload, 1) := by decide +kernel
theorem d_MD_putRow_89 : decode b_MD_putRow 89 = .ok (.invokevirtual 374, 3) := by decide +kernel
theorem d_MD_putRow_92 : decode b_MD_putRow 92 = .ok (.iload_n 3, 1) := by decide +kernel
theorem d_MD_putRow_93 : decode b_MD_putRow 93 = .ok (.bipush 7, 2) := by decide +kernel
theorem d_MD_putRow_95 : decode b_MD_putRow 95 = .ok (.if_icmp .lt 9, 3) := by decide +kernel
theorem d_MD_putRow_98 : decode b_MD_putRow 98 = .ok (.iload_n 3, 1) := by decide +kernel
theorem d_MD_putRow_99 : decode b_MD_putRow 99 = .ok (.bipush 8, 2) := by decide +kernel
theorem d_MD_putRow_101 : decode b_MD_putRow 101 = .ok (.if_icmp .ne 11, 3) := by decide +kernel
theorem d_MD_putRow_104 : decode b_MD_putRow 104 = .ok (.aload_n 0, 1) := by decide +kernel
theorem d_MD_putRow_105 : decode b_MD_putRow 105 = .ok (.iload_n 2, 1) := by decide +kernel
theorem d_MD_putRow_106 : decode b_MD_putRow 106 = .ok (.invokevirtual 384, 3) := by decide +kernel
theorem d_MD_putRow_109 : decode b_MD_putRow 109 = .ok (.goto 83, 3) := by decide +kernel
theorem d_MD_putRow_112 : decode b_MD_putRow 112 = .ok (.iload_n 3, 1) := by decide +kernel
theorem d_MD_putRow_113 : decode b_MD_putRow 113 = .ok (.bipush 7, 2) := by decide +kernel
theorem d_MD_putRow_115 : decode b_MD_putRow 115 = .ok (.if_icmp .ne 22, 3) := by decide +kernel
theorem d_MD_putRow_118 : decode b_MD_putRow 118 = .ok (.aload_n 0, 1) := by decide +kernel
theorem d_MD_putRow_119 : decode b_MD_putRow 119 = .ok (.bipush 32, 2) := by decide +kernel
theorem d_MD_putRow_121 : decode b_MD_putRow 121 = .ok (.invokevirtual 349, 3) := by decide +kernel
theorem d_MD_putRow_124 : decode b_MD_putRow 124 = .ok (.aload_n 0, 1) := by decide +kernel
theorem d_MD_putRow_125 : decode b_MD_putRow 125 = .ok (.aload_n 0, 1) := by decide +kernel
theorem d_MD_putRow_126 : decode b_MD_putRow 126 = .ok (.getfield 99, 3) := by decide +kernel
theorem d_MD_putRow_129 : decode b_MD_putRow 129 = .ok (.iload_n 2, 1) := by decide +kernel
theorem d_MD_putRow_130 : decode b_MD_putRow 130 = .ok (.laload, 1) := by decide +kernel
theorem d_MD_putRow_131 : decode b_MD_putRow 131 = .ok (.invokevirtual 360, 3) := by decide +kernel
theorem d_MD_putRow_134 : decode b_MD_putRow 134 = .ok (.goto 58, 3) := by decide +kernel
theorem d_MD_putRow_137 : decode b_MD_putRow 137 = .ok (.iload_n 3, 1) := by decide +kernel
theorem d_MD_putRow_138 : decode b_MD_putRow 138 = .ok (.bipush 14, 2) := by decide +kernel
theorem d_MD_putRow_140 : decode b_MD_putRow 140 = .ok (.if_icmp .ne 30, 3) := by decide +kernel
theorem d_MD_putRow_143 : decode b_MD_putRow 143 = .ok (.aload_n 0, 1) := by decide +kernel
theorem d_MD_putRow_144 : decode b_MD_putRow 144 = .ok (.bipush 32, 2) := by decide +kernel
theorem d_MD_putRow_146 : decode b_MD_putRow 146 = .ok (.invokevirtual 349, 3) := by decide +kernel
theorem d_MD_putRow_149 : decode b_MD_putRow 149 = .ok (.aload_n 0, 1) := by decide +kernel
theorem d_MD_putRow_150 : decode b_MD_putRow 150 = .ok (.aload_n 0, 1) := by decide +kernel
theorem d_MD_putRow_151 : decode b_MD_putRow 151 = .ok (.getfield 96, 3) := by decide +kernel
theorem d_MD_putRow_154 : decode b_MD_putRow 154 = .ok (.bipush 20, 2) := by decide +kernel
theorem d_MD_putRow_156 : decode b_MD_putRow 156 = .ok (.iload_n 2, 1) := by decide +kernel
theorem d_MD_putRow_157 : decode b_MD_putRow 157 = .ok (.imul, 1) := by decide +kernel
theorem d_MD_putRow_158 : decode b_MD_putRow 158 = .ok (.aload_n 0, 1) := by decide +kernel
theorem d_MD_putRow_159 : decode b_MD_putRow 159 = .ok (.getfield 89, 3) := by decide +kernel
theorem d_MD_putRow_162 : decode b_MD_putRow 162 = .ok (.iload_n 2, 1) := by decide +kernel
theorem d_MD_putRow_163 : decode b_MD_putRow 163 = .ok (.iaload, 1) := by decide +kernel
theorem d_MD_putRow_164 : decode b_MD_putRow 164 = .ok (.invokevirtual 374, 3) := by decide +kernel
theorem d_MD_putRow_167 : decode b_MD_putRow 167 = .ok (.goto 25, 3) := by decide +kernel
theorem d_MD_putRow_170 : decode b_MD_putRow 170 = .ok (.iload_n 3, 1) := by decide +kernel
theorem d_MD_putRow_171 : decode b_MD_putRow 171 = .ok (.bipush 15, 2) := by decide +kernel
theorem d_MD_putRow_173 : decode b_MD_putRow 173 = .ok (.if_icmp .ne 19, 3) := by decide +kernel
theorem d_MD_putRow_176 : decode b_MD_putRow 176 = .ok (.aload_n 0, 1) := by decide +kernel
theorem d_MD_putRow_177 : decode b_MD_putRow 177 = .ok (.bipush 32, 2) := by decide +kernel
theorem d_MD_putRow_179 : decode b_MD_putRow 179 = .ok (.invokevirtual 349, 3) := by decide +kernel
theorem d_MD_putRow_182 : decode b_MD_putRow 182 = .ok (.aload_n 0, 1) := by decide +kernel
theorem d_MD_putRow_183 : decode b_MD_putRow 183 = .ok (.aload_n 0, 1) := by decide +kernel
theorem d_MD_putRow_184 : decode b_MD_putRow 184 = .ok (.getfield 99, 3) := by decide +kernel
theorem d_MD_putRow_187 : decode b_MD_putRow 187 = .ok (.iload_n 2, 1) := by decide +kernel
theorem d_MD_putRow_188 : decode b_MD_putRow 188 = .ok (.laload, 1) := by decide +kernel
theorem d_MD_putRow_189 : decode b_MD_putRow 189 = .ok (.invokevirtual 356, 3) := by decide +kernel
theorem d_MD_putRow_192 : decode b_MD_putRow 192 = .ok (.return_, 1) := by decide +kernel
theorem d_MD_isPrinted_0 : decode b_MD_isPrinted 0 = .ok (.sipush 200, 3) := by decide +kernel
theorem d_MD_isPrinted_3 : decode b_MD_isPrinted 3 = .ok (.iload_n 1, 1) := by decide +kernel
theorem d_MD_isPrinted_4 : decode b_MD_isPrinted 4 = .ok (.imul, 1) := by decide +kernel
theorem d_MD_isPrinted_5 : decode b_MD_isPrinted 5 = .ok (.istore_n 3, 1) := by decide +kernel
theorem d_MD_isPrinted_6 : decode b_MD_isPrinted 6 = .ok (.iload_n 3, 1) := by decide +kernel
theorem d_MD_isPrinted_7 : decode b_MD_isPrinted 7 = .ok (.sipush 200, 3) := by decide +kernel
theorem d_MD_isPrinted_10 : decode b_MD_isPrinted 10 = .ok (.iload_n 1, 1) := by decide +kernel
theorem d_MD_isPrinted_11 : decode b_MD_isPrinted 11 = .ok (.imul, 1) := by decide +kernel
theorem d_MD_isPrinted_12 : decode b_MD_isPrinted 12 = .ok (.aload_n 0, 1) := by decide +kernel
theorem d_MD_isPrinted_13 : decode b_MD_isPrinted 13 = .ok (.getfield 61, 3) := by decide +kernel
theorem d_MD_isPrinted_16 : decode b_MD_isPrinted 16 = .ok (.iload_n 1, 1) := by decide +kernel
theorem d_MD_isPrinted_17 : decode b_MD_isPrinted 17 = .ok (.iaload, 1) := by decide +kernel
theorem d_MD_isPrinted_18 : decode b_MD_isPrinted 18 = .ok (.iadd, 1) := by decide +kernel
theorem d_MD_isPrinted_19 : decode b_MD_isPrinted 19 = .ok (.if_icmp .ge 57, 3) := by decide +kernel
theorem d_MD_isPrinted_22 : decode b_MD_isPrinted 22 = .ok (.aload_n 0, 1) := by decide +kernel
theorem d_MD_isPrinted_23 : decode b_MD_isPrinted 23 = .ok (.getfield 80, 3) := by decide +kernel
theorem d_MD_isPrinted_26 : decode b_MD_isPrinted 26 = .ok (.iload_n 3, 1) := by decide +kernel
theorem d_MD_isPrinted_27 : decode b_MD_isPrinted 27 = .ok (.baload, 1) := by decide +kernel
theorem d_MD_isPrinted_28 : decode b_MD_isPrinted 28 = .ok (.bipush 9, 2) := by decide +kernel
theorem d_MD_isPrinted_30 : decode b_MD_isPrinted 30 = .ok (.if_icmp .ne 40, 3) := by decide +kernel
theorem d_MD_isPrinted_33 : decode b_MD_isPrinted 33 = .ok (.aload_n 0, 1) := by decide +kernel
theorem d_MD_isPrinted_34 : decode b_MD_isPrinted 34 = .ok (.aload_n 0, 1) := by decide +kernel
theorem d_MD_isPrinted_35 : decode b_MD_isPrinted 35 = .ok (.getfield 96, 3) := by decide +kernel
theorem d_MD_isPrinted_38 : decode b_MD_isPrinted 38 = .ok (.bipush 20, 2) := by decide +kernel
theorem d_MD_isPrinted_40 : decode b_MD_isPrinted 40 = .ok (.iload_n 3, 1) := by decide +kernel
theorem d_MD_isPrinted_41 : decode b_MD_isPrinted 41 = .ok (.imul, 1) := by decide +kernel
theorem d_MD_isPrinted_42 : decode b_MD_isPrinted 42 = .ok (.aload_n 0, 1) := by decide +kernel
theorem d_MD_isPrinted_43 : decode b_MD_isPrinted 43 = .ok (.getfield 89, 3) := by decide +kernel
theorem d_MD_isPrinted_46 : decode b_MD_isPrinted 46 = .ok (.iload_n 3, 1) := by decide +kernel
theorem d_MD_isPrinted_47 : decode b_MD_isPrinted 47 = .ok (.iaload, 1) := by decide +kernel
theorem d_MD_isPrinted_48 : decode b_MD_isPrinted 48 = .ok (.aload_n 0, 1) := by decide +kernel
theorem d_MD_isPrinted_49 : decode b_MD_isPrinted 49 = .ok (.getfield 74, 3) := by decide +kernel
theorem d_MD_isPrinted_52 : decode b_MD_isPrinted 52 = .ok (.bipush 20, 2) := by decide +kernel
theorem d_MD_isPrinted_54 : decode b_MD_isPrinted 54 = .ok (.iload_n 2, 1) := by decide +kernel
theorem d_MD_isPrinted_55 : decode b_MD_isPrinted 55 = .ok (.imul, 1) := by decide +kernel
theorem d_MD_isPrinted_56 : decode b_MD_isPrinted 56 = .ok (.aload_n 0, 1) := by decide +kernel
theorem d_MD_isPrinted_57 : decode b_MD_isPrinted 57 = .ok (.getfield 77, 3) := by decide +kernel
theorem d_MD_isPrinted_60 : decode b_MD_isPrinted 60 = .ok (.iload_n 2, 1) := by decide +kernel
theorem d_MD_isPrinted_61 : decode b_MD_isPrinted 61 = .ok (.iaload, 1) := by decide +kernel
theorem d_MD_isPrinted_62 : decode b_MD_isPrinted 62 = .ok (.invokevirtual 284, 3) := by decide +kernel
theorem d_MD_isPrinted_65 : decode b_MD_isPrinted 65 = .ok (.ifCond .ne 5, 3) := by decide +kernel
theorem d_MD_isPrinted_68 : decode b_MD_isPrinted 68 = .ok (.iconst 1, 1) := by decide +kernel
theorem d_MD_isPrinted_69 : decode b_MD_isPrinted 69 = .ok (.ireturn, 1) := by decide +kernel
theorem d_MD_isPrinted_70 : decode b_MD_isPrinted 70 = .ok (.iinc 3 1, 3) := by decide +kernel
theorem d_MD_isPrinted_73 : decode b_MD_isPrinted 73 = .ok (.goto (-67), 3) := by decide +kernel
theorem d_MD_isPrinted_76 : decode b_MD_isPrinted 76 = .ok (.sipush 250, 3) := by decide +kernel
theorem d_MD_isPrinted_79 : decode b_MD_isPrinted 79 = .ok (.iload_n 1, 1) := by decide +kernel
theorem d_MD_isPrinted_80 : decode b_MD_isPrinted 80 = .ok (.imul, 1) := by decide +kernel
theorem d_MD_isPrinted_81 : decode b_MD_isPrinted 81 = .ok (.istore_n 3, 1) := by decide +kernel
theorem d_MD_isPrinted_82 : decode b_MD_isPrinted 82 = .ok (.iload_n 3, 1) := by decide +kernel
theorem d_MD_isPrinted_83 : decode b_MD_isPrinted 83 = .ok (.iload_n 2, 1) := by decide +kernel
theorem d_MD_isPrinted_84 : decode b_MD_isPrinted 84 = .ok (.if_icmp .ge 46, 3) := by decide +kernel
theorem d_MD_isPrinted_87 : decode b_MD_isPrinted 87 = .ok (.aload_n 0, 1) := by decide +kernel
theorem d_MD_isPrinted_88 : decode b_MD_isPrinted 88 = .ok (.aload_n 0, 1) := by decide +kernel
theorem d_MD_isPrinted_89 : decode b_MD_isPrinted 89 = .ok (.getfield 74, 3) := by decide +kernel
theorem d_MD_isPrinted_92 : decode b_MD_isPrinted 92 = .ok (.bipush 20, 2) := by decide +kernel
theorem d_MD_isPrinted_94 : decode b_MD_isPrinted 94 = .ok (.iload_n 3, 1) := by decide +kernel
theorem d_MD_isPrinted_95 : decode b_MD_isPrinted 95 = .ok (.imul, 1) := by decide +kernel
theorem d_MD_isPrinted_96 : decode b_MD_isPrinted 96 = .ok (.aload_n 0, 1) := by decide +kernel
theorem d_MD_isPrinted_97 : decode b_MD_isPrinted 97 = .ok (.getfield 77, 3) := by decide +kernel
theorem d_MD_isPrinted_100 : decode b_MD_isPrinted 100 = .ok (.iload_n 3, 1) := by decide +kernel
theorem d_MD_isPrinted_101 : decode b_MD_isPrinted 101 = .ok (.iaload, 1) := by decide +kernel
theorem d_MD_isPrinted_102 : decode b_MD_isPrinted 102 = .ok (.aload_n 0, 1) := by decide +kernel
theorem d_MD_isPrinted_103 : decode b_MD_isPrinted 103 = .ok (.getfield 74, 3) := by decide +kernel
theorem d_MD_isPrinted_106 : decode b_MD_isPrinted 106 = .ok (.bipush 20, 2) := by decide +kernel
theorem d_MD_isPrinted_108 : decode b_MD_isPrinted 108 = .ok (.iload_n 2, 1) := by decide +kernel
theorem d_MD_isPrinted_109 : decode b_MD_isPrinted 109 = .ok (.imul, 1) := by decide +kernel
theorem d_MD_isPrinted_110 : decode b_MD_isPrinted 110 = .ok (.aload_n 0, 1) := by decide +kernel
theorem d_MD_isPrinted_111 : decode b_MD_isPrinted 111 = .ok (.getfield 77, 3) := by decide +kernel
theorem d_MD_isPrinted_114 : decode b_MD_isPrinted 114 = .ok (.iload_n 2, 1) := by decide +kernel
theorem d_MD_isPrinted_115 : decode b_MD_isPrinted 115 = .ok (.iaload, 1) := by decide +kernel
theorem d_MD_isPrinted_116 : decode b_MD_isPrinted 116 = .ok (.invokevirtual 284, 3) := by decide +kernel
theorem d_MD_isPrinted_119 : decode b_MD_isPrinted 119 = .ok (.ifCond .ne 5, 3) := by decide +kernel
theorem d_MD_isPrinted_122 : decode b_MD_isPrinted 122 = .ok (.iconst 1, 1) := by decide +kernel
theorem d_MD_isPrinted_123 : decode b_MD_isPrinted 123 = .ok (.ireturn, 1) := by decide +kernel
theorem d_MD_isPrinted_124 : decode b_MD_isPrinted 124 = .ok (.iinc 3 1, 3) := by decide +kernel
theorem d_MD_isPrinted_127 : decode b_MD_isPrinted 127 = .ok (.goto (-45), 3) := by decide +kernel
theorem d_MD_isPrinted_130 : decode b_MD_isPrinted 130 = .ok (.iconst 0, 1) := by decide +kernel
theorem d_MD_isPrinted_131 : decode b_MD_isPrinted 131 = .ok (.ireturn, 1) := by decide +kernel
theorem d_MD_print_0 : decode b_MD_print 0 = .ok (.aload_n 0, 1) := by decide +kernel
theorem d_MD_print_1 : decode b_MD_print 1 = .ok (.iconst 0, 1) := by decide +kernel
theorem d_MD_print_2 : decode b_MD_print 2 = .ok (.putfield 134, 3) := by decide +kernel
theorem d_MD_print_5 : decode b_MD_print 5 = .ok (.aload_n 0, 1) := by decide +kernel
theorem d_MD_print_6 : decode b_MD_print 6 = .ok (.iload_n 1, 1) := by decide +kernel
theorem d_MD_print_7 : decode b_MD_print 7 = .ok (.invokevirtual 317, 3) := by decide +kernel
theorem d_MD_print_10 : decode b_MD_print 10 = .ok (.ifCond .ne 5, 3) := by decide +kernel
theorem d_MD_print_13 : decode b_MD_print 13 = .ok (.iconst (-1), 1) := by decide +kernel
theorem d_MD_print_14 : decode b_MD_print 14 = .ok (.ireturn, 1) := by decide +kernel
theorem d_MD_print_15 : decode b_MD_print 15 = .ok (.aload_n 0, 1) := by decide +kernel
theorem d_MD_print_16 : decode b_MD_print 16 = .ok (.iconst 0, 1) := by decide +kernel
theorem d_MD_print_17 : decode b_MD_print 17 = .ok (.putfield 346, 3) := by decide +kernel
theorem d_MD_print_20 : decode b_MD_print 20 = .ok (.aload_n 0, 1) := by decide +kernel
theorem d_MD_print_21 : decode b_MD_print 21 = .ok (.ldc2_w 288, 3) := by decide +kernel
theorem d_MD_print_24 : decode b_MD_print 24 = .ok (.invokevirtual 371, 3) := by decide +kernel
theorem d_MD_print_27 : decode b_MD_print 27 = .ok (.aload_n 0, 1) := by decide +kernel
theorem d_MD_print_28 : decode b_MD_print 28 = .ok (.iconst 0, 1) := by decide +kernel
theorem d_MD_print_29 : decode b_MD_print 29 = .ok (.putfield 346, 3) := by decide +kernel
theorem d_MD_print_32 : decode b_MD_print 32 = .ok (.iconst 0, 1) := by decide +kernel
theorem d_MD_print_33 : decode b_MD_print 33 = .ok (.istore_n 2, 1) := by decide +kernel
theorem d_MD_print_34 : decode b_MD_print 34 = .ok (.iload_n 2, 1) := by decide +kernel
theorem d_MD_print_35 : decode b_MD_print 35 = .ok (.bipush 7, 2) := by decide +kernel
theorem d_MD_print_37 : decode b_MD_print 37 = .ok (.if_icmp .ge 21, 3) := by decide +kernel
theorem d_MD_print_40 : decode b_MD_print 40 = .ok (.aload_n 0, 1) := by decide +kernel
theorem d_MD_print_41 : decode b_MD_print 41 = .ok (.aload_n 0, 1) := by decide +kernel
theorem d_MD_print_42 : decode b_MD_print 42 = .ok (.getfield 131, 3) := by decide +kernel
theorem d_MD_print_45 : decode b_MD_print 45 = .ok (.iload_n 2, 1) := by decide +kernel
theorem d_MD_print_46 : decode b_MD_print 46 = .ok (.iconst 1, 1) := by decide +kernel
theorem d_MD_print_47 : decode b_MD_print 47 = .ok (.iadd, 1) := by decide +kernel
theorem d_MD_print_48 : decode b_MD_print 48 = .ok (.baload, 1) := by decide +kernel
theorem d_MD_print_49 : decode b_MD_print 49 = .ok (.invokevirtual 349, 3) := by decide +kernel
theorem d_MD_print_52 : decode b_MD_print 52 = .ok (.iinc 2 1, 3) := by decide +kernel
theorem d_MD_print_55 : decode b_MD_print 55 = .ok (.goto (-21), 3) := by decide +kernel
theorem d_MD_print_58 : decode b_MD_print 58 = .ok (.aload_n 0, 1) := by decide +kernel
theorem d_MD_print_59 : decode b_MD_print 59 = .ok (.bipush 32, 2) := by decide +kernel
theorem d_MD_print_61 : decode b_MD_print 61 = .ok (.invokevirtual 349, 3) := by decide +kernel
theorem d_MD_print_64 : decode b_MD_print 64 = .ok (.aload_n 0, 1) := by decide +kernel
theorem d_MD_print_65 : decode b_MD_print 65 = .ok (.aload_n 0, 1) := by decide +kernel
theorem d_MD_print_66 : decode b_MD_print 66 = .ok (.getfield 67, 3) := by decide +kernel
theorem d_MD_print_69 : decode b_MD_print 69 = .ok (.bipush 20, 2) := by decide +kernel
theorem d_MD_print_71 : decode b_MD_print 71 = .ok (.iload_n 1, 1) := by decide +kernel
theorem d_MD_print_72 : decode b_MD_print 72 = .ok (.imul, 1) := by decide +kernel
theorem d_MD_print_73 : decode b_MD_print 73 = .ok (.aload_n 0, 1) := by decide +kernel
theorem d_MD_print_74 : decode b_MD_print 74 = .ok (.getfield 58, 3) := by decide +kernel
theorem d_MD_print_77 : decode b_MD_print 77 = .ok (.iload_n 1, 1) := by decide +kernel
theorem d_MD_print_78 : decode b_MD_print 78 = .ok (.iaload, 1) := by decide +kernel
theorem d_MD_print_79 : decode b_MD_print 79 = .ok (.invokevirtual 374, 3) := by decide +kernel
theorem d_MD_print_82 : decode b_MD_print 82 = .ok (.aload_n 0, 1) := by decide +kernel
theorem d_MD_print_83 : decode b_MD_print 83 = .ok (.bipush 32, 2) := by decide +kernel
theorem d_MD_print_85 : decode b_MD_print 85 = .ok (.invokevirtual 349, 3) := by decide +kernel
theorem d_MD_print_88 : decode b_MD_print 88 = .ok (.aload_n 0, 1) := by decide +kernel
theorem d_MD_print_89 : decode b_MD_print 89 = .ok (.aload_n 0, 1) := by decide +kernel
theorem d_MD_print_90 : decode b_MD_print 90 = .ok (.getfield 70, 3) := by decide +kernel
theorem d_MD_print_93 : decode b_MD_print 93 = .ok (.iload_n 1, 1) := by decide +kernel
theorem d_MD_print_94 : decode b_MD_print 94 = .ok (.laload, 1) := by decide +kernel
theorem d_MD_print_95 : decode b_MD_print 95 = .ok (.invokevirtual 360, 3) := by decide +kernel
theorem d_MD_print_98 : decode b_MD_print 98 = .ok (.aload_n 0, 1) := by decide +kernel
theorem d_MD_print_99 : decode b_MD_print 99 = .ok (.bipush 59, 2) := by decide +kernel
theorem d_MD_print_101 : decode b_MD_print 101 = .ok (.invokevirtual 349, 3) := by decide +kernel
theorem d_MD_print_104 : decode b_MD_print 104 = .ok (.sipush 200, 3) := by decide +kernel
theorem d_MD_print_107 : decode b_MD_print 107 = .ok (.iload_n 1, 1) := by decide +kernel
theorem d_MD_print_108 : decode b_MD_print 108 = .ok (.imul, 1) := by decide +kernel
theorem d_MD_print_109 : decode b_MD_print 109 = .ok (.istore_n 2, 1) := by decide +kernel
theorem d_MD_print_110 : decode b_MD_print 110 = .ok (.iload_n 2, 1) := by decide +kernel
theorem d_MD_print_111 : decode b_MD_print 111 = .ok (.sipush 200, 3) := by decide +kernel
theorem d_MD_print_114 : decode b_MD_print 114 = .ok (.iload_n 1, 1) := by decide +kernel
theorem d_MD_print_115 : decode b_MD_print 115 = .ok (.imul, 1) := by decide +kernel
theorem d_MD_print_116 : decode b_MD_print 116 = .ok (.aload_n 0, 1) := by decide +kernel
theorem d_MD_print_117 : decode b_MD_print 117 = .ok (.getfield 61, 3) := by decide +kernel
theorem d_MD_print_120 : decode b_MD_print 120 = .ok (.iload_n 1, 1) := by decide +kernel
theorem d_MD_print_121 : decode b_MD_print 121 = .ok (.iaload, 1) := by decide +kernel
theorem d_MD_print_122 : decode b_MD_print 122 = .ok (.iadd, 1) := by decide +kernel
theorem d_MD_print_123 : decode b_MD_print 123 = .ok (.if_icmp .ge 15, 3) := by decide +kernel
theorem d_MD_print_126 : decode b_MD_print 126 = .ok (.aload_n 0, 1) := by decide +kernel
theorem d_MD_print_127 : decode b_MD_print 127 = .ok (.iload_n 1, 1) := by decide +kernel
theorem d_MD_print_128 : decode b_MD_print 128 = .ok (.iload_n 2, 1) := by decide +kernel
theorem d_MD_print_129 : decode b_MD_print 129 = .ok (.invokevirtual 387, 3) := by decide +kernel
theorem d_MD_print_132 : decode b_MD_print 132 = .ok (.iinc 2 1, 3) := by decide +kernel
theorem d_MD_print_135 : decode b_MD_print 135 = .ok (.goto (-25), 3) := by decide +kernel
theorem d_MD_print_138 : decode b_MD_print 138 = .ok (.aload_n 0, 1) := by decide +kernel
theorem d_MD_print_139 : decode b_MD_print 139 = .ok (.getfield 61, 3) := by decide +kernel
theorem d_MD_print_142 : decode b_MD_print 142 = .ok (.iload_n 1, 1) := by decide +kernel
theorem d_MD_print_143 : decode b_MD_print 143 = .ok (.iaload, 1) := by decide +kernel
theorem d_MD_print_144 : decode b_MD_print 144 = .ok (.ifCond .le 9, 3) := by decide +kernel
theorem d_MD_print_147 : decode b_MD_print 147 = .ok (.aload_n 0, 1) := by decide +kernel
theorem d_MD_print_148 : decode b_MD_print 148 = .ok (.bipush 59, 2) := by decide +kernel
theorem d_MD_print_150 : decode b_MD_print 150 = .ok (.invokevirtual 349, 3) := by decide +kernel
theorem d_MD_print_153 : decode b_MD_print 153 = .ok (.sipush 250, 3) := by decide +kernel
theorem d_MD_print_156 : decode b_MD_print 156 = .ok (.iload_n 1, 1) := by decide +kernel
theorem d_MD_print_157 : decode b_MD_print 157 = .ok (.imul, 1) := by decide +kernel
theorem d_MD_print_158 : decode b_MD_print 158 = .ok (.istore_n 2, 1) := by decide +kernel
theorem d_MD_print_159 : decode b_MD_print 159 = .ok (.iload_n 2, 1) := by decide +kernel
theorem d_MD_print_160 : decode b_MD_print 160 = .ok (.sipush 250, 3) := by decide +kernel
theorem d_MD_print_163 : decode b_MD_print 163 = .ok (.iload_n 1, 1) := by decide +kernel
theorem d_MD_print_164 : decode b_MD_print 164 = .ok (.imul, 1) := by decide +kernel
theorem d_MD_print_165 : decode b_MD_print 165 = .ok (.aload_n 0, 1) := by decide +kernel
theorem d_MD_print_166 : decode b_MD_print 166 = .ok (.getfield 64, 3) := by decide +kernel
theorem d_MD_print_169 : decode b_MD_print 169 = .ok (.iload_n 1, 1) := by decide +kernel
theorem d_MD_print_170 : decode b_MD_print 170 = .ok (.iaload, 1) := by decide +kernel
theorem d_MD_print_171 : decode b_MD_print 171 = .ok (.iadd, 1) := by decide +kernel
theorem d_MD_print_172 : decode b_MD_print 172 = .ok (.if_icmp .ge 64, 3) := by decide +kernel
theorem d_MD_print_175 : decode b_MD_print 175 = .ok (.aload_n 0, 1) := by decide +kernel
theorem d_MD_print_176 : decode b_MD_print 176 = .ok (.iload_n 1, 1) := by decide +kernel
theorem d_MD_print_177 : decode b_MD_print 177 = .ok (.iload_n 2, 1) := by decide +kernel
theorem d_MD_print_178 : decode b_MD_print 178 = .ok (.invokevirtual 390, 3) := by decide +kernel
theorem d_MD_print_181 : decode b_MD_print 181 = .ok (.ifCond .ne 49, 3) := by decide +kernel
theorem d_MD_print_184 : decode b_MD_print 184 = .ok (.aload_n 0, 1) := by decide +kernel
theorem d_MD_print_185 : decode b_MD_print 185 = .ok (.aload_n 0, 1) := by decide +kernel
theorem d_MD_print_186 : decode b_MD_print 186 = .ok (.bipush 9, 2) := by decide +kernel
theorem d_MD_print_188 : decode b_MD_print 188 = .ok (.invokevirtual 367, 3) := by decide +kernel
theorem d_MD_print_191 : decode b_MD_print 191 = .ok (.invokevirtual 371, 3) := by decide +kernel
theorem d_MD_print_194 : decode b_MD_print 194 = .ok (.aload_n 0, 1) := by decide +kernel
theorem d_MD_print_195 : decode b_MD_print 195 = .ok (.bipush 32, 2) := by decide +kernel
theorem d_MD_print_197 : decode b_MD_print 197 = .ok (.invokevirtual 349, 3) := by decide +kernel
theorem d_MD_print_200 : decode b_MD_print 200 = .ok (.aload_n 0, 1) := by decide +kernel
theorem d_MD_print_201 : decode b_MD_print 201 = .ok (.aload_n 0, 1) := by decide +kernel
theorem d_MD_print_202 : decode b_MD_print 202 = .ok (.getfield 74, 3) := by decide +kernel
theorem d_MD_print_205 : decode b_MD_print 205 = .ok (.bipush 20, 2) := by decide +kernel
theorem d_MD_print_207 : decode b_MD_print 207 = .ok (.iload_n 2, 1) := by decide +kernel
theorem d_MD_print_208 : decode b_MD_print 208 = .ok (.imul, 1) := by decide +kernel
theorem d_MD_print_209 : decode b_MD_print 209 = .ok (.aload_n 0, 1) := by decide +kernel
theorem d_MD_print_210 : decode b_MD_print 210 = .ok (.getfield 77, 3) := by decide +kernel
theorem d_MD_print_213 : decode b_MD_print 213 = .ok (.iload_n 2, 1) := by decide +kernel
theorem d_MD_print_214 : decode b_MD_print 214 = .ok (.iaload, 1) := by decide +kernel
theorem d_MD_print_215 : decode b_MD_print 215 = .ok (.invokevirtual 374, 3) := by decide +kernel
theorem d_MD_print_218 : decode b_MD_print 218 = .ok (.aload_n 0, 1) := by decide +kernel
theorem d_MD_print_219 : decode b_MD_print 219 = .ok (.bipush 58, 2) := by decide +kernel
theorem d_MD_print_221 : decode b_MD_print 221 = .ok (.invokevirtual 349, 3) := by decide +kernel
theorem d_MD_print_224 : decode b_MD_print 224 = .ok (.aload_n 0, 1) := by decide +kernel
theorem d_MD_print_225 : decode b_MD_print 225 = .ok (.bipush 59, 2) := by decide +kernel
theorem d_MD_print_227 : decode b_MD_print 227 = .ok (.invokevirtual 349, 3) := by decide +kernel
theorem d_MD_print_230 : decode b_MD_print 230 = .ok (.iinc 2 1, 3) := by decide +kernel
theorem d_MD_print_233 : decode b_MD_print 233 = .ok (.goto (-74), 3) := by decide +kernel
theorem d_MD_print_236 : decode b_MD_print 236 = .ok (.aload_n 0, 1) := by decide +kernel
theorem d_MD_print_237 : decode b_MD_print 237 = .ok (.getfield 346, 3) := by decide +kernel
theorem d_MD_print_240 : decode b_MD_print 240 = .ok (.ireturn, 1) := by decide +kernel
theorem d_MD_fold_0 : decode b_MD_fold 0 = .ok (.aload_n 0, 1) := by decide +kernel
theorem d_MD_fold_1 : decode b_MD_fold 1 = .ok (.iconst 0, 1) := by decide +kernel
theorem d_MD_fold_2 : decode b_MD_fold 2 = .ok (.putfield 134, 3) := by decide +kernel
theorem d_MD_fold_5 : decode b_MD_fold 5 = .ok (.aload_n 0, 1) := by decide +kernel
theorem d_MD_fold_6 : decode b_MD_fold 6 = .ok (.iconst 0, 1) := by decide +kernel
theorem d_MD_fold_7 : decode b_MD_fold 7 = .ok (.putfield 141, 3) := by decide +kernel
theorem d_MD_fold_10 : decode b_MD_fold 10 = .ok (.aload_n 0, 1) := by decide +kernel
theorem d_MD_fold_11 : decode b_MD_fold 11 = .ok (.iconst 0, 1) := by decide +kernel
theorem d_MD_fold_12 : decode b_MD_fold 12 = .ok (.putfield 163, 3) := by decide +kernel
theorem d_MD_fold_15 : decode b_MD_fold 15 = .ok (.aload_n 0, 1) := by decide +kernel
theorem d_MD_fold_16 : decode b_MD_fold 16 = .ok (.invokevirtual 170, 3) := by decide +kernel
theorem d_MD_fold_19 : decode b_MD_fold 19 = .ok (.aload_n 0, 1) := by decide +kernel
theorem d_MD_fold_20 : decode b_MD_fold 20 = .ok (.invokevirtual 253, 3) := by decide +kernel
theorem d_MD_fold_23 : decode b_MD_fold 23 = .ok (.istore_n 1, 1) := by decide +kernel
theorem d_MD_fold_24 : decode b_MD_fold 24 = .ok (.aload_n 0, 1) := by decide +kernel
theorem d_MD_fold_25 : decode b_MD_fold 25 = .ok (.getfield 241, 3) := by decide +kernel
theorem d_MD_fold_28 : decode b_MD_fold 28 = .ok (.istore_n 2, 1) := by decide +kernel
theorem d_MD_fold_29 : decode b_MD_fold 29 = .ok (.aload_n 0, 1) := by decide +kernel
theorem d_MD_fold_30 : decode b_MD_fold 30 = .ok (.invokevirtual 166, 3) := by decide +kernel
theorem d_MD_fold_33 : decode b_MD_fold 33 = .ok (.ifCond .ne 19, 3) := by decide +kernel
theorem d_MD_fold_36 : decode b_MD_fold 36 = .ok (.aload_n 0, 1) := by decide +kernel
theorem d_MD_fold_37 : decode b_MD_fold 37 = .ok (.getfield 150, 3) := by decide +kernel
theorem d_MD_fold_40 : decode b_MD_fold 40 = .ok (.iconst (-1), 1) := by decide +kernel
theorem d_MD_fold_41 : decode b_MD_fold 41 = .ok (.if_icmp .eq 11, 3) := by decide +kernel
theorem d_MD_fold_44 : decode b_MD_fold 44 = .ok (.aload_n 0, 1) := by decide +kernel
theorem d_MD_fold_45 : decode b_MD_fold 45 = .ok (.aload_n 0, 1) := by decide +kernel
theorem d_MD_fold_46 : decode b_MD_fold 46 = .ok (.getfield 147, 3) := by decide +kernel
theorem d_MD_fold_49 : decode b_MD_fold 49 = .ok (.invokevirtual 173, 3) := by decide +kernel
theorem d_MD_fold_52 : decode b_MD_fold 52 = .ok (.aload_n 0, 1) := by decide +kernel
theorem d_MD_fold_53 : decode b_MD_fold 53 = .ok (.iconst 0, 1) := by decide +kernel
theorem d_MD_fold_54 : decode b_MD_fold 54 = .ok (.putfield 138, 3) := by decide +kernel
theorem d_MD_fold_57 : decode b_MD_fold 57 = .ok (.aload_n 0, 1) := by decide +kernel
theorem d_MD_fold_58 : decode b_MD_fold 58 = .ok (.invokevirtual 166, 3) := by decide +kernel
theorem d_MD_fold_61 : decode b_MD_fold 61 = .ok (.ifCond .eq 8, 3) := by decide +kernel
theorem d_MD_fold_64 : decode b_MD_fold 64 = .ok (.aload_n 0, 1) := by decide +kernel
theorem d_MD_fold_65 : decode b_MD_fold 65 = .ok (.getfield 163, 3) := by decide +kernel
theorem d_MD_fold_68 : decode b_MD_fold 68 = .ok (.ireturn, 1) := by decide +kernel
theorem d_MD_fold_69 : decode b_MD_fold 69 = .ok (.aload_n 0, 1) := by decide +kernel
theorem d_MD_fold_70 : decode b_MD_fold 70 = .ok (.aload_n 0, 1) := by decide +kernel
theorem d_MD_fold_71 : decode b_MD_fold 71 = .ok (.getfield 7, 3) := by decide +kernel
theorem d_MD_fold_74 : decode b_MD_fold 74 = .ok (.iload_n 1, 1) := by decide +kernel
theorem d_MD_fold_75 : decode b_MD_fold 75 = .ok (.iload_n 2, 1) := by decide +kernel
theorem d_MD_fold_76 : decode b_MD_fold 76 = .ok (.aload_n 0, 1) := by decide +kernel
theorem d_MD_fold_77 : decode b_MD_fold 77 = .ok (.getfield 115, 3) := by decide +kernel
theorem d_MD_fold_80 : decode b_MD_fold 80 = .ok (.invokestatic 214, 3) := by decide +kernel
theorem d_MD_fold_83 : decode b_MD_fold 83 = .ok (.putfield 346, 3) := by decide +kernel
theorem d_MD_fold_86 : decode b_MD_fold 86 = .ok (.iconst 0, 1) := by decide +kernel
theorem d_MD_fold_87 : decode b_MD_fold 87 = .ok (.istore_n 3, 1) := by decide +kernel
theorem d_MD_fold_88 : decode b_MD_fold 88 = .ok (.iload_n 3, 1) := by decide +kernel
theorem d_MD_fold_89 : decode b_MD_fold 89 = .ok (.aload_n 0, 1) := by decide +kernel
theorem d_MD_fold_90 : decode b_MD_fold 90 = .ok (.getfield 346, 3) := by decide +kernel
theorem d_MD_fold_93 : decode b_MD_fold 93 = .ok (.if_icmp .ge 21, 3) := by decide +kernel
theorem d_MD_fold_96 : decode b_MD_fold 96 = .ok (.aload_n 0, 1) := by decide +kernel
theorem d_MD_fold_97 : decode b_MD_fold 97 = .ok (.getfield 131, 3) := by decide +kernel
theorem d_MD_fold_100 : decode b_MD_fold 100 = .ok (.iload_n 3, 1) := by decide +kernel
theorem d_MD_fold_101 : decode b_MD_fold 101 = .ok (.aload_n 0, 1) := by decide +kernel
theorem d_MD_fold_102 : decode b_MD_fold 102 = .ok (.getfield 115, 3) := by decide +kernel
theorem d_MD_fold_105 : decode b_MD_fold 105 = .ok (.iload_n 3, 1) := by decide +kernel
theorem d_MD_fold_106 : decode b_MD_fold 106 = .ok (.baload, 1) := by decide +kernel
theorem d_MD_fold_107 : decode b_MD_fold 107 = .ok (.bastore, 1) := by decide +kernel
theorem d_MD_fold_108 : decode b_MD_fold 108 = .ok (.iinc 3 1, 3) := by decide +kernel
theorem d_MD_fold_111 : decode b_MD_fold 111 = .ok (.goto (-23), 3) := by decide +kernel
theorem d_MD_fold_114 : decode b_MD_fold 114 = .ok (.aload_n 0, 1) := by decide +kernel
theorem d_MD_fold_115 : decode b_MD_fold 115 = .ok (.getfield 346, 3) := by decide +kernel
theorem d_MD_fold_118 : decode b_MD_fold 118 = .ok (.ireturn, 1) := by decide +kernel
theorem d_MD_at_0 : decode b_MD_at 0 = .ok (.aload_n 0, 1) := by decide +kernel
theorem d_MD_at_1 : decode b_MD_at 1 = .ok (.iconst 0, 1) := by decide +kernel
theorem d_MD_at_2 : decode b_MD_at 2 = .ok (.putfield 134, 3) := by decide +kernel
theorem d_MD_at_5 : decode b_MD_at 5 = .ok (.iload_n 1, 1) := by decide +kernel
theorem d_MD_at_6 : decode b_MD_at 6 = .ok (.ifCond .lt 20, 3) := by decide +kernel
theorem d_MD_at_9 : decode b_MD_at 9 = .ok (.iload_n 1, 1) := by decide +kernel
theorem d_MD_at_10 : decode b_MD_at 10 = .ok (.aload_n 0, 1) := by decide +kernel
theorem d_MD_at_11 : decode b_MD_at 11 = .ok (.getfield 346, 3) := by decide +kernel
theorem d_MD_at_14 : decode b_MD_at 14 = .ok (.if_icmp .ge 12, 3) := by decide +kernel
theorem d_MD_at_17 : decode b_MD_at 17 = .ok (.aload_n 0, 1) := by decide +kernel
theorem d_MD_at_18 : decode b_MD_at 18 = .ok (.getfield 131, 3) := by decide +kernel
theorem d_MD_at_21 : decode b_MD_at 21 = .ok (.iload_n 1, 1) := by decide +kernel
theorem d_MD_at_22 : decode b_MD_at 22 = .ok (.baload, 1) := by decide +kernel
theorem d_MD_at_23 : decode b_MD_at 23 = .ok (.goto 4, 3) := by decide +kernel
theorem d_MD_at_26 : decode b_MD_at 26 = .ok (.iconst (-1), 1) := by decide +kernel
theorem d_MD_at_27 : decode b_MD_at 27 = .ok (.ireturn, 1) := by decide +kernel
theorem d_LW_law_0 : decode code 0 = .ok (.new 7, 3) := by decide +kernel
theorem d_LW_law_3 : decode code 3 = .ok (.dup, 1) := by decide +kernel
theorem d_LW_law_4 : decode code 4 = .ok (.invokespecial 9, 3) := by decide +kernel
theorem d_LW_law_7 : decode code 7 = .ok (.astore_n 1, 1) := by decide +kernel
theorem d_LW_law_8 : decode code 8 = .ok (.new 10, 3) := by decide +kernel
theorem d_LW_law_11 : decode code 11 = .ok (.dup, 1) := by decide +kernel
theorem d_LW_law_12 : decode code 12 = .ok (.invokespecial 12, 3) := by decide +kernel
theorem d_LW_law_15 : decode code 15 = .ok (.astore_n 2, 1) := by decide +kernel
theorem d_LW_law_16 : decode code 16 = .ok (.iconst 0, 1) := by decide +kernel
theorem d_LW_law_17 : decode code 17 = .ok (.istore_n 3, 1) := by decide +kernel
theorem d_LW_law_18 : decode code 18 = .ok (.iload_n 3, 1) := by decide +kernel
theorem d_LW_law_19 : decode code 19 = .ok (.aload_n 0, 1) := by decide +kernel
theorem d_LW_law_20 : decode code 20 = .ok (.arraylength, 1) := by decide +kernel
theorem d_LW_law_21 : decode code 21 = .ok (.iconst 5, 1) := by decide +kernel
theorem d_LW_law_22 : decode code 22 = .ok (.isub, 1) := by decide +kernel
theorem d_LW_law_23 : decode code 23 = .ok (.if_icmp .gt 519, 3) := by decide +kernel
theorem d_LW_law_26 : decode code 26 = .ok (.aload_n 0, 1) := by decide +kernel
theorem d_LW_law_27 : decode code 27 = .ok (.iload_n 3, 1) := by decide +kernel
theorem d_LW_law_28 : decode code 28 = .ok (.iaload, 1) := by decide +kernel
theorem d_LW_law_29 : decode code 29 = .ok (.bipush 15, 2) := by decide +kernel
theorem d_LW_law_31 : decode code 31 = .ok (.iand, 1) := by decide +kernel
theorem d_LW_law_32 : decode code 32 = .ok (.tableswitch 504 0 13 #[72, 123, 136, 159, 202, 255, 289, 323, 346, 379, 412, 445, 468, 481], 72) := by decide +kernel
theorem d_LW_law_104 : decode code 104 = .ok (.aload_n 1, 1) := by decide +kernel
theorem d_LW_law_105 : decode code 105 = .ok (.aload_n 0, 1) := by decide +kernel
theorem d_LW_law_106 : decode code 106 = .ok (.iload_n 3, 1) := by decide +kernel
theorem d_LW_law_107 : decode code 107 = .ok (.iconst 1, 1) := by decide +kernel
theorem d_LW_law_108 : decode code 108 = .ok (.iadd, 1) := by decide +kernel
theorem d_LW_law_109 : decode code 109 = .ok (.iaload, 1) := by decide +kernel
theorem d_LW_law_110 : decode code 110 = .ok (.i2l, 1) := by decide +kernel
theorem d_LW_law_111 : decode code 111 = .ok (.bipush 32, 2) := by decide +kernel
theorem d_LW_law_113 : decode code 113 = .ok (.lshl, 1) := by decide +kernel
theorem d_LW_law_114 : decode code 114 = .ok (.aload_n 0, 1) := by decide +kernel
theorem d_LW_law_115 : decode code 115 = .ok (.iload_n 3, 1) := by decide +kernel
theorem d_LW_law_116 : decode code 116 = .ok (.iconst 2, 1) := by decide +kernel
theorem d_LW_law_117 : decode code 117 = .ok (.iadd, 1) := by decide +kernel
theorem d_LW_law_118 : decode code 118 = .ok (.iaload, 1) := by decide +kernel
theorem d_LW_law_119 : decode code 119 = .ok (.i2l, 1) := by decide +kernel
theorem d_LW_law_120 : decode code 120 = .ok (.ldc2_w 13, 3) := by decide +kernel
theorem d_LW_law_123 : decode code 123 = .ok (.land, 1) := by decide +kernel
theorem d_LW_law_124 : decode code 124 = .ok (.lor, 1) := by decide +kernel
theorem d_LW_law_125 : decode code 125 = .ok (.invokevirtual 15, 3) := by decide +kernel
theorem d_LW_law_128 : decode code 128 = .ok (.aload_n 2, 1) := by decide +kernel
theorem d_LW_law_129 : decode code 129 = .ok (.aload_n 0, 1) := by decide +kernel
theorem d_LW_law_130 : decode code 130 = .ok (.iload_n 3, 1) := by decide +kernel
theorem d_LW_law_131 : decode code 131 = .ok (.iconst 1, 1) := by decide +kernel
theorem d_LW_law_132 : decode code 132 = .ok (.iadd, 1) := by decide +kernel
theorem d_LW_law_133 : decode code 133 = .ok (.iaload, 1) := by decide +kernel
theorem d_LW_law_134 : decode code 134 = .ok (.i2l, 1) := by decide +kernel
theorem d_LW_law_135 : decode code 135 = .ok (.bipush 32, 2) := by decide +kernel
theorem d_LW_law_137 : decode code 137 = .ok (.lshl, 1) := by decide +kernel
theorem d_LW_law_138 : decode code 138 = .ok (.aload_n 0, 1) := by decide +kernel
theorem d_LW_law_139 : decode code 139 = .ok (.iload_n 3, 1) := by decide +kernel
theorem d_LW_law_140 : decode code 140 = .ok (.iconst 2, 1) := by decide +kernel
theorem d_LW_law_141 : decode code 141 = .ok (.iadd, 1) := by decide +kernel
theorem d_LW_law_142 : decode code 142 = .ok (.iaload, 1) := by decide +kernel
theorem d_LW_law_143 : decode code 143 = .ok (.i2l, 1) := by decide +kernel
theorem d_LW_law_144 : decode code 144 = .ok (.ldc2_w 13, 3) := by decide +kernel
theorem d_LW_law_147 : decode code 147 = .ok (.land, 1) := by decide +kernel
theorem d_LW_law_148 : decode code 148 = .ok (.lor, 1) := by decide +kernel
theorem d_LW_law_149 : decode code 149 = .ok (.invokevirtual 19, 3) := by decide +kernel
theorem d_LW_law_152 : decode code 152 = .ok (.goto 384, 3) := by decide +kernel
theorem d_LW_law_155 : decode code 155 = .ok (.aload_n 1, 1) := by decide +kernel
theorem d_LW_law_156 : decode code 156 = .ok (.invokevirtual 20, 3) := by decide +kernel
theorem d_LW_law_159 : decode code 159 = .ok (.aload_n 2, 1) := by decide +kernel
theorem d_LW_law_160 : decode code 160 = .ok (.invokevirtual 24, 3) := by decide +kernel
theorem d_LW_law_163 : decode code 163 = .ok (.if_icmp .eq 373, 3) := by decide +kernel
theorem d_LW_law_166 : decode code 166 = .ok (.iconst 0, 1) := by decide +kernel
theorem d_LW_law_167 : decode code 167 = .ok (.ireturn, 1) := by decide +kernel
theorem d_LW_law_168 : decode code 168 = .ok (.aload_n 1, 1) := by decide +kernel
theorem d_LW_law_169 : decode code 169 = .ok (.aload_n 0, 1) := by decide +kernel
theorem d_LW_law_170 : decode code 170 = .ok (.iload_n 3, 1) := by decide +kernel
theorem d_LW_law_171 : decode code 171 = .ok (.iconst 1, 1) := by decide +kernel
theorem d_LW_law_172 : decode code 172 = .ok (.iadd, 1) := by decide +kernel
theorem d_LW_law_173 : decode code 173 = .ok (.iaload, 1) := by decide +kernel
theorem d_LW_law_174 : decode code 174 = .ok (.invokevirtual 25, 3) := by decide +kernel
theorem d_LW_law_177 : decode code 177 = .ok (.aload_n 2, 1) := by decide +kernel
theorem d_LW_law_178 : decode code 178 = .ok (.aload_n 0, 1) := by decide +kernel
theorem d_LW_law_179 : decode code 179 = .ok (.iload_n 3, 1) := by decide +kernel
theorem d_LW_law_180 : decode code 180 = .ok (.iconst 1, 1) := by decide +kernel
theorem d_LW_law_181 : decode code 181 = .ok (.iadd, 1) := by decide +kernel
theorem d_LW_law_182 : decode code 182 = .ok (.iaload, 1) := by decide +kernel
theorem d_LW_law_183 : decode code 183 = .ok (.invokevirtual 29, 3) := by decide +kernel
theorem d_LW_law_186 : decode code 186 = .ok (.if_icmp .eq 350, 3) := by decide +kernel
theorem d_LW_law_189 : decode code 189 = .ok (.iconst 0, 1) := by decide +kernel
theorem d_LW_law_190 : decode code 190 = .ok (.ireturn, 1) := by decide +kernel
theorem d_LW_law_191 : decode code 191 = .ok (.aload_n 1, 1) := by decide +kernel
theorem d_LW_law_192 : decode code 192 = .ok (.aload_n 0, 1) := by decide +kernel
theorem d_LW_law_193 : decode code 193 = .ok (.iload_n 3, 1) := by decide +kernel
theorem d_LW_law_194 : decode code 194 = .ok (.iconst 1, 1) := by decide +kernel
theorem d_LW_law_195 : decode code 195 = .ok (.iadd, 1) := by decide +kernel
theorem d_LW_law_196 : decode code 196 = .ok (.iaload, 1) := by decide +kernel
theorem d_LW_law_197 : decode code 197 = .ok (.aload_n 0, 1) := by decide +kernel
theorem d_LW_law_198 : decode code 198 = .ok (.iload_n 3, 1) := by decide +kernel
theorem d_LW_law_199 : decode code 199 = .ok (.iconst 2, 1) := by decide +kernel
theorem d_LW_law_200 : decode code 200 = .ok (.iadd, 1) := by decide +kernel
theorem d_LW_law_201 : decode code 201 = .ok (.iaload, 1) := by decide +kernel
theorem d_LW_law_202 : decode code 202 = .ok (.aload_n 0, 1) := by decide +kernel
theorem d_LW_law_203 : decode code 203 = .ok (.iload_n 3, 1) := by decide +kernel
theorem d_LW_law_204 : decode code 204 = .ok (.iconst 3, 1) := by decide +kernel
theorem d_LW_law_205 : decode code 205 = .ok (.iadd, 1) := by decide +kernel
theorem d_LW_law_206 : decode code 206 = .ok (.iaload, 1) := by decide +kernel
theorem d_LW_law_207 : decode code 207 = .ok (.invokevirtual 30, 3) := by decide +kernel
theorem d_LW_law_210 : decode code 210 = .ok (.aload_n 2, 1) := by decide +kernel
theorem d_LW_law_211 : decode code 211 = .ok (.aload_n 0, 1) := by decide +kernel
theorem d_LW_law_212 : decode code 212 = .ok (.iload_n 3, 1) := by decide +kernel
theorem d_LW_law_213 : decode code 213 = .ok (.iconst 1, 1) := by decide +kernel
theorem d_LW_law_214 : decode code 214 = .ok (.iadd, 1) := by decide +kernel
theorem d_LW_law_215 : decode code 215 = .ok (.iaload, 1) := by decide +kernel
theorem d_LW_law_216 : decode code 216 = .ok (.aload_n 0, 1) := by decide +kernel
theorem d_LW_law_217 : decode code 217 = .ok (.iload_n 3, 1) := by decide +kernel
theorem d_LW_law_218 : decode code 218 = .ok (.iconst 2, 1) := by decide +kernel
theorem d_LW_law_219 : decode code 219 = .ok (.iadd, 1) := by decide +kernel
theorem d_LW_law_220 : decode code 220 = .ok (.iaload, 1) := by decide +kernel
theorem d_LW_law_221 : decode code 221 = .ok (.aload_n 0, 1) := by decide +kernel
theorem d_LW_law_222 : decode code 222 = .ok (.iload_n 3, 1) := by decide +kernel
theorem d_LW_law_223 : decode code 223 = .ok (.iconst 3, 1) := by decide +kernel
theorem d_LW_law_224 : decode code 224 = .ok (.iadd, 1) := by decide +kernel
theorem d_LW_law_225 : decode code 225 = .ok (.iaload, 1) := by decide +kernel
theorem d_LW_law_226 : decode code 226 = .ok (.invokevirtual 34, 3) := by decide +kernel
theorem d_LW_law_229 : decode code 229 = .ok (.if_icmp .eq 307, 3) := by decide +kernel
theorem d_LW_law_232 : decode code 232 = .ok (.iconst 0, 1) := by decide +kernel
theorem d_LW_law_233 : decode code 233 = .ok (.ireturn, 1) := by decide +kernel
theorem d_LW_law_234 : decode code 234 = .ok (.aload_n 1, 1) := by decide +kernel
theorem d_LW_law_235 : decode code 235 = .ok (.aload_n 0, 1) := by decide +kernel
theorem d_LW_law_236 : decode code 236 = .ok (.iload_n 3, 1) := by decide +kernel
theorem d_LW_law_237 : decode code 237 = .ok (.iconst 1, 1) := by decide +kernel
theorem d_LW_law_238 : decode code 238 = .ok (.iadd, 1) := by decide +kernel
theorem d_LW_law_239 : decode code 239 = .ok (.iaload, 1) := by decide +kernel
theorem d_LW_law_240 : decode code 240 = .ok (.aload_n 0, 1) := by decide +kernel
theorem d_LW_law_241 : decode code 241 = .ok (.iload_n 3, 1) := by decide +kernel
theorem d_LW_law_242 : decode code 242 = .ok (.iconst 2, 1) := by decide +kernel
theorem d_LW_law_243 : decode code 243 = .ok (.iadd, 1) := by decide +kernel
theorem d_LW_law_244 : decode code 244 = .ok (.iaload, 1) := by decide +kernel
theorem d_LW_law_245 : decode code 245 = .ok (.aload_n 0, 1) := by decide +kernel
theorem d_LW_law_246 : decode code 246 = .ok (.iload_n 3, 1) := by decide +kernel
theorem d_LW_law_247 : decode code 247 = .ok (.iconst 3, 1) := by decide +kernel
theorem d_LW_law_248 : decode code 248 = .ok (.iadd, 1) := by decide +kernel
theorem d_LW_law_249 : decode code 249 = .ok (.iaload, 1) := by decide +kernel
theorem d_LW_law_250 : decode code 250 = .ok (.aload_n 0, 1) := by decide +kernel
theorem d_LW_law_251 : decode code 251 = .ok (.iload_n 3, 1) := by decide +kernel
theorem d_LW_law_252 : decode code 252 = .ok (.iconst 4, 1) := by decide +kernel
theorem d_LW_law_253 : decode code 253 = .ok (.iadd, 1) := by decide +kernel
theorem d_LW_law_254 : decode code 254 = .ok (.iaload, 1) := by decide +kernel
theorem d_LW_law_255 : decode code 255 = .ok (.invokevirtual 35, 3) := by decide +kernel
theorem d_LW_law_258 : decode code 258 = .ok (.aload_n 2, 1) := by decide +kernel
theorem d_LW_law_259 : decode code 259 = .ok (.aload_n 0, 1) := by decide +kernel
theorem d_LW_law_260 : decode code 260 = .ok (.iload_n 3, 1) := by decide +kernel
theorem d_LW_law_261 : decode code 261 = .ok (.iconst 1, 1) := by decide +kernel
theorem d_LW_law_262 : decode code 262 = .ok (.iadd, 1) := by decide +kernel
theorem d_LW_law_263 : decode code 263 = .ok (.iaload, 1) := by decide +kernel
theorem d_LW_law_264 : decode code 264 = .ok (.aload_n 0, 1) := by decide +kernel
theorem d_LW_law_265 : decode code 265 = .ok (.iload_n 3, 1) := by decide +kernel
theorem d_LW_law_266 : decode code 266 = .ok (.iconst 2, 1) := by decide +kernel
theorem d_LW_law_267 : decode code 267 = .ok (.iadd, 1) := by decide +kernel
theorem d_LW_law_268 : decode code 268 = .ok (.iaload, 1) := by decide +kernel
theorem d_LW_law_269 : decode code 269 = .ok (.aload_n 0, 1) := by decide +kernel
theorem d_LW_law_270 : decode code 270 = .ok (.iload_n 3, 1) := by decide +kernel
theorem d_LW_law_271 : decode code 271 = .ok (.iconst 3, 1) := by decide +kernel
theorem d_LW_law_272 : decode code 272 = .ok (.iadd, 1) := by decide +kernel
theorem d_LW_law_273 : decode code 273 = .ok (.iaload, 1) := by decide +kernel
theorem d_LW_law_274 : decode code 274 = .ok (.aload_n 0, 1) := by decide +kernel
theorem d_LW_law_275 : decode code 275 = .ok (.iload_n 3, 1) := by decide +kernel
theorem d_LW_law_276 : decode code 276 = .ok (.iconst 4, 1) := by decide +kernel
theorem d_LW_law_277 : decode code 277 = .ok (.iadd, 1) := by decide +kernel
theorem d_LW_law_278 : decode code 278 = .ok (.iaload, 1) := by decide +kernel
theorem d_LW_law_279 : decode code 279 = .ok (.invokevirtual 39, 3) := by decide +kernel
theorem d_LW_law_282 : decode code 282 = .ok (.if_icmp .eq 254, 3) := by decide +kernel
theorem d_LW_law_285 : decode code 285 = .ok (.iconst 0, 1) := by decide +kernel
theorem d_LW_law_286 : decode code 286 = .ok (.ireturn, 1) := by decide +kernel
theorem d_LW_law_287 : decode code 287 = .ok (.aload_n 1, 1) := by decide +kernel
theorem d_LW_law_288 : decode code 288 = .ok (.aload_n 0, 1) := by decide +kernel
theorem d_LW_law_289 : decode code 289 = .ok (.iload_n 3, 1) := by decide +kernel
theorem d_LW_law_290 : decode code 290 = .ok (.iconst 1, 1) := by decide +kernel
theorem d_LW_law_291 : decode code 291 = .ok (.iadd, 1) := by decide +kernel
theorem d_LW_law_292 : decode code 292 = .ok (.iaload, 1) := by decide +kernel
theorem d_LW_law_293 : decode code 293 = .ok (.aload_n 0, 1) := by decide +kernel
theorem d_LW_law_294 : decode code 294 = .ok (.iload_n 3, 1) := by decide +kernel
theorem d_LW_law_295 : decode code 295 = .ok (.iconst 2, 1) := by decide +kernel
theorem d_LW_law_296 : decode code 296 = .ok (.iadd, 1) := by decide +kernel
theorem d_LW_law_297 : decode code 297 = .ok (.iaload, 1) := by decide +kernel
theorem d_LW_law_298 : decode code 298 = .ok (.invokevirtual 40, 3) := by decide +kernel
theorem d_LW_law_301 : decode code 301 = .ok (.aload_n 2, 1) := by decide +kernel
theorem d_LW_law_302 : decode code 302 = .ok (.aload_n 0, 1) := by decide +kernel
theorem d_LW_law_303 : decode code 303 = .ok (.iload_n 3, 1) := by decide +kernel
theorem d_LW_law_304 : decode code 304 = .ok (.iconst 1, 1) := by decide +kernel
theorem d_LW_law_305 : decode code 305 = .ok (.iadd, 1) := by decide +kernel
theorem d_LW_law_306 : decode code 306 = .ok (.iaload, 1) := by decide +kernel
theorem d_LW_law_307 : decode code 307 = .ok (.aload_n 0, 1) := by decide +kernel
theorem d_LW_law_308 : decode code 308 = .ok (.iload_n 3, 1) := by decide +kernel
theorem d_LW_law_309 : decode code 309 = .ok (.iconst 2, 1) := by decide +kernel
theorem d_LW_law_310 : decode code 310 = .ok (.iadd, 1) := by decide +kernel
theorem d_LW_law_311 : decode code 311 = .ok (.iaload, 1) := by decide +kernel
theorem d_LW_law_312 : decode code 312 = .ok (.invokevirtual 44, 3) := by decide +kernel
theorem d_LW_law_315 : decode code 315 = .ok (.lcmp, 1) := by decide +kernel
theorem d_LW_law_316 : decode code 316 = .ok (.ifCond .eq 220, 3) := by decide +kernel
theorem d_LW_law_319 : decode code 319 = .ok (.iconst 0, 1) := by decide +kernel
theorem d_LW_law_320 : decode code 320 = .ok (.ireturn, 1) := by decide +kernel
theorem d_LW_law_321 : decode code 321 = .ok (.aload_n 1, 1) := by decide +kernel
theorem d_LW_law_322 : decode code 322 = .ok (.aload_n 0, 1) := by decide +kernel
theorem d_LW_law_323 : decode code 323 = .ok (.iload_n 3, 1) := by decide +kernel
theorem d_LW_law_324 : decode code 324 = .ok (.iconst 1, 1) := by decide +kernel
theorem d_LW_law_325 : decode code 325 = .ok (.iadd, 1) := by decide +kernel
theorem d_LW_law_326 : decode code 326 = .ok (.iaload, 1) := by decide +kernel
theorem d_LW_law_327 : decode code 327 = .ok (.aload_n 0, 1) := by decide +kernel
theorem d_LW_law_328 : decode code 328 = .ok (.iload_n 3, 1) := by decide +kernel
theorem d_LW_law_329 : decode code 329 = .ok (.iconst 2, 1) := by decide +kernel
theorem d_LW_law_330 : decode code 330 = .ok (.iadd, 1) := by decide +kernel
theorem d_LW_law_331 : decode code 331 = .ok (.iaload, 1) := by decide +kernel
theorem d_LW_law_332 : decode code 332 = .ok (.invokevirtual 45, 3) := by decide +kernel
theorem d_LW_law_335 : decode code 335 = .ok (.aload_n 2, 1) := by decide +kernel
theorem d_LW_law_336 : decode code 336 = .ok (.aload_n 0, 1) := by decide +kernel
theorem d_LW_law_337 : decode code 337 = .ok (.iload_n 3, 1) := by decide +kernel
theorem d_LW_law_338 : decode code 338 = .ok (.iconst 1, 1) := by decide +kernel
theorem d_LW_law_339 : decode code 339 = .ok (.iadd, 1) := by decide +kernel
theorem d_LW_law_340 : decode code 340 = .ok (.iaload, 1) := by decide +kernel
theorem d_LW_law_341 : decode code 341 = .ok (.aload_n 0, 1) := by decide +kernel
theorem d_LW_law_342 : decode code 342 = .ok (.iload_n 3, 1) := by decide +kernel
theorem d_LW_law_343 : decode code 343 = .ok (.iconst 2, 1) := by decide +kernel
theorem d_LW_law_344 : decode code 344 = .ok (.iadd, 1) := by decide +kernel
theorem d_LW_law_345 : decode code 345 = .ok (.iaload, 1) := by decide +kernel
theorem d_LW_law_346 : decode code 346 = .ok (.invokevirtual 48, 3) := by decide +kernel
theorem d_LW_law_349 : decode code 349 = .ok (.lcmp, 1) := by decide +kernel
theorem d_LW_law_350 : decode code 350 = .ok (.ifCond .eq 186, 3) := by decide +kernel
theorem d_LW_law_353 : decode code 353 = .ok (.iconst 0, 1) := by decide +kernel
theorem d_LW_law_354 : decode code 354 = .ok (.ireturn, 1) := by decide +kernel
theorem d_LW_law_355 : decode code 355 = .ok (.aload_n 1, 1) := by decide +kernel
theorem d_LW_law_356 : decode code 356 = .ok (.aload_n 0, 1) := by decide +kernel
theorem d_LW_law_357 : decode code 357 = .ok (.iload_n 3, 1) := by decide +kernel
theorem d_LW_law_358 : decode code 358 = .ok (.iconst 1, 1) := by decide +kernel
theorem d_LW_law_359 : decode code 359 = .ok (.iadd, 1) := by decide +kernel
theorem d_LW_law_360 : decode code 360 = .ok (.iaload, 1) := by decide +kernel
theorem d_LW_law_361 : decode code 361 = .ok (.invokevirtual 49, 3) := by decide +kernel
theorem d_LW_law_364 : decode code 364 = .ok (.aload_n 2, 1) := by decide +kernel
theorem d_LW_law_365 : decode code 365 = .ok (.aload_n 0, 1) := by decide +kernel
theorem d_LW_law_366 : decode code 366 = .ok (.iload_n 3, 1) := by decide +kernel
theorem d_LW_law_367 : decode code 367 = .ok (.iconst 1, 1) := by decide +kernel
theorem d_LW_law_368 : decode code 368 = .ok (.iadd, 1) := by decide +kernel
theorem d_LW_law_369 : decode code 369 = .ok (.iaload, 1) := by decide +kernel
theorem d_LW_law_370 : decode code 370 = .ok (.invokevirtual 52, 3) := by decide +kernel
theorem d_LW_law_373 : decode code 373 = .ok (.if_icmp .eq 163, 3) := by decide +kernel
theorem d_LW_law_376 : decode code 376 = .ok (.iconst 0, 1) := by decide +kernel
theorem d_LW_law_377 : decode code 377 = .ok (.ireturn, 1) := by decide +kernel
theorem d_LW_law_378 : decode code 378 = .ok (.aload_n 1, 1) := by decide +kernel
theorem d_LW_law_379 : decode code 379 = .ok (.aload_n 0, 1) := by decide +kernel
theorem d_LW_law_380 : decode code 380 = .ok (.iload_n 3, 1) := by decide +kernel
theorem d_LW_law_381 : decode code 381 = .ok (.iconst 1, 1) := by decide +kernel
theorem d_LW_law_382 : decode code 382 = .ok (.iadd, 1) := by decide +kernel
theorem d_LW_law_383 : decode code 383 = .ok (.iaload, 1) := by decide +kernel
theorem d_LW_law_384 : decode code 384 = .ok (.aload_n 0, 1) := by decide +kernel
theorem d_LW_law_385 : decode code 385 = .ok (.iload_n 3, 1) := by decide +kernel
theorem d_LW_law_386 : decode code 386 = .ok (.iconst 2, 1) := by decide +kernel
theorem d_LW_law_387 : decode code 387 = .ok (.iadd, 1) := by decide +kernel
theorem d_LW_law_388 : decode code 388 = .ok (.iaload, 1) := by decide +kernel
theorem d_LW_law_389 : decode code 389 = .ok (.invokevirtual 53, 3) := by decide +kernel
theorem d_LW_law_392 : decode code 392 = .ok (.aload_n 2, 1) := by decide +kernel
theorem d_LW_law_393 : decode code 393 = .ok (.aload_n 0, 1) := by decide +kernel
theorem d_LW_law_394 : decode code 394 = .ok (.iload_n 3, 1) := by decide +kernel
theorem d_LW_law_395 : decode code 395 = .ok (.iconst 1, 1) := by decide +kernel
theorem d_LW_law_396 : decode code 396 = .ok (.iadd, 1) := by decide +kernel
theorem d_LW_law_397 : decode code 397 = .ok (.iaload, 1) := by decide +kernel
theorem d_LW_law_398 : decode code 398 = .ok (.aload_n 0, 1) := by decide +kernel
theorem d_LW_law_399 : decode code 399 = .ok (.iload_n 3, 1) := by decide +kernel
theorem d_LW_law_400 : decode code 400 = .ok (.iconst 2, 1) := by decide +kernel
theorem d_LW_law_401 : decode code 401 = .ok (.iadd, 1) := by decide +kernel
theorem d_LW_law_402 : decode code 402 = .ok (.iaload, 1) := by decide +kernel
theorem d_LW_law_403 : decode code 403 = .ok (.invokevirtual 57, 3) := by decide +kernel
theorem d_LW_law_406 : decode code 406 = .ok (.if_icmp .eq 130, 3) := by decide +kernel
theorem d_LW_law_409 : decode code 409 = .ok (.iconst 0, 1) := by decide +kernel
theorem d_LW_law_410 : decode code 410 = .ok (.ireturn, 1) := by decide +kernel
theorem d_LW_law_411 : decode code 411 = .ok (.aload_n 1, 1) := by decide +kernel
theorem d_LW_law_412 : decode code 412 = .ok (.aload_n 0, 1) := by decide +kernel
theorem d_LW_law_413 : decode code 413 = .ok (.iload_n 3, 1) := by decide +kernel
theorem d_LW_law_414 : decode code 414 = .ok (.iconst 1, 1) := by decide +kernel
theorem d_LW_law_415 : decode code 415 = .ok (.iadd, 1) := by decide +kernel
theorem d_LW_law_416 : decode code 416 = .ok (.iaload, 1) := by decide +kernel
theorem d_LW_law_417 : decode code 417 = .ok (.aload_n 0, 1) := by decide +kernel
theorem d_LW_law_418 : decode code 418 = .ok (.iload_n 3, 1) := by decide +kernel
theorem d_LW_law_419 : decode code 419 = .ok (.iconst 2, 1) := by decide +kernel
theorem d_LW_law_420 : decode code 420 = .ok (.iadd, 1) := by decide +kernel
theorem d_LW_law_421 : decode code 421 = .ok (.iaload, 1) := by decide +kernel
theorem d_LW_law_422 : decode code 422 = .ok (.invokevirtual 58, 3) := by decide +kernel
theorem d_LW_law_425 : decode code 425 = .ok (.aload_n 2, 1) := by decide +kernel
theorem d_LW_law_426 : decode code 426 = .ok (.aload_n 0, 1) := by decide +kernel
theorem d_LW_law_427 : decode code 427 = .ok (.iload_n 3, 1) := by decide +kernel
theorem d_LW_law_428 : decode code 428 = .ok (.iconst 1, 1) := by decide +kernel
theorem d_LW_law_429 : decode code 429 = .ok (.iadd, 1) := by decide +kernel
theorem d_LW_law_430 : decode code 430 = .ok (.iaload, 1) := by decide +kernel
theorem d_LW_law_431 : decode code 431 = .ok (.aload_n 0, 1) := by decide +kernel
theorem d_LW_law_432 : decode code 432 = .ok (.iload_n 3, 1) := by decide +kernel
theorem d_LW_law_433 : decode code 433 = .ok (.iconst 2, 1) := by decide +kernel
theorem d_LW_law_434 : decode code 434 = .ok (.iadd, 1) := by decide +kernel
theorem d_LW_law_435 : decode code 435 = .ok (.iaload, 1) := by decide +kernel
theorem d_LW_law_436 : decode code 436 = .ok (.invokevirtual 62, 3) := by decide +kernel
theorem d_LW_law_439 : decode code 439 = .ok (.if_icmp .eq 97, 3) := by decide +kernel
theorem d_LW_law_442 : decode code 442 = .ok (.iconst 0, 1) := by decide +kernel
theorem d_LW_law_443 : decode code 443 = .ok (.ireturn, 1) := by decide +kernel
theorem d_LW_law_444 : decode code 444 = .ok (.aload_n 1, 1) := by decide +kernel
theorem d_LW_law_445 : decode code 445 = .ok (.aload_n 0, 1) := by decide +kernel
theorem d_LW_law_446 : decode code 446 = .ok (.iload_n 3, 1) := by decide +kernel
theorem d_LW_law_447 : decode code 447 = .ok (.iconst 1, 1) := by decide +kernel
theorem d_LW_law_448 : decode code 448 = .ok (.iadd, 1) := by decide +kernel
theorem d_LW_law_449 : decode code 449 = .ok (.iaload, 1) := by decide +kernel
theorem d_LW_law_450 : decode code 450 = .ok (.aload_n 0, 1) := by decide +kernel
theorem d_LW_law_451 : decode code 451 = .ok (.iload_n 3, 1) := by decide +kernel
theorem d_LW_law_452 : decode code 452 = .ok (.iconst 2, 1) := by decide +kernel
theorem d_LW_law_453 : decode code 453 = .ok (.iadd, 1) := by decide +kernel
theorem d_LW_law_454 : decode code 454 = .ok (.iaload, 1) := by decide +kernel
theorem d_LW_law_455 : decode code 455 = .ok (.invokevirtual 63, 3) := by decide +kernel
theorem d_LW_law_458 : decode code 458 = .ok (.aload_n 2, 1) := by decide +kernel
theorem d_LW_law_459 : decode code 459 = .ok (.aload_n 0, 1) := by decide +kernel
theorem d_LW_law_460 : decode code 460 = .ok (.iload_n 3, 1) := by decide +kernel
theorem d_LW_law_461 : decode code 461 = .ok (.iconst 1, 1) := by decide +kernel
theorem d_LW_law_462 : decode code 462 = .ok (.iadd, 1) := by decide +kernel
theorem d_LW_law_463 : decode code 463 = .ok (.iaload, 1) := by decide +kernel
theorem d_LW_law_464 : decode code 464 = .ok (.aload_n 0, 1) := by decide +kernel
theorem d_LW_law_465 : decode code 465 = .ok (.iload_n 3, 1) := by decide +kernel
theorem d_LW_law_466 : decode code 466 = .ok (.iconst 2, 1) := by decide +kernel
theorem d_LW_law_467 : decode code 467 = .ok (.iadd, 1) := by decide +kernel
theorem d_LW_law_468 : decode code 468 = .ok (.iaload, 1) := by decide +kernel
theorem d_LW_law_469 : decode code 469 = .ok (.invokevirtual 66, 3) := by decide +kernel
theorem d_LW_law_472 : decode code 472 = .ok (.if_icmp .eq 64, 3) := by decide +kernel
theorem d_LW_law_475 : decode code 475 = .ok (.iconst 0, 1) := by decide +kernel
theorem d_LW_law_476 : decode code 476 = .ok (.ireturn, 1) := by decide +kernel
theorem d_LW_law_477 : decode code 477 = .ok (.aload_n 1, 1) := by decide +kernel
theorem d_LW_law_478 : decode code 478 = .ok (.aload_n 0, 1) := by decide +kernel
theorem d_LW_law_479 : decode code 479 = .ok (.iload_n 3, 1) := by decide +kernel
theorem d_LW_law_480 : decode code 480 = .ok (.iconst 1, 1) := by decide +kernel
theorem d_LW_law_481 : decode code 481 = .ok (.iadd, 1) := by decide +kernel
theorem d_LW_law_482 : decode code 482 = .ok (.iaload, 1) := by decide +kernel
theorem d_LW_law_483 : decode code 483 = .ok (.invokevirtual 67, 3) := by decide +kernel
theorem d_LW_law_486 : decode code 486 = .ok (.aload_n 2, 1) := by decide +kernel
theorem d_LW_law_487 : decode code 487 = .ok (.aload_n 0, 1) := by decide +kernel
theorem d_LW_law_488 : decode code 488 = .ok (.iload_n 3, 1) := by decide +kernel
theorem d_LW_law_489 : decode code 489 = .ok (.iconst 1, 1) := by decide +kernel
theorem d_LW_law_490 : decode code 490 = .ok (.iadd, 1) := by decide +kernel
theorem d_LW_law_491 : decode code 491 = .ok (.iaload, 1) := by decide +kernel
theorem d_LW_law_492 : decode code 492 = .ok (.invokevirtual 70, 3) := by decide +kernel
theorem d_LW_law_495 : decode code 495 = .ok (.if_icmp .eq 41, 3) := by decide +kernel
theorem d_LW_law_498 : decode code 498 = .ok (.iconst 0, 1) := by decide +kernel
theorem d_LW_law_499 : decode code 499 = .ok (.ireturn, 1) := by decide +kernel
theorem d_LW_law_500 : decode code 500 = .ok (.aload_n 1, 1) := by decide +kernel
theorem d_LW_law_501 : decode code 501 = .ok (.invokevirtual 71, 3) := by decide +kernel
theorem d_LW_law_504 : decode code 504 = .ok (.aload_n 2, 1) := by decide +kernel
theorem d_LW_law_505 : decode code 505 = .ok (.invokevirtual 74, 3) := by decide +kernel
theorem d_LW_law_508 : decode code 508 = .ok (.if_icmp .eq 28, 3) := by decide +kernel
theorem d_LW_law_511 : decode code 511 = .ok (.iconst 0, 1) := by decide +kernel
theorem d_LW_law_512 : decode code 512 = .ok (.ireturn, 1) := by decide +kernel
theorem d_LW_law_513 : decode code 513 = .ok (.aload_n 1, 1) := by decide +kernel
theorem d_LW_law_514 : decode code 514 = .ok (.aload_n 0, 1) := by decide +kernel
theorem d_LW_law_515 : decode code 515 = .ok (.iload_n 3, 1) := by decide +kernel
theorem d_LW_law_516 : decode code 516 = .ok (.iconst 1, 1) := by decide +kernel
theorem d_LW_law_517 : decode code 517 = .ok (.iadd, 1) := by decide +kernel
theorem d_LW_law_518 : decode code 518 = .ok (.iaload, 1) := by decide +kernel
theorem d_LW_law_519 : decode code 519 = .ok (.invokevirtual 75, 3) := by decide +kernel
theorem d_LW_law_522 : decode code 522 = .ok (.aload_n 2, 1) := by decide +kernel
theorem d_LW_law_523 : decode code 523 = .ok (.aload_n 0, 1) := by decide +kernel
theorem d_LW_law_524 : decode code 524 = .ok (.iload_n 3, 1) := by decide +kernel
theorem d_LW_law_525 : decode code 525 = .ok (.iconst 1, 1) := by decide +kernel
theorem d_LW_law_526 : decode code 526 = .ok (.iadd, 1) := by decide +kernel
theorem d_LW_law_527 : decode code 527 = .ok (.iaload, 1) := by decide +kernel
theorem d_LW_law_528 : decode code 528 = .ok (.invokevirtual 78, 3) := by decide +kernel
theorem d_LW_law_531 : decode code 531 = .ok (.if_icmp .eq 5, 3) := by decide +kernel
theorem d_LW_law_534 : decode code 534 = .ok (.iconst 0, 1) := by decide +kernel
theorem d_LW_law_535 : decode code 535 = .ok (.ireturn, 1) := by decide +kernel
theorem d_LW_law_536 : decode code 536 = .ok (.iinc 3 5, 3) := by decide +kernel
theorem d_LW_law_539 : decode code 539 = .ok (.goto (-521), 3) := by decide +kernel
theorem d_LW_law_542 : decode code 542 = .ok (.iconst 1, 1) := by decide +kernel
theorem d_LW_law_543 : decode code 543 = .ok (.ireturn, 1) := by decide +kernel
